-- shared rows of the calls that may throw
def inB (x a b : Int32) : Bool := decide (a ≤ x ∧ x ≤ b)
theorem inB_nI {x : Int32} {n : Nat} (h : inB x 0 (nI n) = true) (hn : n < 2 ^ 31) : ∃ j, j ≤ n ∧ x = nI j := by
  have h := of_decide_eq_true h
  exact nI_of2 (nI_toInt hn) (fun hh => by rw [fa_lt] at hh; have := (fa_le _ _).mp h.1; omega) h.2
theorem q_range {x a b : Int32} {S : xm_S} {g : xm_S → Prop} {Ex : String → xm_S → Prop} (h1 : inB x a b = true → g S) (h0 : inB x a b = false → Ex xm_eA S) : wp_X11_checkRange x a b S g Ex := by
  unfold wp_X11_checkRange wp_X11_checkRange_10
  refine ⟨fun e => h0 (decide_eq_false fun hh => ?_), fun e => ⟨fun e2 => h1 (decide_eq_true ⟨?_, e2⟩), fun e2 => h0 (decide_eq_false fun hh => e2 hh.2)⟩⟩
  · rw [fa_lt] at e; have := (fa_le _ _).mp hh.1; omega
  · rw [fa_lt] at e; rw [fa_le]; omega
theorem q_lt (x : Int32) (n : Nat) (hn : n + 1 < 2 ^ 31) {A B : Prop} (h1 : inB x 0 (nI n) = true → A) (h0 : inB x 0 (nI n) = false → B) : (x < 0 → B) ∧ (¬ x < 0 → (x < nI (n + 1) → A) ∧ (¬ x < nI (n + 1) → B)) := by
  have e1 : (nI (n + 1)).toInt = (n : Int) + 1 := by rw [nI_toInt hn]; omega
  have e0 : (nI n).toInt = (n : Int) := nI_toInt (by omega)
  have ez : (0 : Int32).toInt = 0 := rfl
  refine ⟨fun e => h0 (decide_eq_false fun hh => ?_), fun e => ⟨fun e2 => h1 (decide_eq_true ⟨?_, ?_⟩), fun e2 => h0 (decide_eq_false fun hh => e2 ?_)⟩⟩
  · rw [fa_lt] at e; have := (fa_le _ _).mp hh.1; omega
  · rw [fa_lt] at e; rw [fa_le]; omega
  · rw [fa_lt] at e2; rw [fa_le]; omega
  · rw [fa_lt]; have := (fa_le _ _).mp hh.2; omega
theorem q_pack {x : Int32} {S : xm_S} {g : xm_S → Prop} {Ex : String → xm_S → Prop} (h1 : inB x 0 (nI 5) = true → g S) (h0 : inB x 0 (nI 5) = false → Ex xm_eI S) : wp_X11_checkPack x S g Ex := by
  unfold wp_X11_checkPack wp_X11_checkPack_10
  exact q_lt x 5 (by decide) h1 h0
theorem q_plat {x : Int32} {S : xm_S} {g : xm_S → Prop} {Ex : String → xm_S → Prop} (h1 : inB x 0 (nI 2) = true → g S) (h0 : inB x 0 (nI 2) = false → Ex xm_eI S) : wp_X11_checkPlatform x S g Ex := by
  unfold wp_X11_checkPlatform wp_X11_checkPlatform_9
  exact q_lt x 2 (by decide) h1 h0
theorem q_mirr {x : Int32} {S : xm_S} {g : xm_S → Prop} {Ex : String → xm_S → Prop} (h1 : inB x 0 (nI 2) = true → g S) (h0 : inB x 0 (nI 2) = false → Ex xm_eI S) : wp_X11_checkMirror x S g Ex := by
  unfold wp_X11_checkMirror wp_X11_checkMirror_9
  exact q_lt x 2 (by decide) h1 h0
theorem m_in {x a b : Int32} {S : xm_S} {g : Int32 → xm_S → Prop} (h : g (bI (inB x a b)) S) : wp_X12_in x a b S g := pq_in h
theorem m_pack {x : Int32} {S : xm_S} {g : Int32 → xm_S → Prop} (h : g (bI (inB x 0 (nI 5))) S) : wp_X12_isPack x S g := by
  unfold wp_X12_isPack
  exact m_in ⟨bI_01 _, h⟩
theorem m_plat {x : Int32} {S : xm_S} {g : Int32 → xm_S → Prop} (h : g (bI (inB x 0 (nI 2))) S) : wp_X12_isPlatform x S g := by
  unfold wp_X12_isPlatform
  exact m_in ⟨bI_01 _, h⟩
theorem m_mirr {x : Int32} {S : xm_S} {g : Int32 → xm_S → Prop} (h : g (bI (inB x 0 (nI 2))) S) : wp_X12_isMirror x S g := by
  unfold wp_X12_isMirror
  exact m_in ⟨bI_01 _, h⟩
/-- the reference lays what it throws; behind it -/
theorem m_may {S : xm_S} {V W : VV} {N : Nat} {t : Nat} {s : Int32} {g : Int32 → xm_S → Prop} (R : RR S V W N) (I : Iv V) (es : s = nI t) (ht : t < 100) (h : ∀ S', RR S' V W N → KC S S' → st_i S' 1000 0 = nI t → g (bI (decide (t = 0))) S') : wp_X12_may 1000 s S g := by
  subst es
  unfold wp_X12_may wp_X12_may_14
  refine ⟨R.2.1.1.1, fun S2 e2 => ?_⟩
  have k : KC S S2 := by subst e2; exact KC_pi (KC_rfl _) (by omega)
  have R2 : RR S2 V W N := RR_m R I k (by subst e2; exact MR_thr R.2.1)
  have h := h S2 R2 k (by subst e2; exact st_i_pi_s _ _ _ _)
  rw [nI_z (by omega)]
  refine ⟨fun e => ⟨.inl rfl, ?_⟩, fun e => ⟨.inr rfl, ?_⟩⟩
  · rw [decide_eq_false e] at h; exact h
  · rw [decide_eq_true e] at h; exact h
theorem m_thrown {S : xm_S} {W : VV} {t : Nat} {g : Int32 → xm_S → Prop} (M : MR S W) (e : st_i S 1000 0 = nI t) (h : g (nI t) S) : wp_X12_thrown 1000 S g := by
  unfold wp_X12_thrown
  rw [e]
  exact ⟨M.1.1, h⟩
/-- 'out' is laid -/
theorem w_out {S : xm_S} {V W : VV} {N : Nat} {v : Int64} {g : Int32 → xm_S → Prop} (R : RR S V W N) (I : Iv V) (h : ∀ S', RR S' V W N → st_l S' 1200 0 = v → g 0 S') : ∃ n6, some 1200 = some n6 ∧ ∃ z9, st_t S n6 = some (103, z9) ∧ vp_in (0 : Int32) z9 ∧ ∀ S11, S11 = st_pl S n6 ((0 : Int32)).toNatClampNeg v → g (0 : Int32) S11 :=
  ⟨1200, rfl, 1, R.2.2, vp_in_nI (n := 0) (by decide) (by decide), fun S11 e => by subst e; exact h _ (RR_pl R I) (st_l_pl_s _ _ _ _)⟩
/-- the law's comparison behind a call that may throw -/
theorem lc_cmp {S : xm_S} {t : Nat} {res b : Int32} {A B : Prop} (ho : st_t S 1200 = some (103, 1)) (ht : t < 100) (hl : t = 0 → st_l S 1200 0 = res.toInt64) (hb : t = 0 → b = res) (h : A) : (nI t = nI t → (¬ nI t = 0 → A) ∧ (nI t = 0 → ∃ n90, (some 1200 : Option Nat) = some n90 ∧ ∃ z93, st_t S n90 = some (103, z93) ∧ vp_in (0 : Int32) z93 ∧ ((lg_cmp (st_l S n90 ((0 : Int32)).toNatClampNeg) (b.toInt64)) = 0 → A) ∧ (¬ (lg_cmp (st_l S n90 ((0 : Int32)).toNatClampNeg) (b.toInt64)) = 0 → B))) ∧ (¬ nI t = nI t → B) := by
  refine ⟨fun _ => ⟨fun _ => h, fun e => ⟨1200, rfl, 1, ho, vp_in_nI (n := 0) (by decide) (by decide), fun _ => h, fun e2 => ?_⟩⟩, fun e => absurd rfl e⟩
  rw [nI_z (by omega)] at e
  exfalso
  apply e2
  rw [show st_l S 1200 ((0 : Int32)).toNatClampNeg = res.toInt64 from hl e, hb e]
  unfold lg_cmp
  simp
-- policy
def tPolicy (l : Int32) : Nat := if inB l 0 (nI 15) then 0 else 1
def vPolicy (V : VV) (l : Int32) : VV := if inB l 0 (nI 15) then uV V 26 0 l else V
theorem CR_x4 {S : xm_S} {V : VV} {N : Nat} {x : Int32} (C : CR S V N) (I : Iv V) : CR (st_pi S 1 4 x) (uV V 26 0 x) N := by
  have K : KX fA0 (E1 1 4) N S (st_pi S 1 4 x) := KX_pi (KX_rfl _ _ _ _) (E1_t 1 4)
  have b18 := I.2.2.1.1.2
  have b21 := I.2.2.1.2.2.2.1.2
  have et : ∀ q, eT V (uV V 26 0 x) q := eT_v fun f k h => uV_n _ _ _ _ _ _ (by omega)
  obtain ⟨hN, hf, c1, c2, c3, c4, c5, c6, c7, c8, c9, c10, c11, c12, c13⟩ := C
  refine ⟨by omega, hf, gS_X c1 K hN (fun k => by rfl), ?_, gO_X c3 K hN (fun k hk => by rfl), gT_X c4 K hN (by rfl) (by exact E1_f (by omega)) (fun k => by exact E1_f (by omega)) (by exact et _), gP_X c5 K hN (fun n k hn => by rfl) (fun n k g1 g2 => by exact E1_f (by omega)) (fun k hk => ⟨by exact uV_n _ _ _ _ _ _ (by omega), by exact uV_n _ _ _ _ _ _ (by omega)⟩), gV_Y I c6 K hN (Nat.le_refl _) (fun n k hn => by rfl) (fun n k hn => by exact E1_f (by omega)) (fun f k hf9 => by exact uV_n _ _ _ _ _ _ (by omega)) (fun q hq => by exact et _), gW_X c7 K hN (Nat.le_refl _) (fun n k hn => by rfl) (fun n k hn => by exact E1_f (by omega)) (by exact uV_n _ _ _ _ _ _ (by omega)) (fun j hj => ⟨by exact et _, by exact uV_n _ _ _ _ _ _ (by omega), by exact uV_n _ _ _ _ _ _ (by omega)⟩), gA_X c8 K hN (Nat.le_refl _) (fun n k hn => by rfl) (fun n k hn => by exact E1_f (by omega)) (by exact uV_n _ _ _ _ _ _ (by omega)) (fun j hj => ⟨by exact et _, by exact uV_n _ _ _ _ _ _ (by omega), by exact uV_n _ _ _ _ _ _ (by omega)⟩), gL_X c9 c1 K hN (fun n k hn => by rfl) (fun n k hn => by exact E1_f (by omega)) (fun f k hf9 => by exact uV_n _ _ _ _ _ _ (by omega)), gM_X c10 K hN (fun n k hn => by exact E1_f (by omega)) (fun f k hf9 hk9 => by exact uV_n _ _ _ _ _ _ (by omega)), gI1_X c11 K hN (fun n k hn => by rfl), gI2_X c12 c11 c1 K hN (fun n k hn => by exact E1_f (by omega)) (fun f k hf9 => by exact uV_n _ _ _ _ _ _ (by omega)), gI3_X c13 c11 K hN (fun k => by rfl) (fun n k hn => by exact E1_f (by omega)) I.2.2.2.2.2.2.2.2.2.1.2 (fun f k hf9 => by exact uV_n _ _ _ _ _ _ (by omega))⟩
  obtain ⟨h1, h2, h3, h4, h5, h6, h7⟩ := c2
  exact ⟨h1, (st_i_pi_s _ _ _ _).trans (uV_s _ _ _ _).symm, h3, h4, h5, h6, h7⟩
theorem Iv_policy {V : VV} {l : Int32} (I : Iv V) : Iv (vPolicy V l) := by
  unfold vPolicy
  split
  next h =>
    obtain ⟨j, hj, e⟩ := inB_nI h (by decide)
    have ev : ∀ f k, f ≠ 26 → uV V 26 0 l f k = V f k := fun f k h => uV_n _ _ _ _ _ _ (by omega)
    have et : ∀ q, eTs V (uV V 26 0 l) q := fun q => ⟨ev _ _ (by omega), fun s hs => ev _ _ (by omega)⟩
    have I4 := I.2.2.2.1
    obtain ⟨g1, g2, g3, g4, g5, g6, g7, g8⟩ := I4
    refine ⟨Iv1_e I.1 fun f k h => ev f k (by omega), Iv2_e I.1 I.2.1 (fun f k h => ev f k (by omega)) fun q hq _ => et q, Iv3_e I.2.2.1 (fun f k h => ev f k (by omega)) (fun q hq _ => et q) (fun q hq => VT_e (I.2.2.1.2.2.2.2.2.2 q hq) (et q)), ⟨(In_nI (n := j) (by rw [e]; exact uV_s _ _ _ _) hj (by omega)).1, fun k hk => ⟨vLk_e (g2 k hk).1 (ev _ _ (by omega)) (ev _ _ (by omega)), vLk_e (g2 k hk).2 (ev _ _ (by omega)) (ev _ _ (by omega))⟩, fun k hk => ⟨In_e (g3 k hk).1 (ev _ _ (by omega)), In_e (g3 k hk).2 (ev _ _ (by omega))⟩, In_e g4 (ev _ _ (by omega)), In_e g5 (ev _ _ (by omega)), In_e g6 (ev _ _ (by omega)), In_e g7 (ev _ _ (by omega)), fun k hk => ?_⟩, Iv5_e I.2.2.2.2 fun f k h => ev f k (by omega)⟩
    obtain ⟨a, b, c, d⟩ := g8 k hk
    exact ⟨Im_e a (ev _ _ (by omega)), In_e b (ev _ _ (by omega)), In_e c (ev _ _ (by omega)), In_e d (ev _ _ (by omega))⟩
  next => exact I
theorem w_policy {S : xm_S} {V W : VV} {N : Nat} {l : Int32} {g : Int32 → xm_S → Prop} (R : RR S V W N) (I : Iv V) (h : ∀ S' N', RR S' (vPolicy V l) W N' → (tPolicy l = 0 → st_l S' 1200 0 = (V 26 0).toInt64) → g (nI (tPolicy l)) S') : wp_L_policy (some 1) l (some 1200) S g := by
  have I' := Iv_policy (l := l) I
  revert h I'
  unfold vPolicy tPolicy
  intro h I'
  unfold wp_L_policy wp_X11_policy
  refine ⟨1, rfl, R.1.2.2.1.1, q_range (fun e => ⟨R.1.2.2.1.1, fun S4 e4 => ?_⟩) (fun e => ⟨rfl, ?_⟩)⟩
  · rw [if_pos e] at I'
    rw [if_pos e, if_pos e] at h
    have R4 : RR S4 (uV V 26 0 l) W N := by subst e4; exact ⟨CR_x4 R.1 I, MR_K R.2.1 (KM_pi (KM_rfl _) (by omega)), R.2.2⟩
    rw [show st_i S 1 4 = V 26 0 from R.1.2.2.2.1.2.1]
    exact w_out R4 I' fun S' R' hl => h S' N R' (fun _ => hl)
  · rw [if_neg (by rw [e]; decide), if_neg (by rw [e]; decide)] at h
    exact h S N R (fun e => absurd e (by decide))
theorem ml_policy {S : xm_S} {V W : VV} {N : Nat} {l : Int32} {g : Int32 → xm_S → Prop} (R : RR S V W N) (I : Iv V) (h : ∀ S' b, RR S' V (vPolicy W l) N → st_i S' 1000 0 = nI (tPolicy l) → (tPolicy l = 0 → b = W 26 0) → st_l S' 1200 0 = st_l S 1200 0 → g b S') : wp_X12_policy 1000 l S g := by
  revert h
  unfold vPolicy tPolicy
  intro h
  unfold wp_X12_policy wp_X12_policy_16
  refine m_in (bI_c (fun e => ⟨1000, rfl, R.2.1.1.1, m_may (t := 0) R I rfl (by decide) fun S4 R4 k4 e4 => ⟨fun _ => ⟨R4.2.1.1.1, fun S7 e7 => ?_⟩, fun e => absurd e (by decide)⟩⟩) (fun e => ⟨1000, rfl, R.2.1.1.1, m_may (t := 1) R I rfl (by decide) fun S4 R4 k4 e4 => ⟨fun e => absurd rfl e, fun _ => ?_⟩⟩))
  · rw [if_pos e, if_pos e] at h
    have k7 : KC S4 S7 := by subst e7; exact KC_pi (KC_rfl _) (by omega)
    refine h S7 _ (RR_m R4 I k7 (by subst e7; exact MR_s R4.2.1)) ?_ (fun _ => R4.2.1.2.1 26 rfl) ((KC_tr k4 k7 1200 (by omega)).2.2.1 0)
    rw [e7, st_i_pi_n _ _ _ _ _ _ (by omega)]; exact e4
  · rw [if_neg (by rw [e]; decide), if_neg (by rw [e]; decide)] at h
    exact h S4 _ R4 e4 (fun e => absurd e (by decide)) ((k4 1200 (by omega)).2.2.1 0)
theorem lc_policy {m b len kc ks N : Nat} {xs : Nat → Int32} {x4 : Int32} {S : xm_S} {V : VV} {g : Int32 → xm_S → Prop} {Z : Option Nat → Option Nat → Option Nat → Int32 → xm_S → Nat → Nat → Prop} (R : RR S V V N) (I : Iv V) (hm : vn V 54 0 ≤ m) (nx : NX m b len xs x4 kc ks g Z) (hv : vp_in (x4 + (1 : Int32)) len) : wp_L_law_1136 b len xs (some 1) (some 1000) (some 1200) x4 S kc ks g Z := by
  obtain ⟨k1, k2, nx⟩ := nx
  unfold wp_L_law_1136 wp_L_law_1189
  refine ⟨hv, by omega, by omega, w_policy R I fun S1 N1 R1 h1 => ⟨hv, 1000, rfl, R1.2.1.1.1, by omega, by omega, ml_policy R1 (Iv_policy I) fun S2 b R2 e2 hb hl => ⟨1000, rfl, R2.2.1.1.1, by omega, by omega, m_thrown R2.2.1 e2 ?_⟩⟩⟩
  exact lc_cmp R2.2.2 (by unfold tPolicy; split <;> decide) (fun e => hl.trans (h1 e)) hb (nx _ _ _ _ _ R2 (Iv_policy I) (md (by unfold vPolicy; (repeat' split) <;> first | rfl | exact uV_n _ _ _ _ _ _ (by omega)) hm) (by omega) (by omega))
