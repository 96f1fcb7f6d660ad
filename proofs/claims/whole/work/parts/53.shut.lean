-- calls with a truth value: shut
def bL (b : Bool) : Int64 := if b then 1 else 0
theorem b_arg (x : Int32) {P : Int32 → Prop} (h : P (bI (decide (x ≠ 0)))) : (x = 0 → P 0) ∧ (¬ x = 0 → P 1) := by
  refine ⟨fun e => ?_, fun e => ?_⟩
  · rw [decide_eq_false (fun hh => hh e)] at h; exact h
  · rw [decide_eq_true e] at h; exact h
theorem In_b {V : VV} {f k : Nat} (h : In V f k 1) : V f k = bI (decide (V f k ≠ 0)) := by
  have h1 := h.1
  have h2 := h.2
  have : vn V f k = 0 ∨ vn V f k = 1 := by omega
  rcases this with e | e
  · rw [e] at h1; rw [h1]; rfl
  · rw [e] at h1; rw [h1]; rfl
theorem In_bI {V : VV} {f k : Nat} {b : Bool} (h : V f k = bI b) : In V f k 1 := by
  cases b
  · exact (In_nI (n := 0) h (by decide) (by decide)).1
  · exact (In_nI (n := 1) h (by decide) (by decide)).1
theorem lc_cmpB {S : xm_S} {t : Nat} {res : Bool} {r : Int32} {A B : Prop} {C : Int64 → Int64 → Prop} (ho : st_t S 1200 = some (103, 1)) (ht : t < 100) (hl : t = 0 → st_l S 1200 0 = bL res) (hb : t = 0 → r = bI res) (hC : ∀ v w, (lg_cmp w v = 0 → A) ∧ (¬ lg_cmp w v = 0 → B) → C v w) (h : A) : (nI t = nI t → (¬ nI t = 0 → A) ∧ (nI t = 0 → ∃ n90, (some 1200 : Option Nat) = some n90 ∧ ∃ z93, st_t S n90 = some (103, z93) ∧ vp_in (0 : Int32) z93 ∧ (r = 0 → C (0 : Int64) (st_l S n90 ((0 : Int32)).toNatClampNeg)) ∧ (¬ r = 0 → C (1 : Int64) (st_l S n90 ((0 : Int32)).toNatClampNeg)))) ∧ (¬ nI t = nI t → B) := by
  refine ⟨fun _ => ⟨fun _ => h, fun e => ⟨1200, rfl, 1, ho, vp_in_nI (n := 0) (by decide) (by decide), ?_⟩⟩, fun e => absurd rfl e⟩
  rw [nI_z (by omega)] at e
  have hl : st_l S 1200 ((0 : Int32)).toNatClampNeg = bL res := hl e
  rw [hl, hb e]
  cases res
  · exact ⟨fun _ => hC _ _ ⟨fun _ => h, fun q => absurd (by unfold lg_cmp bL; simp) q⟩, fun q => absurd rfl q⟩
  · exact ⟨fun q => absurd q (by decide), fun _ => hC _ _ ⟨fun _ => h, fun q => absurd (by unfold lg_cmp bL; simp) q⟩⟩
theorem CR_shut {S : xm_S} {V : VV} {N m : Nat} {x : Int32} (hm : m < 3) (C : CR S V N) (I : Iv V) : CR (st_pi S 22 m x) (uV V 41 m x) N := by
  have K : KX fA0 (E1 22 m) N S (st_pi S 22 m x) := KX_pi (KX_rfl _ _ _ _) (E1_t _ _)
  have et : ∀ q, eT V (uV V 41 m x) q := eT_v fun f k h => uV_n _ _ _ _ _ _ (by omega)
  have b18 := I.2.2.1.1.2
  have b21 := I.2.2.1.2.2.2.1.2
  obtain ⟨hN, hf, c1, c2, c3, c4, c5, c6, c7, c8, c9, c10, c11, c12, c13⟩ := C
  refine ⟨by omega, hf, gS_X c1 K hN (fun k => by rfl), gX_X c2 c1 K hN (fun k => by exact E1_f (by omega)) (fun f hf9 => by exact uV_n _ _ _ _ _ _ (by omega)), gO_X c3 K hN (fun k hk => by rfl), gT_X c4 K hN (by rfl) (by exact E1_f (by omega)) (fun k => by exact E1_f (by omega)) (by exact et _), gP_X c5 K hN (fun n k hn => by rfl) (fun n k g1 g2 => by exact E1_f (by omega)) (fun k hk => ⟨by exact uV_n _ _ _ _ _ _ (by omega), by exact uV_n _ _ _ _ _ _ (by omega)⟩), gV_Y I c6 K hN (Nat.le_refl _) (fun n k hn => by rfl) (fun n k hn => by exact E1_f (by omega)) (fun f k hf9 => by exact uV_n _ _ _ _ _ _ (by omega)) (fun q hq => by exact et _), gW_X c7 K hN (Nat.le_refl _) (fun n k hn => by rfl) (fun n k hn => by exact E1_f (by omega)) (by exact uV_n _ _ _ _ _ _ (by omega)) (fun j hj => ⟨by exact et _, by exact uV_n _ _ _ _ _ _ (by omega), by exact uV_n _ _ _ _ _ _ (by omega)⟩), gA_X c8 K hN (Nat.le_refl _) (fun n k hn => by rfl) (fun n k hn => by exact E1_f (by omega)) (by exact uV_n _ _ _ _ _ _ (by omega)) (fun j hj => ⟨by exact et _, by exact uV_n _ _ _ _ _ _ (by omega), by exact uV_n _ _ _ _ _ _ (by omega)⟩), gL_X c9 c1 K hN (fun n k hn => by rfl) (fun n k hn => by exact E1_f (by omega)) (fun f k hf9 => by exact uV_n _ _ _ _ _ _ (by omega)), ?_, gI1_X c11 K hN (fun n k hn => by rfl), gI2_X c12 c11 c1 K hN (fun n k hn => by exact E1_f (by omega)) (fun f k hf9 => by exact uV_n _ _ _ _ _ _ (by omega)), gI3_X c13 c11 K hN (fun k => by rfl) (fun n k hn => by exact E1_f (by omega)) I.2.2.2.2.2.2.2.2.2.1.2 (fun f k hf9 => by exact uV_n _ _ _ _ _ _ (by omega))⟩
  intro k hk
  refine ⟨?_, ?_⟩
  · by_cases e : k = m
    · subst e; exact (st_i_pi_s _ _ _ _).trans (uV_s _ _ _ _).symm
    · rw [st_i_pi_n _ _ _ _ _ _ (by omega), uV_n _ _ _ _ _ _ (by omega)]; exact (c10 k hk).1
  · rw [st_i_pi_n _ _ _ _ _ _ (by omega), uV_n _ _ _ _ _ _ (by omega)]; exact (c10 k hk).2
theorem Iv_41 {V : VV} {m : Nat} {y : Bool} (I : Iv V) : Iv (uV V 41 m (bI y)) := by
  have ev : ∀ f k, f ≠ 41 → uV V 41 m (bI y) f k = V f k := fun f k h => uV_n _ _ _ _ _ _ (by omega)
  have et : ∀ q, eTs V (uV V 41 m (bI y)) q := fun q => ⟨ev _ _ (by omega), fun s hs => ev _ _ (by omega)⟩
  obtain ⟨g1, g2, g3, g4, g5, g6, g7, g8⟩ := I.2.2.2.1
  refine ⟨Iv1_e I.1 fun f k h => ev f k (by omega), Iv2_e I.1 I.2.1 (fun f k h => ev f k (by omega)) fun q hq _ => et q, Iv3_e I.2.2.1 (fun f k h => ev f k (by omega)) (fun q hq _ => et q) (fun q hq => VT_e (I.2.2.1.2.2.2.2.2.2 q hq) (et q)), ⟨In_e g1 (ev _ _ (by omega)), fun k hk => ⟨vLk_e (g2 k hk).1 (ev _ _ (by omega)) (ev _ _ (by omega)), vLk_e (g2 k hk).2 (ev _ _ (by omega)) (ev _ _ (by omega))⟩, fun k hk => ⟨In_e (g3 k hk).1 (ev _ _ (by omega)), ?_⟩, In_e g4 (ev _ _ (by omega)), In_e g5 (ev _ _ (by omega)), In_e g6 (ev _ _ (by omega)), In_e g7 (ev _ _ (by omega)), fun k hk => ?_⟩, Iv5_e I.2.2.2.2 fun f k h => ev f k (by omega)⟩
  · by_cases e : k = m
    · subst e; exact In_bI (b := y) (uV_s _ _ _ _)
    · exact In_e (g3 k hk).2 (uV_n _ _ _ _ _ _ (by omega))
  · obtain ⟨a, b, c, d⟩ := g8 k hk
    exact ⟨Im_e a (ev _ _ (by omega)), In_e b (ev _ _ (by omega)), In_e c (ev _ _ (by omega)), In_e d (ev _ _ (by omega))⟩
def t_shut (m : Int32) : Nat := if inB m 0 (nI 2) then 0 else 1
def v_shut (V : VV) (m : Int32) (y : Bool) : VV := if t_shut m = 0 then uV V 41 m.toNatClampNeg (bI y) else V
theorem Iv_shut {V : VV} {m : Int32} {y : Bool} (I : Iv V) : Iv (v_shut V m y) := by
  unfold v_shut
  split
  · exact Iv_41 I
  · exact I
theorem w_shut {S : xm_S} {V W : VV} {N : Nat} {m : Int32} {y : Bool} {g : Int32 → xm_S → Prop} (R : RR S V W N) (I : Iv V) (h : ∀ S' N', RR S' (v_shut V m y) W N' → (t_shut m = 0 → st_l S' 1200 0 = bL (decide (V 41 m.toNatClampNeg ≠ 0))) → g (nI (t_shut m)) S') : wp_L_shut (some 1) m (bI y) (some 1200) S g := by
  have I' := Iv_shut (m := m) (y := y) I
  have c1 := R.1.2.2.1
  unfold wp_L_shut wp_L_shut_16 wp_X11_shut
  refine ⟨1, rfl, c1.1, q_mirr (fun e => ?_) (fun e => ⟨rfl, ?_⟩)⟩
  · have t : t_shut m = 0 := by unfold t_shut; rw [if_pos e]
    obtain ⟨j, hj, ex⟩ := inB_nI e (by decide)
    subst ex
    have cj : (nI j).toNatClampNeg = j := nI_clamp (by omega)
    have v : v_shut V (nI j) y = uV V 41 j (bI y) := by unfold v_shut; rw [if_pos t, cj]
    rw [t, v, cj] at h
    rw [v] at I'
    have s := gS_22 c1
    have M := CR_gM R.1 j (by omega)
    have B := In_b (I.2.2.2.1.2.2.1 j (by omega)).2
    refine ⟨c1.1, 22, s.1, _, s.2.1, vp_in_nI (show j < 3 by omega) (by decide), fun y9 e9 => ⟨22, s.1, _, s.2.1, vp_in_nI (show j < 3 by omega) (by decide), bI_01 _, fun S17 e17 => ?_⟩⟩
    rw [cj] at e9 e17
    rw [M.1, B] at e9
    have R4 : RR S17 (uV V 41 j (bI y)) W N := by subst e17; exact ⟨CR_shut (by omega) R.1 I, MR_K R.2.1 (KM_pi (KM_rfl _) (by omega)), R.2.2⟩
    rw [e9]
    refine ⟨bI_01 _, bI_c (fun q => ?_) (fun q => ?_)⟩
    · exact w_out R4 I' fun S' R' hl => h S' N R' (fun _ => by rw [hl, q]; rfl)
    · exact w_out R4 I' fun S' R' hl => h S' N R' (fun _ => by rw [hl, q]; rfl)
  · have t : t_shut m = 1 := by unfold t_shut; rw [if_neg (by rw [e]; decide)]
    have v : v_shut V m y = V := by unfold v_shut; rw [if_neg (by rw [t]; decide)]
    rw [t, v] at h
    exact h S N R (fun e => absurd e (by decide))
theorem ml_shut {S : xm_S} {V W : VV} {N : Nat} {m : Int32} {y : Bool} {g : Int32 → xm_S → Prop} (R : RR S V W N) (I : Iv V) (IW : Iv W) (h : ∀ S' b, RR S' V (v_shut W m y) N → st_i S' 1000 0 = nI (t_shut m) → (t_shut m = 0 → b = bI (decide (W 41 m.toNatClampNeg ≠ 0))) → st_l S' 1200 0 = st_l S 1200 0 → g b S') : wp_X12_shut 1000 m (bI y) S g := by
  unfold wp_X12_shut wp_X12_shut_13
  refine m_mirr (bI_c (fun e => ⟨1000, rfl, R.2.1.1.1, m_may (t := 0) R I rfl (by decide) fun S4 R4 k4 e4 => ⟨fun _ => ?_, fun e => absurd e (by decide)⟩⟩) (fun e => ⟨1000, rfl, R.2.1.1.1, m_may (t := 1) R I rfl (by decide) fun S4 R4 k4 e4 => ⟨fun e => absurd rfl e, fun _ => ?_⟩⟩))
  · have t : t_shut m = 0 := by unfold t_shut; rw [if_pos e]
    obtain ⟨j, hj, ex⟩ := inB_nI e (by decide)
    subst ex
    have cj : (nI j).toNatClampNeg = j := nI_clamp (by omega)
    have v : v_shut W (nI j) y = uV W 41 j (bI y) := by unfold v_shut; rw [if_pos t, cj]
    rw [t, v, cj] at h
    have B := In_b (IW.2.2.2.1.2.2.1 j (by omega)).2
    have M4 := R4.2.1.1
    refine ⟨M4.1, _, MS_r M4 41, _, MS_t M4 41, vp_in_nI (show j < 3 by omega) (by decide), fun y9 e9 => ⟨_, MS_r M4 41, _, MS_t M4 41, vp_in_nI (show j < 3 by omega) (by decide), bI_01 _, fun S7 e7 => ?_⟩⟩
    rw [cj] at e9 e7
    rw [show st_i S4 (1001 + 41) j = W 41 j from R4.2.1.2.2 41 _ rfl, B] at e9
    have k7 : KC S4 S7 := by subst e7; exact KC_pi (KC_rfl _) (by omega)
    refine ⟨by rw [e9]; exact bI_01 _, h S7 _ (RR_m R4 I k7 (by subst e7; exact MR_a R4.2.1)) ?_ (fun _ => e9) ((KC_tr k4 k7 1200 (by omega)).2.2.1 0)⟩
    rw [e7, st_i_pi_n _ _ _ _ _ _ (by omega)]; exact e4
  · have t : t_shut m = 1 := by unfold t_shut; rw [if_neg (by rw [e]; decide)]
    have v : v_shut W m y = W := by unfold v_shut; rw [if_neg (by rw [t]; decide)]
    rw [t, v] at h
    exact h S4 _ R4 e4 (fun e => absurd e (by decide)) ((k4 1200 (by omega)).2.2.1 0)
theorem lc_shut {m b len kc ks N : Nat} {xs : Nat → Int32} {x4 : Int32} {S : xm_S} {V : VV} {g : Int32 → xm_S → Prop} {Z : Option Nat → Option Nat → Option Nat → Int32 → xm_S → Nat → Nat → Prop} (R : RR S V V N) (I : Iv V) (hm : vn V 54 0 ≤ m) (nx : NX m b len xs x4 kc ks g Z) (hv1 : vp_in (x4 + (1 : Int32)) len) (hv2 : vp_in (x4 + nI 2) len) : wp_L_law_2078 b len xs (some 1) (some 1000) (some 1200) x4 S kc ks g Z := by
  obtain ⟨k1, k2, nx⟩ := nx
  unfold wp_L_law_2078
  refine ⟨hv1, hv2, b_arg _ (P := fun q => wp_L_law_2099 b len xs (some 1) (some 1000) (some 1200) x4 q (xs ((x4 + (1 : Int32))).toNatClampNeg) (some 1) S kc ks g Z) ?_⟩
  unfold wp_L_law_2099
  refine ⟨by omega, by omega, w_shut R I fun S1 N1 R1 h1 => ⟨hv1, hv2, b_arg _ (P := fun q => wp_L_law_2126 b len xs (some 1) (some 1000) (some 1200) x4 (nI (t_shut (xs ((x4 + (1 : Int32))).toNatClampNeg))) q (xs ((x4 + (1 : Int32))).toNatClampNeg) (some 1000) S1 (kc + 1) (ks + 6) g Z) ?_⟩⟩
  unfold wp_L_law_2126 wp_L_law_2160 wp_L_law_2166
  refine ⟨1000, rfl, R1.2.1.1.1, by omega, by omega, ml_shut R1 (Iv_shut I) I fun S2 r R2 e2 hb hl => ⟨1000, rfl, R2.2.1.1.1, by omega, by omega, m_thrown R2.2.1 e2 ?_⟩⟩
  exact lc_cmpB (C := fun v w => (lg_cmp w v = 0 → wp_L_law_2965 b len xs (some 1) (some 1000) (some 1200) x4 S2 (kc + 1) (ks + 6) g Z) ∧ (¬ lg_cmp w v = 0 → kc + 1 ≤ 601024 ∧ ks + 6 ≤ 7293034 ∧ g (0 : Int32) S2)) R2.2.2 (by unfold t_shut; split <;> decide) (fun e => hl.trans (h1 e)) hb (fun _ _ q => q) (nx _ _ _ _ _ R2 (Iv_shut I) (md (by unfold v_shut; (repeat' split) <;> first | rfl | exact uV_n _ _ _ _ _ _ (by omega)) hm) (by omega) (by omega))

