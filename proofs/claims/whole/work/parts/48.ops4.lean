-- pass, scheme
theorem CR_x11 {S : xm_S} {V : VV} {N : Nat} {x : Int32} (C : CR S V N) (I : Iv V) : CR (st_pi S 1 11 x) (uV V 36 0 x) N := by
  have K : KX fA0 (E1 1 11) N S (st_pi S 1 11 x) := KX_pi (KX_rfl _ _ _ _) (E1_t 1 11)
  have et : ∀ q, eT V (uV V 36 0 x) q := eT_v fun f k h => uV_n _ _ _ _ _ _ (by omega)
  have b18 := I.2.2.1.1.2
  have b21 := I.2.2.1.2.2.2.1.2
  obtain ⟨hN, hf, c1, c2, c3, c4, c5, c6, c7, c8, c9, c10, c11, c12, c13⟩ := C
  refine ⟨by omega, hf, gS_X c1 K hN (fun k => by rfl), ?_, gO_X c3 K hN (fun k hk => by rfl), gT_X c4 K hN (by rfl) (by exact E1_f (by omega)) (fun k => by exact E1_f (by omega)) (by exact et _), gP_X c5 K hN (fun n k hn => by rfl) (fun n k g1 g2 => by exact E1_f (by omega)) (fun k hk => ⟨by exact uV_n _ _ _ _ _ _ (by omega), by exact uV_n _ _ _ _ _ _ (by omega)⟩), gV_Y I c6 K hN (Nat.le_refl _) (fun n k hn => by rfl) (fun n k hn => by exact E1_f (by omega)) (fun f k hf9 => by exact uV_n _ _ _ _ _ _ (by omega)) (fun q hq => by exact et _), gW_X c7 K hN (Nat.le_refl _) (fun n k hn => by rfl) (fun n k hn => by exact E1_f (by omega)) (by exact uV_n _ _ _ _ _ _ (by omega)) (fun j hj => ⟨by exact et _, by exact uV_n _ _ _ _ _ _ (by omega), by exact uV_n _ _ _ _ _ _ (by omega)⟩), gA_X c8 K hN (Nat.le_refl _) (fun n k hn => by rfl) (fun n k hn => by exact E1_f (by omega)) (by exact uV_n _ _ _ _ _ _ (by omega)) (fun j hj => ⟨by exact et _, by exact uV_n _ _ _ _ _ _ (by omega), by exact uV_n _ _ _ _ _ _ (by omega)⟩), gL_X c9 c1 K hN (fun n k hn => by rfl) (fun n k hn => by exact E1_f (by omega)) (fun f k hf9 => by exact uV_n _ _ _ _ _ _ (by omega)), gM_X c10 K hN (fun n k hn => by exact E1_f (by omega)) (fun f k hf9 hk9 => by exact uV_n _ _ _ _ _ _ (by omega)), gI1_X c11 K hN (fun n k hn => by rfl), gI2_X c12 c11 c1 K hN (fun n k hn => by exact E1_f (by omega)) (fun f k hf9 => by exact uV_n _ _ _ _ _ _ (by omega)), gI3_X c13 c11 K hN (fun k => by rfl) (fun n k hn => by exact E1_f (by omega)) I.2.2.2.2.2.2.2.2.2.1.2 (fun f k hf9 => by exact uV_n _ _ _ _ _ _ (by omega))⟩
  obtain ⟨h1, h2, h3, h4, h5, h6, h7⟩ := c2
  exact ⟨h1, h2, h3, (st_i_pi_s _ _ _ _).trans (uV_s _ _ _ _).symm, h5, h6, h7⟩
theorem Iv_36 {V : VV} {n : Nat} (I : Iv V) (hn : n ≤ 100000) : Iv (uV V 36 0 (nI n)) := by
  have ev : ∀ f k, f ≠ 36 → uV V 36 0 (nI n) f k = V f k := fun f k h => uV_n _ _ _ _ _ _ (by omega)
  have et : ∀ q, eTs V (uV V 36 0 (nI n)) q := fun q => ⟨ev _ _ (by omega), fun s hs => ev _ _ (by omega)⟩
  obtain ⟨g1, g2, g3, g4, g5, g6, g7, g8⟩ := I.2.2.2.1
  refine ⟨Iv1_e I.1 fun f k h => ev f k (by omega), Iv2_e I.1 I.2.1 (fun f k h => ev f k (by omega)) fun q hq _ => et q, Iv3_e I.2.2.1 (fun f k h => ev f k (by omega)) (fun q hq _ => et q) (fun q hq => VT_e (I.2.2.1.2.2.2.2.2.2 q hq) (et q)), ⟨In_e g1 (ev _ _ (by omega)), fun k hk => ⟨vLk_e (g2 k hk).1 (ev _ _ (by omega)) (ev _ _ (by omega)), vLk_e (g2 k hk).2 (ev _ _ (by omega)) (ev _ _ (by omega))⟩, fun k hk => ⟨In_e (g3 k hk).1 (ev _ _ (by omega)), In_e (g3 k hk).2 (ev _ _ (by omega))⟩, (In_nI (n := n) (uV_s _ _ _ _) hn (by omega)).1, In_e g5 (ev _ _ (by omega)), In_e g6 (ev _ _ (by omega)), In_e g7 (ev _ _ (by omega)), fun k hk => ?_⟩, Iv5_e I.2.2.2.2 fun f k h => ev f k (by omega)⟩
  obtain ⟨a, b, c, d⟩ := g8 k hk
  exact ⟨Im_e a (ev _ _ (by omega)), In_e b (ev _ _ (by omega)), In_e c (ev _ _ (by omega)), In_e d (ev _ _ (by omega))⟩
def t_pass (V : VV) (x : Int32) : Nat := if inB x 0 (nI 1000) then (if V 36 0 + x ≤ nI 100000 then 0 else 2) else 1
def v_pass (V : VV) (x : Int32) : VV := if t_pass V x = 0 then uV V 36 0 (V 36 0 + x) else V
theorem pass_n {V : VV} {x : Int32} (I : Iv V) (h : inB x 0 (nI 1000) = true) : ∃ n, n ≤ 101000 ∧ V 36 0 + x = nI n := by
  obtain ⟨j, hj, ex⟩ := inB_nI h (by decide)
  have g4 := I.2.2.2.1.2.2.2.1
  exact ⟨vn V 36 0 + j, by have := g4.2; omega, by rw [ex, g4.1, nI_add]⟩
theorem Iv_pass {V : VV} {x : Int32} (I : Iv V) : Iv (v_pass V x) := by
  unfold v_pass
  by_cases h : t_pass V x = 0
  · rw [if_pos h]
    unfold t_pass at h
    by_cases e : inB x 0 (nI 1000) = true
    · rw [if_pos e] at h
      obtain ⟨n, hn, en⟩ := pass_n I e
      by_cases e2 : V 36 0 + x ≤ nI 100000
      · rw [en] at e2 ⊢
        exact Iv_36 I (by rw [nI_leI (by omega) (by decide)] at e2; exact e2)
      · rw [if_neg e2] at h; exact absurd h (by decide)
    · rw [if_neg e] at h; exact absurd h (by decide)
  · rw [if_neg h]; exact I
theorem w_pass {S : xm_S} {V W : VV} {N : Nat} {x : Int32} {g : Int32 → xm_S → Prop} (R : RR S V W N) (I : Iv V) (h : ∀ S' N', RR S' (v_pass V x) W N' → (t_pass V x = 0 → st_l S' 1200 0 = (V 36 0 + x).toInt64) → g (nI (t_pass V x)) S') : wp_L_pass (some 1) x (some 1200) S g := by
  have I' := Iv_pass (x := x) I
  have c1 := R.1.2.2.1
  have e11 : st_i S 1 11 = V 36 0 := R.1.2.2.2.1.2.2.2.1
  unfold wp_L_pass wp_X11_pass
  refine ⟨1, rfl, c1.1, q_range (fun e => ?_) (fun e => .inl ⟨rfl, ?_⟩)⟩
  rw [e11]
  refine ⟨c1.1, fun e2 S4 e4 => ?_, fun e2 => .inr ⟨rfl, ?_⟩⟩
  · have t : t_pass V x = 0 := by unfold t_pass; rw [if_pos e, if_pos e2]
    rw [t] at h
    have v : v_pass V x = uV V 36 0 (V 36 0 + x) := by unfold v_pass; rw [if_pos t]
    rw [v] at h I'
    have R4 : RR S4 (uV V 36 0 (V 36 0 + x)) W N := by subst e4; exact ⟨CR_x11 R.1 I, MR_K R.2.1 (KM_pi (KM_rfl _) (by omega)), R.2.2⟩
    rw [show st_i S4 1 11 = V 36 0 + x by rw [e4]; exact st_i_pi_s _ _ _ _]
    exact w_out R4 I' fun S' R' hl => h S' N R' (fun _ => hl)
  · have t : t_pass V x = 2 := by unfold t_pass; rw [if_pos e, if_neg e2]
    have v : v_pass V x = V := by unfold v_pass; rw [if_neg (by rw [t]; decide)]
    rw [t, v] at h
    exact h S N R (fun e => absurd e (by decide))
  · have t : t_pass V x = 1 := by unfold t_pass; rw [if_neg (by rw [e]; decide)]
    have v : v_pass V x = V := by unfold v_pass; rw [if_neg (by rw [t]; decide)]
    rw [t, v] at h
    exact h S N R (fun e => absurd e (by decide))
theorem ml_pass {S : xm_S} {V W : VV} {N : Nat} {x : Int32} {g : Int32 → xm_S → Prop} (R : RR S V W N) (I : Iv V) (h : ∀ S' b, RR S' V (v_pass W x) N → st_i S' 1000 0 = nI (t_pass W x) → (t_pass W x = 0 → b = W 36 0 + x) → st_l S' 1200 0 = st_l S 1200 0 → g b S') : wp_X12_pass 1000 x S g := by
  unfold wp_X12_pass wp_X12_pass_33
  refine m_in (bI_c' (fun e => ⟨R.2.1.1.1, ?_⟩) (fun e => ⟨1000, rfl, R.2.1.1.1, m_may (t := 1) R I rfl (by decide) fun S4 R4 k4 e4 => ⟨fun e => absurd rfl e, fun _ => ?_⟩⟩))
  · rw [show st_i S 1000 36 = W 36 0 from R.2.1.2.1 36 rfl]
    refine ⟨fun e2 => ⟨1000, rfl, R.2.1.1.1, m_may (t := 0) R I rfl (by decide) fun S4 R4 k4 e4 => ⟨fun _ => ⟨R4.2.1.1.1, fun S7 e7 => ?_⟩, fun e => absurd e (by decide)⟩⟩, fun e2 => ⟨1000, rfl, R.2.1.1.1, m_may (t := 2) R I rfl (by decide) fun S4 R4 k4 e4 => ⟨fun e => absurd rfl e, fun _ => ?_⟩⟩⟩
    · have t : t_pass W x = 0 := by unfold t_pass; rw [if_pos e, if_pos e2]
      rw [t] at h
      have v : v_pass W x = uV W 36 0 (W 36 0 + x) := by unfold v_pass; rw [if_pos t]
      rw [v] at h
      rw [show st_i S4 1000 36 = W 36 0 from R4.2.1.2.1 36 rfl] at e7
      have k7 : KC S4 S7 := by subst e7; exact KC_pi (KC_rfl _) (by omega)
      refine h S7 _ (RR_m R4 I k7 (by subst e7; exact MR_s R4.2.1)) ?_ (fun _ => by rw [e7]; exact st_i_pi_s _ _ _ _) ((KC_tr k4 k7 1200 (by omega)).2.2.1 0)
      rw [e7, st_i_pi_n _ _ _ _ _ _ (by omega)]; exact e4
    · have t : t_pass W x = 2 := by unfold t_pass; rw [if_pos e, if_neg e2]
      have v : v_pass W x = W := by unfold v_pass; rw [if_neg (by rw [t]; decide)]
      rw [t, v] at h
      exact h S4 _ R4 e4 (fun e => absurd e (by decide)) ((k4 1200 (by omega)).2.2.1 0)
  · have t : t_pass W x = 1 := by unfold t_pass; rw [if_neg (by rw [e]; decide)]
    have v : v_pass W x = W := by unfold v_pass; rw [if_neg (by rw [t]; decide)]
    rw [t, v] at h
    exact h S4 _ R4 e4 (fun e => absurd e (by decide)) ((k4 1200 (by omega)).2.2.1 0)
theorem lc_pass {m b len kc ks N : Nat} {xs : Nat → Int32} {x4 : Int32} {S : xm_S} {V : VV} {g : Int32 → xm_S → Prop} {Z : Option Nat → Option Nat → Option Nat → Int32 → xm_S → Nat → Nat → Prop} (R : RR S V V N) (I : Iv V) (hm : vn V 54 0 ≤ m) (nx : NX m b len xs x4 kc ks g Z) (hv1 : vp_in (x4 + (1 : Int32)) len) : wp_L_law_1763 b len xs (some 1) (some 1000) (some 1200) x4 S kc ks g Z := by
  obtain ⟨k1, k2, nx⟩ := nx
  unfold wp_L_law_1763 wp_L_law_1816
  refine ⟨hv1, by omega, by omega, w_pass R I fun S1 N1 R1 h1 => ⟨hv1, 1000, rfl, R1.2.1.1.1, by omega, by omega, ml_pass R1 (Iv_pass I) fun S2 b R2 e2 hb hl => ⟨1000, rfl, R2.2.1.1.1, by omega, by omega, m_thrown R2.2.1 e2 ?_⟩⟩⟩
  exact lc_cmp R2.2.2 (by unfold t_pass; repeat' split
                          all_goals decide) (fun e => hl.trans (h1 e)) hb (nx _ _ _ _ _ R2 (Iv_pass I) (md (by unfold v_pass; (repeat' split) <;> first | rfl | exact uV_n _ _ _ _ _ _ (by omega)) hm) (by omega) (by omega))
theorem gS_4 {S : xm_S} (h : gS S) : st_r S 1 1 = some 4 ∧ st_t S 4 = some (115, 6) := ⟨h.2.2.1, h.2.2.2.1⟩
theorem CR_sch {S : xm_S} {V : VV} {N p s : Nat} (hp : p < 6) (C : CR S V N) (I : Iv V) : CR (st_pi S (100 + 2 * p) 0 (nI s)) (uV V 1 p (nI s)) N := by
  have K : KX fA0 (E1 (100 + 2 * p) 0) N S (st_pi S (100 + 2 * p) 0 (nI s)) := KX_pi (KX_rfl _ _ _ _) (E1_t _ _)
  have et : ∀ q, eT V (uV V 1 p (nI s)) q := eT_v fun f k h => uV_n _ _ _ _ _ _ (by omega)
  have b18 := I.2.2.1.1.2
  have b21 := I.2.2.1.2.2.2.1.2
  obtain ⟨hN, hf, c1, c2, c3, c4, c5, c6, c7, c8, c9, c10, c11, c12, c13⟩ := C
  refine ⟨by omega, hf, gS_X c1 K hN (fun k => by rfl), gX_X c2 c1 K hN (fun k => by exact E1_f (by omega)) (fun f hf9 => by exact uV_n _ _ _ _ _ _ (by omega)), gO_X c3 K hN (fun k hk => by rfl), gT_X c4 K hN (by rfl) (by exact E1_f (by omega)) (fun k => by exact E1_f (by omega)) (by exact et _), ?_, gV_Y I c6 K hN (Nat.le_refl _) (fun n k hn => by rfl) (fun n k hn => by exact E1_f (by omega)) (fun f k hf9 => by exact uV_n _ _ _ _ _ _ (by omega)) (fun q hq => by exact et _), gW_X c7 K hN (Nat.le_refl _) (fun n k hn => by rfl) (fun n k hn => by exact E1_f (by omega)) (by exact uV_n _ _ _ _ _ _ (by omega)) (fun j hj => ⟨by exact et _, by exact uV_n _ _ _ _ _ _ (by omega), by exact uV_n _ _ _ _ _ _ (by omega)⟩), gA_X c8 K hN (Nat.le_refl _) (fun n k hn => by rfl) (fun n k hn => by exact E1_f (by omega)) (by exact uV_n _ _ _ _ _ _ (by omega)) (fun j hj => ⟨by exact et _, by exact uV_n _ _ _ _ _ _ (by omega), by exact uV_n _ _ _ _ _ _ (by omega)⟩), gL_X c9 c1 K hN (fun n k hn => by rfl) (fun n k hn => by exact E1_f (by omega)) (fun f k hf9 => by exact uV_n _ _ _ _ _ _ (by omega)), gM_X c10 K hN (fun n k hn => by exact E1_f (by omega)) (fun f k hf9 hk9 => by exact uV_n _ _ _ _ _ _ (by omega)), gI1_X c11 K hN (fun n k hn => by rfl), gI2_X c12 c11 c1 K hN (fun n k hn => by exact E1_f (by omega)) (fun f k hf9 => by exact uV_n _ _ _ _ _ _ (by omega)), gI3_X c13 c11 K hN (fun k => by rfl) (fun n k hn => by exact E1_f (by omega)) I.2.2.2.2.2.2.2.2.2.1.2 (fun f k hf9 => by exact uV_n _ _ _ _ _ _ (by omega))⟩
  intro p' hp'
  obtain ⟨h1, h2, h3, h4, h5, h6, h7⟩ := c5 p' hp'
  have e2 : ∀ k, uV V 1 p (nI s) 2 k = V 2 k := fun k => uV_n _ _ _ _ _ _ (by omega)
  refine ⟨h1, h2, h3, h4, ?_, ?_, fun v hv => h7 v (by rw [vn_e (e2 _)] at hv; exact hv)⟩
  · by_cases e : p' = p
    · subst e; exact (st_i_pi_s _ _ _ _).trans (uV_s _ _ _ _).symm
    · rw [st_i_pi_n _ _ _ _ _ _ (by omega), uV_n _ _ _ _ _ _ (by omega)]; exact h5
  · rw [st_i_pi_n _ _ _ _ _ _ (by omega), e2]; exact h6
theorem Iv_sch {V : VV} {p s : Nat} (I : Iv V) (hs : s ≤ 2) : Iv (uV V 1 p (nI s)) := by
  have ev : ∀ f k, f ≠ 1 → uV V 1 p (nI s) f k = V f k := fun f k h => uV_n _ _ _ _ _ _ (by omega)
  have et : ∀ q, eTs V (uV V 1 p (nI s)) q := fun q => ⟨ev _ _ (by omega), fun s hs => ev _ _ (by omega)⟩
  obtain ⟨g1, g2, g3, g4⟩ := I.1
  have n1 : Iv1 (uV V 1 p (nI s)) := by
    refine ⟨fun k hk => ⟨?_, In_e (g1 k hk).2 (ev _ _ (by omega))⟩, fun a ha => ?_, fun a ha => ?_, fun a ha hu => ?_⟩
    · by_cases e : k = p
      · subst e; exact (In_nI (n := s) (uV_s _ _ _ _) hs (by omega)).1
      · exact In_e (g1 k hk).1 (uV_n _ _ _ _ _ _ (by omega))
    · obtain ⟨g1, g2, g3, g4, g5, g6⟩ := g2 a ha
      exact ⟨In_e g1 (ev _ _ (by omega)), In_e g2 (ev _ _ (by omega)), In_e g3 (ev _ _ (by omega)), In_e g4 (ev _ _ (by omega)), In_e g5 (ev _ _ (by omega)), In_e g6 (ev _ _ (by omega))⟩
    · obtain ⟨g1, g2, g3, g4⟩ := g3 a ha
      exact ⟨In_e g1 (ev _ _ (by omega)), In_e g2 (ev _ _ (by omega)), In_e g3 (ev _ _ (by omega)), In_e g4 (ev _ _ (by omega))⟩
    · have hu' : ¬ used V a := by unfold used at hu ⊢; rw [vn_e (ev 2 _ (by omega))] at hu; exact hu
      obtain ⟨q1, q2, q3, q4, q5, q6, q7⟩ := g4 a ha hu'
      rw [vn_e (ev 8 _ (by omega)), vn_e (ev 13 _ (by omega)), vn_e (ev 15 _ (by omega)), vn_e (ev 44 _ (by omega)), ev 7 _ (by omega), ev 42 _ (by omega)]
      exact ⟨q1, q2, q3, q4, q5, q6, fun j hj => by rw [ev 40 _ (by omega)]; exact q7 j hj⟩
  exact ⟨n1, Iv2_e I.1 I.2.1 (fun f k h => ev f k (by omega)) fun q hq _ => et q, Iv3_e I.2.2.1 (fun f k h => ev f k (by omega)) (fun q hq _ => et q) (fun q hq => VT_e (I.2.2.1.2.2.2.2.2.2 q hq) (et q)), Iv4_e I.2.2.2.1 fun f k h => ev f k (by omega), Iv5_e I.2.2.2.2 fun f k h => ev f k (by omega)⟩
def t_scheme (p s : Int32) : Nat := if inB p 0 (nI 5) then (if inB s 0 (nI 2) then 0 else 2) else 1
def v_scheme (V : VV) (p s : Int32) : VV := if t_scheme p s = 0 then uV V 1 p.toNatClampNeg s else V
theorem Iv_scheme {V : VV} {p s : Int32} (I : Iv V) : Iv (v_scheme V p s) := by
  unfold v_scheme
  by_cases h : t_scheme p s = 0
  · rw [if_pos h]
    unfold t_scheme at h
    by_cases e : inB p 0 (nI 5) = true
    · rw [if_pos e] at h
      by_cases e2 : inB s 0 (nI 2) = true
      · obtain ⟨j, hj, ex⟩ := inB_nI e2 (by decide)
        rw [ex]
        exact Iv_sch I hj
      · rw [if_neg e2] at h; exact absurd h (by decide)
    · rw [if_neg e] at h; exact absurd h (by decide)
  · rw [if_neg h]; exact I
theorem q_scheme {s : Int32} {A B : Prop} (h1 : inB s 0 (nI 2) = true → A) (h0 : inB s 0 (nI 2) = false → B) : (s < 0 → B) ∧ (¬ s < 0 → (s ≤ nI 2 → A) ∧ (¬ s ≤ nI 2 → B)) := by
  refine ⟨fun e => h0 (decide_eq_false fun hh => ?_), fun e => ⟨fun e2 => h1 (decide_eq_true ⟨?_, e2⟩), fun e2 => h0 (decide_eq_false fun hh => e2 hh.2)⟩⟩
  · rw [fa_lt] at e; have := (fa_le _ _).mp hh.1; omega
  · rw [fa_lt] at e; rw [fa_le]; omega
theorem w_scheme {S : xm_S} {V W : VV} {N : Nat} {p s : Int32} {g : Int32 → xm_S → Prop} (R : RR S V W N) (I : Iv V) (h : ∀ S' N', RR S' (v_scheme V p s) W N' → (t_scheme p s = 0 → st_l S' 1200 0 = (V 1 p.toNatClampNeg).toInt64) → g (nI (t_scheme p s)) S') : wp_L_scheme (some 1) p s (some 1200) S g := by
  have I' := Iv_scheme (p := p) (s := s) I
  have c1 := R.1.2.2.1
  have c4 := gS_4 c1
  unfold wp_L_scheme wp_X11_scheme wp_X11_scheme_13
  refine ⟨1, rfl, c1.1, q_pack (fun e => q_scheme (fun e2 => ?_) (fun e2 => .inr ⟨rfl, ?_⟩)) (fun e => .inl ⟨rfl, ?_⟩)⟩
  · have t : t_scheme p s = 0 := by unfold t_scheme; rw [if_pos e, if_pos e2]
    rw [t] at h
    have v : v_scheme V p s = uV V 1 p.toNatClampNeg s := by unfold v_scheme; rw [if_pos t]
    rw [v] at h I'
    obtain ⟨j, hj, ex⟩ := inB_nI e (by decide)
    obtain ⟨i, hi, ex2⟩ := inB_nI e2 (by decide)
    subst ex ex2
    have P := CR_gP R.1 j (by omega)
    rw [nI_clamp (by omega)] at h I' ⊢
    refine ⟨c1.1, 4, c4.1, _, c4.2, vp_in_nI (show j < 6 by omega) (by decide), _, P.2.1, P.1, 4, c4.1, _, c4.2, vp_in_nI (show j < 6 by omega) (by decide), _, P.2.1, P.1, fun S20 e20 => ?_⟩
    have R4 : RR S20 (uV V 1 j (nI i)) W N := by subst e20; exact ⟨CR_sch (by omega) R.1 I, MR_K R.2.1 (KM_pi (KM_rfl _) (by omega)), R.2.2⟩
    rw [P.2.2.2.2.1]
    exact w_out R4 I' fun S' R' hl => h S' N R' (fun _ => hl)
  · have t : t_scheme p s = 2 := by unfold t_scheme; rw [if_pos e, if_neg (by rw [e2]; decide)]
    have v : v_scheme V p s = V := by unfold v_scheme; rw [if_neg (by rw [t]; decide)]
    rw [t, v] at h
    exact h S N R (fun e => absurd e (by decide))
  · have t : t_scheme p s = 1 := by unfold t_scheme; rw [if_neg (by rw [e]; decide)]
    have v : v_scheme V p s = V := by unfold v_scheme; rw [if_neg (by rw [t]; decide)]
    rw [t, v] at h
    exact h S N R (fun e => absurd e (by decide))
theorem ml_scheme {S : xm_S} {V W : VV} {N : Nat} {p s : Int32} {g : Int32 → xm_S → Prop} (R : RR S V W N) (I : Iv V) (h : ∀ S' b, RR S' V (v_scheme W p s) N → st_i S' 1000 0 = nI (t_scheme p s) → (t_scheme p s = 0 → b = W 1 p.toNatClampNeg) → st_l S' 1200 0 = st_l S 1200 0 → g b S') : wp_X12_scheme 1000 p s S g := by
  unfold wp_X12_scheme wp_X12_scheme_26
  refine m_pack (bI_c' (fun e => m_in (bI_c (fun e2 => ⟨1000, rfl, R.2.1.1.1, m_may (t := 0) R I rfl (by decide) fun S4 R4 k4 e4 => ⟨fun _ => ?_, fun e => absurd e (by decide)⟩⟩) (fun e2 => ⟨1000, rfl, R.2.1.1.1, m_may (t := 2) R I rfl (by decide) fun S4 R4 k4 e4 => ⟨fun e => absurd rfl e, fun _ => ?_⟩⟩))) (fun e => ⟨1000, rfl, R.2.1.1.1, m_may (t := 1) R I rfl (by decide) fun S4 R4 k4 e4 => ⟨fun e => absurd rfl e, fun _ => ?_⟩⟩))
  · have t : t_scheme p s = 0 := by unfold t_scheme; rw [if_pos e, if_pos e2]
    rw [t] at h
    have v : v_scheme W p s = uV W 1 p.toNatClampNeg s := by unfold v_scheme; rw [if_pos t]
    rw [v] at h
    obtain ⟨j, hj, ex⟩ := inB_nI e (by decide)
    subst ex
    rw [nI_clamp (by omega)] at h ⊢
    have M4 := R4.2.1.1
    refine ⟨M4.1, _, MS_r M4 1, _, MS_t M4 1, vp_in_nI (show j < 6 by omega) (by decide), fun y ey => ⟨_, MS_r M4 1, _, MS_t M4 1, vp_in_nI (show j < 6 by omega) (by decide), fun S7 e7 => ?_⟩⟩
    have k7 : KC S4 S7 := by subst e7; exact KC_pi (KC_rfl _) (by omega)
    refine h S7 _ (RR_m R4 I k7 (by subst e7; exact MR_a R4.2.1)) ?_ (fun _ => by rw [ey]; exact R4.2.1.2.2 1 _ rfl) ((KC_tr k4 k7 1200 (by omega)).2.2.1 0)
    rw [e7, st_i_pi_n _ _ _ _ _ _ (by omega)]; exact e4
  · have t : t_scheme p s = 2 := by unfold t_scheme; rw [if_pos e, if_neg (by rw [e2]; decide)]
    have v : v_scheme W p s = W := by unfold v_scheme; rw [if_neg (by rw [t]; decide)]
    rw [t, v] at h
    exact h S4 _ R4 e4 (fun e => absurd e (by decide)) ((k4 1200 (by omega)).2.2.1 0)
  · have t : t_scheme p s = 1 := by unfold t_scheme; rw [if_neg (by rw [e]; decide)]
    have v : v_scheme W p s = W := by unfold v_scheme; rw [if_neg (by rw [t]; decide)]
    rw [t, v] at h
    exact h S4 _ R4 e4 (fun e => absurd e (by decide)) ((k4 1200 (by omega)).2.2.1 0)
theorem lc_scheme {m b len kc ks N : Nat} {xs : Nat → Int32} {x4 : Int32} {S : xm_S} {V : VV} {g : Int32 → xm_S → Prop} {Z : Option Nat → Option Nat → Option Nat → Int32 → xm_S → Nat → Nat → Prop} (R : RR S V V N) (I : Iv V) (hm : vn V 54 0 ≤ m) (nx : NX m b len xs x4 kc ks g Z) (hv1 : vp_in (x4 + (1 : Int32)) len) (hv2 : vp_in (x4 + nI 2) len) : wp_L_law_354 b len xs (some 1) (some 1000) (some 1200) x4 S kc ks g Z := by
  obtain ⟨k1, k2, nx⟩ := nx
  unfold wp_L_law_354 wp_L_law_419
  refine ⟨hv1, hv2, by omega, by omega, w_scheme R I fun S1 N1 R1 h1 => ⟨hv1, hv2, 1000, rfl, R1.2.1.1.1, by omega, by omega, ml_scheme R1 (Iv_scheme I) fun S2 b R2 e2 hb hl => ⟨1000, rfl, R2.2.1.1.1, by omega, by omega, m_thrown R2.2.1 e2 ?_⟩⟩⟩
  exact lc_cmp R2.2.2 (by unfold t_scheme; repeat' split
                          all_goals decide) (fun e => hl.trans (h1 e)) hb (nx _ _ _ _ _ R2 (Iv_scheme I) (md (by unfold v_scheme; (repeat' split) <;> first | rfl | exact uV_n _ _ _ _ _ _ (by omega)) hm) (by omega) (by omega))
