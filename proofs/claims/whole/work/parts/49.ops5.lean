-- path, edit
theorem CR_mc {S : xm_S} {V : VV} {N : Nat} (C : CR S V N) : ∀ j, j < 16 → st_i S 27 j = V 50 (6 + j) ∧ st_i S 28 j = V 50 (22 + j) ∧ st_i S 29 j = V 50 (38 + j) := fun j hj => by
  have := (CR_gI2 C).1.2 j hj
  rw [Nat.zero_add, Nat.zero_add, Nat.zero_add] at this
  exact this
def t_path (x w : Int32) : Nat := if inB x 0 (nI 15) && inB w 0 (nI 2) then 0 else 1
theorem w_path {S : xm_S} {V W : VV} {N : Nat} {x w : Int32} {g : Int32 → xm_S → Prop} (R : RR S V W N) (I : Iv V) (h : ∀ S' N', RR S' V W N' → (t_path x w = 0 → st_l S' 1200 0 = (V 50 (6 + 16 * w.toNatClampNeg + x.toNatClampNeg)).toInt64) → g (nI (t_path x w)) S') : wp_L_path (some 1) x w (some 1200) S g := by
  revert h
  unfold t_path
  intro h
  have c1 := R.1.2.2.1
  unfold wp_L_path wp_X11_path wp_X11_path_52
  refine ⟨1, rfl, c1.1, q_range (fun e => q_range (fun e2 => ?_) (fun e2 => ⟨rfl, ?_⟩)) (fun e => ⟨rfl, ?_⟩)⟩
  · rw [if_pos (by rw [e, e2]; rfl)] at h
    obtain ⟨j, hj, ex⟩ := inB_nI e (by decide)
    obtain ⟨i, hi, ex2⟩ := inB_nI e2 (by decide)
    subst ex ex2
    have s := gS_24 c1
    have i1 := CR_gI1 R.1
    have m := CR_mc R.1 j (by omega)
    obtain ⟨a1, a2, a3, a4, a5, a6, a7, a8, a9⟩ := i1.2.1
    rw [nI_clamp (by omega), nI_clamp (by omega)] at h
    rw [nI_clamp (show j < 2 ^ 31 by omega), nI_z (by omega), nI_o (by omega)]
    refine ⟨c1.1, 24, s.1, s.2, fun n0 => ⟨fun n1 => ⟨25, i1.1, a1, 29, a8, _, a9, vp_in_nI (show j < 16 by omega) (by decide), ?_⟩, fun y1 => ⟨25, i1.1, a1, 28, a6, _, a7, vp_in_nI (show j < 16 by omega) (by decide), ?_⟩⟩, fun y0 => ⟨25, i1.1, a1, 27, a4, _, a5, vp_in_nI (show j < 16 by omega) (by decide), ?_⟩⟩
    · have hi2 : i = 2 := by omega
      subst hi2
      rw [m.2.2]
      exact w_out R I fun S' R' hl => h S' N R' (fun _ => hl)
    · subst y1
      rw [m.2.1]
      exact w_out R I fun S' R' hl => h S' N R' (fun _ => hl)
    · subst y0
      rw [m.1]
      exact w_out R I fun S' R' hl => h S' N R' (fun _ => hl)
  · rw [if_neg (by rw [e, e2]; decide)] at h
    exact h S N R (fun e => absurd e (by decide))
  · rw [if_neg (by rw [e, Bool.false_and]; decide)] at h
    exact h S N R (fun e => absurd e (by decide))
theorem ml_path {S : xm_S} {V W : VV} {N : Nat} {x w : Int32} {g : Int32 → xm_S → Prop} (R : RR S V W N) (I : Iv V) (h : ∀ S' b, RR S' V W N → st_i S' 1000 0 = nI (t_path x w) → (t_path x w = 0 → b = W 50 (6 + 16 * w.toNatClampNeg + x.toNatClampNeg)) → st_l S' 1200 0 = st_l S 1200 0 → g b S') : wp_X12_path 1000 x w S g := by
  revert h
  unfold t_path
  intro h
  unfold wp_X12_path wp_X12_path_24 wp_X12_path_25 wp_X12_path_49
  refine m_in (bI_c (fun e => m_in (bI_c (fun e2 => ⟨1000, rfl, R.2.1.1.1, m_may (t := 0) R I rfl (by decide) fun S4 R4 k4 e4 => ⟨fun e => absurd e (by decide), fun _ => ?_⟩⟩) (fun e2 => ⟨1000, rfl, R.2.1.1.1, m_may (t := 1) R I rfl (by decide) fun S4 R4 k4 e4 => ⟨fun _ => ?_, fun e => absurd rfl e⟩⟩))) (fun e => ⟨1000, rfl, R.2.1.1.1, m_may (t := 1) R I rfl (by decide) fun S4 R4 k4 e4 => ⟨fun _ => ?_, fun e => absurd rfl e⟩⟩))
  · rw [if_pos (by rw [e, e2]; rfl)] at h
    obtain ⟨j, hj, ex⟩ := inB_nI e (by decide)
    obtain ⟨i, hi, ex2⟩ := inB_nI e2 (by decide)
    subst ex ex2
    have M4 := R4.2.1.1
    rw [nI_clamp (by omega), nI_clamp (by omega)] at h
    rw [pk_mul, nI_add, nI_add]
    refine ⟨M4.1, _, MS_r M4 50, _, MS_t M4 50, vp_in_nI (show 6 + 16 * i + j < 54 by omega) (by decide), ?_⟩
    rw [nI_clamp (by omega)]
    exact h S4 _ R4 e4 (fun _ => R4.2.1.2.2 50 _ rfl) ((k4 1200 (by omega)).2.2.1 0)
  · rw [if_neg (by rw [e, e2]; decide)] at h
    exact h S4 _ R4 e4 (fun e => absurd e (by decide)) ((k4 1200 (by omega)).2.2.1 0)
  · rw [if_neg (by rw [e, Bool.false_and]; decide)] at h
    exact h S4 _ R4 e4 (fun e => absurd e (by decide)) ((k4 1200 (by omega)).2.2.1 0)
theorem lc_path {m b len kc ks N : Nat} {xs : Nat → Int32} {x4 : Int32} {S : xm_S} {V : VV} {g : Int32 → xm_S → Prop} {Z : Option Nat → Option Nat → Option Nat → Int32 → xm_S → Nat → Nat → Prop} (R : RR S V V N) (I : Iv V) (hm : vn V 54 0 ≤ m) (nx : NX m b len xs x4 kc ks g Z) (hv1 : vp_in (x4 + (1 : Int32)) len) (hv2 : vp_in (x4 + nI 2) len) : wp_L_law_2642 b len xs (some 1) (some 1000) (some 1200) x4 S kc ks g Z := by
  obtain ⟨k1, k2, nx⟩ := nx
  unfold wp_L_law_2642 wp_L_law_2707
  refine ⟨hv1, hv2, by omega, by omega, w_path R I fun S1 N1 R1 h1 => ⟨hv1, hv2, 1000, rfl, R1.2.1.1.1, by omega, by omega, ml_path R1 I fun S2 b R2 e2 hb hl => ⟨1000, rfl, R2.2.1.1.1, by omega, by omega, m_thrown R2.2.1 e2 ?_⟩⟩⟩
  exact lc_cmp R2.2.2 (by unfold t_path; repeat' split
                          all_goals decide) (fun e => hl.trans (h1 e)) hb (nx _ _ _ _ _ R2 I (md rfl hm) (by omega) (by omega))
theorem CR_edit {S : xm_S} {V : VV} {N j c : Nat} (hj : j < 16) (C : CR S V N) (I : Iv V) : CR (st_pi S 27 j (nI c)) (uV V 50 (6 + j) (nI c)) N := by
  have K : KX fA0 (E1 27 j) N S (st_pi S 27 j (nI c)) := KX_pi (KX_rfl _ _ _ _) (E1_t _ _)
  have et : ∀ q, eT V (uV V 50 (6 + j) (nI c)) q := eT_v fun f k h => uV_n _ _ _ _ _ _ (by omega)
  have m := CR_mc C
  have b18 := I.2.2.1.1.2
  have b21 := I.2.2.1.2.2.2.1.2
  obtain ⟨hN, hf, c1, c2, c3, c4, c5, c6, c7, c8, c9, c10, c11, c12, c13⟩ := C
  refine ⟨by omega, hf, gS_X c1 K hN (fun k => by rfl), gX_X c2 c1 K hN (fun k => by exact E1_f (by omega)) (fun f hf9 => by exact uV_n _ _ _ _ _ _ (by omega)), gO_X c3 K hN (fun k hk => by rfl), gT_X c4 K hN (by rfl) (by exact E1_f (by omega)) (fun k => by exact E1_f (by omega)) (by exact et _), gP_X c5 K hN (fun n k hn => by rfl) (fun n k g1 g2 => by exact E1_f (by omega)) (fun k hk => ⟨by exact uV_n _ _ _ _ _ _ (by omega), by exact uV_n _ _ _ _ _ _ (by omega)⟩), gV_Y I c6 K hN (Nat.le_refl _) (fun n k hn => by rfl) (fun n k hn => by exact E1_f (by omega)) (fun f k hf9 => by exact uV_n _ _ _ _ _ _ (by omega)) (fun q hq => by exact et _), gW_X c7 K hN (Nat.le_refl _) (fun n k hn => by rfl) (fun n k hn => by exact E1_f (by omega)) (by exact uV_n _ _ _ _ _ _ (by omega)) (fun j hj => ⟨by exact et _, by exact uV_n _ _ _ _ _ _ (by omega), by exact uV_n _ _ _ _ _ _ (by omega)⟩), gA_X c8 K hN (Nat.le_refl _) (fun n k hn => by rfl) (fun n k hn => by exact E1_f (by omega)) (by exact uV_n _ _ _ _ _ _ (by omega)) (fun j hj => ⟨by exact et _, by exact uV_n _ _ _ _ _ _ (by omega), by exact uV_n _ _ _ _ _ _ (by omega)⟩), gL_X c9 c1 K hN (fun n k hn => by rfl) (fun n k hn => by exact E1_f (by omega)) (fun f k hf9 => by exact uV_n _ _ _ _ _ _ (by omega)), gM_X c10 K hN (fun n k hn => by exact E1_f (by omega)) (fun f k hf9 hk9 => by exact uV_n _ _ _ _ _ _ (by omega)), gI1_X c11 K hN (fun n k hn => by rfl), ?_, gI3_X c13 c11 K hN (fun k => by rfl) (fun n k hn => by exact E1_f (by omega)) I.2.2.2.2.2.2.2.2.2.1.2 (fun f k hf9 => by exact uV_n _ _ _ _ _ _ (by omega))⟩
  obtain ⟨h1, h2, h3, h4, h5, h6, h7⟩ := c12
  have ev : ∀ f k, f ≠ 50 → uV V 50 (6 + j) (nI c) f k = V f k := fun f k h => uV_n _ _ _ _ _ _ (by omega)
  refine ⟨⟨fun p hp => ?_, fun i hi => ?_⟩, ?_, ?_, ?_, ?_, ?_, fun k hk => ?_⟩
  · rw [st_i_pi_n _ _ _ _ _ _ (by omega), uV_n _ _ _ _ _ _ (by omega)]; exact h1.1 p hp
  · rw [Nat.zero_add, Nat.zero_add, Nat.zero_add]
    refine ⟨?_, ?_, ?_⟩
    · by_cases e : i = j
      · subst e; exact (st_i_pi_s _ _ _ _).trans (uV_s _ _ _ _).symm
      · rw [st_i_pi_n _ _ _ _ _ _ (by omega), uV_n _ _ _ _ _ _ (by omega)]; exact (m i hi).1
    · rw [st_i_pi_n _ _ _ _ _ _ (by omega), uV_n _ _ _ _ _ _ (by omega)]; exact (m i hi).2.1
    · rw [st_i_pi_n _ _ _ _ _ _ (by omega), uV_n _ _ _ _ _ _ (by omega)]; exact (m i hi).2.2
  · rw [st_i_pi_n _ _ _ _ _ _ (by omega), ev _ _ (by omega)]; exact h2
  · rw [st_i_pi_n _ _ _ _ _ _ (by omega), ev _ _ (by omega)]; exact h3
  · rw [st_i_pi_n _ _ _ _ _ _ (by omega), ev _ _ (by omega)]; exact h4
  · rw [st_i_pi_n _ _ _ _ _ _ (by omega), ev _ _ (by omega)]; exact h5
  · rw [st_i_pi_n _ _ _ _ _ _ (by omega), ev _ _ (by omega)]; exact h6
  · rw [st_i_pi_n _ _ _ _ _ _ (by omega), st_i_pi_n _ _ _ _ _ _ (by omega), ev _ _ (by omega), ev _ _ (by omega)]; exact h7 k hk
theorem nI_m1 {n : Nat} (h : n < 2 ^ 31) : nI n ≠ -1 := fun e => by
  have := nI_toInt h
  rw [e] at this
  have e2 : (-1 : Int32).toInt = -1 := rfl
  omega
theorem Iv_edit {V : VV} {j c : Nat} (I : Iv V) (hc : c ≤ 999) (h0 : V 50 (6 + j) ≠ -1) (hj : j < 16) : Iv (uV V 50 (6 + j) (nI c)) := by
  have ev : ∀ f k, f ≠ 50 → uV V 50 (6 + j) (nI c) f k = V f k := fun f k h => uV_n _ _ _ _ _ _ (by omega)
  have et : ∀ q, eTs V (uV V 50 (6 + j) (nI c)) q := fun q => ⟨ev _ _ (by omega), fun s hs => ev _ _ (by omega)⟩
  obtain ⟨g1, g2, g3, g4, g5, g6, g7, g8⟩ := I.2.2.2.2
  refine ⟨Iv1_e I.1 fun f k h => ev f k (by omega), Iv2_e I.1 I.2.1 (fun f k h => ev f k (by omega)) fun q hq _ => et q, Iv3_e I.2.2.1 (fun f k h => ev f k (by omega)) (fun q hq _ => et q) (fun q hq => VT_e (I.2.2.1.2.2.2.2.2.2 q hq) (et q)), Iv4_e I.2.2.2.1 fun f k h => ev f k (by omega), fun k hk => ⟨Im_e (g1 k hk).1 (ev _ _ (by omega)), In_e (g1 k hk).2 (ev _ _ (by omega))⟩, fun k hk => ?_, fun k hk => ?_, In_e g4 (ev _ _ (by omega)), Im_e g5 (ev _ _ (by omega)), In_e g6 (ev _ _ (by omega)), fun k hk => ?_, fun i j hi hj => ?_⟩
  · by_cases e : k = 6 + j
    · subst e; exact .inr (In_nI (n := c) (uV_s _ _ _ _) hc (by omega)).1
    · exact Im_e (g2 k hk) (uV_n _ _ _ _ _ _ (by omega))
  · by_cases e : k = j
    · subst e
      rw [uV_s, uV_n _ _ _ _ _ _ (by omega), uV_n _ _ _ _ _ _ (by omega)]
      have := g3 k hk
      exact ⟨⟨fun hh => absurd hh (nI_m1 (by omega)), fun hh => absurd (this.1.mpr hh) h0⟩, ⟨fun hh => absurd hh (nI_m1 (by omega)), fun hh => absurd (this.2.mpr hh) h0⟩⟩
    · rw [uV_n _ _ _ _ _ _ (by omega), uV_n _ _ _ _ _ _ (by omega), uV_n _ _ _ _ _ _ (by omega)]; exact g3 k hk
  · rw [vn_e (ev 56 _ (by omega))] at hk
    obtain ⟨a, b, c, d, f⟩ := g7 k hk
    refine ⟨In_e a (ev _ _ (by omega)), by rw [vn_e (ev 57 _ (by omega)), vn_e (ev 54 _ (by omega))]; exact b, In_e c (ev _ _ (by omega)), fun j hj => Im_e (d j hj) (ev _ _ (by omega)), fun j hj => ?_⟩
    rw [ev 59 _ (by omega), ev 59 _ (by omega), ev 59 _ (by omega)]
    exact f j hj
  · rw [vn_e (ev 56 _ (by omega))] at hj
    rw [vn_e (ev 57 _ (by omega)), vn_e (ev 57 _ (by omega))]
    exact g8 i j hi hj
def t_edit (V : VV) (x c : Int32) : Nat := if inB x 0 (nI 15) && inB c 0 (nI 999) then (if V 50 (6 + x.toNatClampNeg) = -1 then 2 else 0) else 1
def v_edit (V : VV) (x c : Int32) : VV := if t_edit V x c = 0 then uV V 50 (6 + x.toNatClampNeg) c else V
theorem Iv_vedit {V : VV} {x c : Int32} (I : Iv V) : Iv (v_edit V x c) := by
  unfold v_edit
  by_cases h : t_edit V x c = 0
  · rw [if_pos h]
    unfold t_edit at h
    by_cases e : (inB x 0 (nI 15) && inB c 0 (nI 999)) = true
    · rw [if_pos e] at h
      by_cases e2 : V 50 (6 + x.toNatClampNeg) = -1
      · rw [if_pos e2] at h; exact absurd h (by decide)
      · rw [Bool.and_eq_true] at e
        obtain ⟨j, hj, ex⟩ := inB_nI e.1 (by decide)
        obtain ⟨i, hi, ex2⟩ := inB_nI e.2 (by decide)
        subst ex ex2
        rw [nI_clamp (by omega)] at e2 ⊢
        exact Iv_edit I hi e2 (by omega)
    · rw [if_neg e] at h; exact absurd h (by decide)
  · rw [if_neg h]; exact I
theorem w_edit {S : xm_S} {V W : VV} {N : Nat} {x c : Int32} {g : Int32 → xm_S → Prop} (R : RR S V W N) (I : Iv V) (h : ∀ S' N', RR S' (v_edit V x c) W N' → (t_edit V x c = 0 → st_l S' 1200 0 = (V 50 (6 + x.toNatClampNeg)).toInt64) → g (nI (t_edit V x c)) S') : wp_L_edit (some 1) x c (some 1200) S g := by
  have I' := Iv_vedit (x := x) (c := c) I
  have c1 := R.1.2.2.1
  unfold wp_L_edit wp_X11_edit
  refine ⟨1, rfl, c1.1, q_range (fun e => q_range (fun e2 => ?_) (fun e2 => .inl ⟨rfl, ?_⟩)) (fun e => .inl ⟨rfl, ?_⟩)⟩
  · obtain ⟨j, hj, ex⟩ := inB_nI e (by decide)
    obtain ⟨i, hi, ex2⟩ := inB_nI e2 (by decide)
    have T : t_edit V x c = if V 50 (6 + x.toNatClampNeg) = -1 then 2 else 0 := by unfold t_edit; rw [if_pos (by rw [e, e2]; rfl)]
    subst ex ex2
    rw [nI_clamp (show j < 2 ^ 31 by omega)] at T
    have s := gS_24 c1
    have i1 := CR_gI1 R.1
    have m := CR_mc R.1 j (by omega)
    obtain ⟨a1, a2, a3, a4, a5, a6, a7, a8, a9⟩ := i1.2.1
    have cl : (nI j).toNatClampNeg = j := nI_clamp (by omega)
    rw [cl] at h ⊢
    refine ⟨c1.1, 24, s.1, s.2, 25, i1.1, a1, 27, a4, _, a5, vp_in_nI (show j < 16 by omega) (by decide), fun y ey => ⟨fun n0 => ⟨24, s.1, s.2, 25, i1.1, a1, 27, a4, _, a5, vp_in_nI (show j < 16 by omega) (by decide), fun S30 e30 => ?_⟩, fun y0 => .inr ⟨rfl, ?_⟩⟩⟩
    · rw [m.1] at ey
      rw [ey] at n0 ⊢
      have t : t_edit V (nI j) (nI i) = 0 := by rw [T, if_neg n0]
      have v : v_edit V (nI j) (nI i) = uV V 50 (6 + j) (nI i) := by unfold v_edit; rw [if_pos t, cl]
      rw [t, v] at h
      rw [v] at I'
      have R4 : RR S30 (uV V 50 (6 + j) (nI i)) W N := by subst e30; exact ⟨CR_edit (by omega) R.1 I, MR_K R.2.1 (KM_pi (KM_rfl _) (by omega)), R.2.2⟩
      exact w_out R4 I' fun S' R' hl => h S' N R' (fun _ => hl)
    · rw [m.1] at ey
      rw [ey] at y0
      have t : t_edit V (nI j) (nI i) = 2 := by rw [T, if_pos y0]
      have v : v_edit V (nI j) (nI i) = V := by unfold v_edit; rw [if_neg (by rw [t]; decide)]
      rw [t, v] at h
      exact h S N R (fun e => absurd e (by decide))
  · have t : t_edit V x c = 1 := by unfold t_edit; rw [if_neg (by rw [e, e2]; decide)]
    have v : v_edit V x c = V := by unfold v_edit; rw [if_neg (by rw [t]; decide)]
    rw [t, v] at h
    exact h S N R (fun e => absurd e (by decide))
  · have t : t_edit V x c = 1 := by unfold t_edit; rw [if_neg (by rw [e, Bool.false_and]; decide)]
    have v : v_edit V x c = V := by unfold v_edit; rw [if_neg (by rw [t]; decide)]
    rw [t, v] at h
    exact h S N R (fun e => absurd e (by decide))
theorem ml_edit {S : xm_S} {V W : VV} {N : Nat} {x c : Int32} {g : Int32 → xm_S → Prop} (R : RR S V W N) (I : Iv V) (h : ∀ S' b, RR S' V (v_edit W x c) N → st_i S' 1000 0 = nI (t_edit W x c) → (t_edit W x c = 0 → b = W 50 (6 + x.toNatClampNeg)) → st_l S' 1200 0 = st_l S 1200 0 → g b S') : wp_X12_edit 1000 x c S g := by
  have X1 : t_edit W x c = 1 → wp_X12_edit_54 1000 x c (1 : Int32) (some 1000) S g := fun t => by
    have v : v_edit W x c = W := by unfold v_edit; rw [if_neg (by rw [t]; decide)]
    rw [t, v] at h
    unfold wp_X12_edit_54
    refine ⟨1000, rfl, R.2.1.1.1, m_may (t := 1) R I rfl (by decide) fun S4 R4 k4 e4 => ⟨fun e => absurd rfl e, fun _ => ?_⟩⟩
    exact h S4 _ R4 e4 (fun e => absurd e (by decide)) ((k4 1200 (by omega)).2.2.1 0)
  unfold wp_X12_edit wp_X12_edit_25 wp_X12_edit_26
  refine m_in (bI_c (fun e => m_in (bI_c (fun e2 => ⟨fun _ => ?_, fun e => absurd e (by decide)⟩) (fun e2 => ⟨fun e => absurd rfl e, fun _ => X1 ?_⟩))) (fun e => ⟨fun e => absurd rfl e, fun _ => X1 ?_⟩))
  · obtain ⟨j, hj, ex⟩ := inB_nI e (by decide)
    obtain ⟨i, hi, ex2⟩ := inB_nI e2 (by decide)
    have T : t_edit W x c = if W 50 (6 + x.toNatClampNeg) = -1 then 2 else 0 := by unfold t_edit; rw [if_pos (by rw [e, e2]; rfl)]
    subst ex ex2
    have cl : (nI j).toNatClampNeg = j := nI_clamp (by omega)
    rw [cl] at T h
    have M := R.2.1.1
    rw [nI_add]
    refine ⟨M.1, _, MS_r M 50, _, MS_t M 50, vp_in_nI (show 6 + j < 54 by omega) (by decide), ?_⟩
    rw [nI_clamp (by omega), show st_i S (1001 + 50) (6 + j) = W 50 (6 + j) from R.2.1.2.2 50 _ rfl]
    unfold wp_X12_edit_54
    rw [nI_add]
    refine ⟨fun n0 => ⟨1000, rfl, R.2.1.1.1, m_may (t := 0) R I rfl (by decide) fun S4 R4 k4 e4 => ⟨fun _ => ?_, fun e => absurd e (by decide)⟩⟩, fun y0 => ⟨1000, rfl, R.2.1.1.1, m_may (t := 2) R I rfl (by decide) fun S4 R4 k4 e4 => ⟨fun e => absurd rfl e, fun _ => ?_⟩⟩⟩
    · have t : t_edit W (nI j) (nI i) = 0 := by rw [T, if_neg n0]
      have v : v_edit W (nI j) (nI i) = uV W 50 (6 + j) (nI i) := by unfold v_edit; rw [if_pos t, cl]
      rw [t, v] at h
      have M4 := R4.2.1.1
      refine ⟨M4.1, _, MS_r M4 50, _, MS_t M4 50, vp_in_nI (show 6 + j < 54 by omega) (by decide), fun y ey => ⟨_, MS_r M4 50, _, MS_t M4 50, vp_in_nI (show 6 + j < 54 by omega) (by decide), fun S7 e7 => ?_⟩⟩
      rw [nI_clamp (by omega)] at e7 ey
      have k7 : KC S4 S7 := by subst e7; exact KC_pi (KC_rfl _) (by omega)
      refine h S7 _ (RR_m R4 I k7 (by subst e7; exact MR_a R4.2.1)) ?_ (fun _ => by rw [ey]; exact R4.2.1.2.2 50 _ rfl) ((KC_tr k4 k7 1200 (by omega)).2.2.1 0)
      rw [e7, st_i_pi_n _ _ _ _ _ _ (by omega)]; exact e4
    · have t : t_edit W (nI j) (nI i) = 2 := by rw [T, if_pos y0]
      have v : v_edit W (nI j) (nI i) = W := by unfold v_edit; rw [if_neg (by rw [t]; decide)]
      rw [t, v] at h
      exact h S4 _ R4 e4 (fun e => absurd e (by decide)) ((k4 1200 (by omega)).2.2.1 0)
  · unfold t_edit; rw [if_neg (by rw [e, e2]; decide)]
  · unfold t_edit; rw [if_neg (by rw [e, Bool.false_and]; decide)]
theorem lc_edit {m b len kc ks N : Nat} {xs : Nat → Int32} {x4 : Int32} {S : xm_S} {V : VV} {g : Int32 → xm_S → Prop} {Z : Option Nat → Option Nat → Option Nat → Int32 → xm_S → Nat → Nat → Prop} (R : RR S V V N) (I : Iv V) (hm : vn V 54 0 ≤ m) (nx : NX m b len xs x4 kc ks g Z) (hv1 : vp_in (x4 + (1 : Int32)) len) (hv2 : vp_in (x4 + nI 2) len) : wp_L_law_2574 b len xs (some 1) (some 1000) (some 1200) x4 S kc ks g Z := by
  obtain ⟨k1, k2, nx⟩ := nx
  unfold wp_L_law_2574 wp_L_law_2639
  refine ⟨hv1, hv2, by omega, by omega, w_edit R I fun S1 N1 R1 h1 => ⟨hv1, hv2, 1000, rfl, R1.2.1.1.1, by omega, by omega, ml_edit R1 (Iv_vedit I) fun S2 b R2 e2 hb hl => ⟨1000, rfl, R2.2.1.1.1, by omega, by omega, m_thrown R2.2.1 e2 ?_⟩⟩⟩
  exact lc_cmp R2.2.2 (by unfold t_edit; repeat' split
                          all_goals decide) (fun e => hl.trans (h1 e)) hb (nx _ _ _ _ _ R2 (Iv_vedit I) (md (by unfold v_edit; (repeat' split) <;> first | rfl | exact uV_n _ _ _ _ _ _ (by omega)) hm) (by omega) (by omega))
