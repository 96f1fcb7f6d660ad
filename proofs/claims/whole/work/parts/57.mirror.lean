-- mirror
def mC (c : Int32) : Bool := decide (c = -1) || inB c 0 (nI 999)
theorem mC_m (c : Int32) : inB c (-1) (nI 999) = mC c := by
  unfold mC inB
  rw [← Bool.decide_or]
  refine decide_eq_decide.mpr ?_
  have e1 : (-1 : Int32).toInt = -1 := rfl
  have e0 : (0 : Int32).toInt = 0 := rfl
  have e9 : (nI 999).toInt = 999 := nI_toInt (by decide)
  rw [fa_le, fa_le, fa_le, fa_eq, e1, e0, e9]
  omega
theorem mC_x {c : Int32} (h : mC c = true) : c = -1 ∨ ∃ n, n ≤ 999 ∧ c = nI n := by
  unfold mC at h
  rw [Bool.or_eq_true] at h
  rcases h with h | h
  · exact .inl (of_decide_eq_true h)
  · obtain ⟨j, hj, e⟩ := inB_nI h (by decide); exact .inr ⟨j, hj, e⟩
def t_mirror (V : VV) (m p v c : Int32) : Nat := if inB m 0 (nI 2) && isV V p v then (if mC c then 0 else 2) else 1
def a_mirror (m p v : Int32) : Nat := 24 * m.toNatClampNeg + (4 * p.toNatClampNeg + v.toNatClampNeg)
def v_mirror (V : VV) (m p v c : Int32) : VV := if t_mirror V m p v c = 0 then uV V 40 (a_mirror m p v) c else V
def r_mirror (V : VV) (m p v : Int32) : Int32 := gvs V m.toNatClampNeg (4 * p.toNatClampNeg + v.toNatClampNeg)
theorem Iv_mirror {V : VV} {m p v c : Int32} (I : Iv V) : Iv (v_mirror V m p v c) := by
  unfold v_mirror
  by_cases h : t_mirror V m p v c = 0
  · rw [if_pos h]
    unfold t_mirror at h
    by_cases e : (inB m 0 (nI 2) && isV V p v) = true
    · rw [if_pos e] at h
      by_cases e2 : mC c = true
      · rw [Bool.and_eq_true] at e
        obtain ⟨k, hk, ek⟩ := inB_nI e.1 (by decide)
        obtain ⟨i, j, hi, hj, hc, ei, ej⟩ := isV_nI I e.2
        refine Iv_40 I ?_ (mC_x e2)
        unfold a_mirror
        rw [ek, ei, ej, nI_clamp (by omega), nI_clamp (by omega), nI_clamp (by omega), show (24 * k + (4 * i + j)) % 24 = 4 * i + j by omega]
        exact used_of hj hc
      · rw [if_neg e2] at h; exact absurd h (by decide)
    · rw [if_neg e] at h; exact absurd h (by decide)
  · rw [if_neg h]; exact I
theorem w_mirror {S : xm_S} {V W : VV} {N : Nat} {m p v c : Int32} {g : Int32 → xm_S → Prop} (R : RR S V W N) (I : Iv V) (h : ∀ S' N', RR S' (v_mirror V m p v c) W N' → (t_mirror V m p v c = 0 → st_l S' 1200 0 = (r_mirror V m p v).toInt64) → g (nI (t_mirror V m p v c)) S') : wp_L_mirror (some 1) m p v c (some 1200) S g := by
  have I' := Iv_mirror (m := m) (p := p) (v := v) (c := c) I
  have c1 := R.1.2.2.1
  have c4 := gS_4 c1
  unfold wp_L_mirror wp_X11_mirror
  have T1 : (inB m 0 (nI 2) && isV V p v) = false → g 1 S := fun e => by
    have t : t_mirror V m p v c = 1 := by unfold t_mirror; rw [if_neg (by rw [e]; decide)]
    have w : v_mirror V m p v c = V := by unfold v_mirror; rw [if_neg (by rw [t]; decide)]
    rw [t, w] at h
    exact h S N R (fun e => absurd e (by decide))
  refine ⟨1, rfl, c1.1, q_mirr (fun e => ⟨c1.1, q_ver R.1 (fun e2 => ?_) (fun e2 => .inl ⟨rfl, T1 (by rw [e2, Bool.and_false])⟩)⟩) (fun e => .inl ⟨rfl, T1 (by rw [e, Bool.false_and])⟩)⟩
  obtain ⟨k, hk, ek⟩ := inB_nI e (by decide)
  obtain ⟨i, j, hi, hj, hc, ei, ej⟩ := isV_nI I e2
  have T : t_mirror V m p v c = if mC c then 0 else 2 := by unfold t_mirror; rw [if_pos (by rw [e, e2]; rfl)]
  subst ek ei ej
  have ck : (nI k).toNatClampNeg = k := nI_clamp (by omega)
  have ci : (nI i).toNatClampNeg = i := nI_clamp (by omega)
  have cj : (nI j).toNatClampNeg = j := nI_clamp (by omega)
  have P := CR_gP R.1 i hi
  have vj := CR_ver R.1 I hi hj
  have ok : ∀ Ex : String → xm_S → Prop, mC c = true → wp_X11_mirror_25 1 (nI k) (nI i) (nI j) c S (fun r5 S4 => ∃ n6, some 1200 = some n6 ∧ ∃ z9, st_t S4 n6 = some (103, z9) ∧ vp_in (0 : Int32) z9 ∧ ∀ S11, S11 = st_pl S4 n6 ((0 : Int32)).toNatClampNeg ((r5).toInt64) → g (0 : Int32) S11) Ex := fun Ex hm => by
    have t : t_mirror V (nI k) (nI i) (nI j) c = 0 := by rw [T, if_pos hm]
    have w : v_mirror V (nI k) (nI i) (nI j) c = uV V 40 (24 * k + (4 * i + j)) c := by unfold v_mirror a_mirror; rw [if_pos t, ck, ci, cj]
    rw [t, w] at h
    rw [w] at I'
    unfold r_mirror at h
    rw [ck, ci, cj] at h
    unfold wp_X11_mirror_25
    rw [ci, cj, ck]
    refine ⟨c1.1, 4, c4.1, _, c4.2, vp_in_nI (show i < 6 by omega) (by decide), _, P.2.1, P.1, _, P.2.2.1, _, P.2.2.2.1, vp_in_nI (show j < 4 by omega) (by decide), _, vj.1, vj.2.1.1, c_given (by omega) vj.2.1 vj.2.2.1 vj.2.2.2.1 ⟨_, vj.1, vj.2.1.1, _, vj.2.1.2.2.2.2.2.2.2.2.2.2.2.2.2.2.2.1, _, vj.2.1.2.2.2.2.2.2.2.2.2.2.2.2.2.2.2.2, vp_in_nI (show k < 3 by omega) (by decide), fun S28 e28 => ?_⟩⟩
    have R4 : RR S28 (uV V 40 (24 * k + (4 * i + j)) c) W N := by subst e28; exact ⟨CR_told (by omega) (by omega) (used_of hj hc) R.1 I, MR_K R.2.1 (KM_pi (KM_rfl _) (by omega)), R.2.2⟩
    exact w_out R4 I' fun S' R' hl => h S' N R' (fun _ => hl)
  refine ⟨fun q => ok _ (by unfold mC; rw [decide_eq_true q]; rfl), fun q => q_range (fun e3 => ok _ (by unfold mC; rw [e3, Bool.or_true])) (fun e3 => .inr ⟨rfl, ?_⟩)⟩
  have hm : mC c = false := by unfold mC; rw [e3, decide_eq_false q]; rfl
  have t : t_mirror V (nI k) (nI i) (nI j) c = 2 := by rw [T, if_neg (by rw [hm]; decide)]
  have w : v_mirror V (nI k) (nI i) (nI j) c = V := by unfold v_mirror; rw [if_neg (by rw [t]; decide)]
  rw [t, w] at h
  exact h S N R (fun e => absurd e (by decide))
theorem ml_mirror {S : xm_S} {V W : VV} {N : Nat} {m p v c : Int32} {g : Int32 → xm_S → Prop} (R : RR S V W N) (I : Iv V) (IW : Iv W) (h : ∀ S' b, RR S' V (v_mirror W m p v c) N → st_i S' 1000 0 = nI (t_mirror W m p v c) → (t_mirror W m p v c = 0 → b = r_mirror W m p v) → st_l S' 1200 0 = st_l S 1200 0 → g b S') : wp_X12_mirror 1000 m p v c S g := by
  unfold wp_X12_mirror wp_X12_mirror_20 wp_X12_mirror_21 wp_X12_mirror_50
  have X1 : (inB m 0 (nI 2) && isV W p v) = false → ∃ n1, some 1000 = some n1 ∧ st_t S n1 = some (12, 0) ∧ wp_X12_may n1 (1 : Int32) S (fun r5 S4 => (¬ r5 = 0 → st_t S4 1000 = some (12, 0) ∧ wp_X12_gives 1000 m (((nI 4) * p) + v) S4 (fun r8 S7 => st_t S7 1000 = some (12, 0) ∧ ∃ n10, (st_r S7 1000 40) = some n10 ∧ ∃ z13, st_t S7 n10 = some (100, z13) ∧ vp_in ((((nI 24) * m) + ((nI 4) * p)) + v) z13 ∧ ∀ S15, S15 = st_pi S7 n10 (((((nI 24) * m) + ((nI 4) * p)) + v)).toNatClampNeg c → g r8 S15)) ∧ (r5 = 0 → g (0 : Int32) S4)) := fun e => by
    have t : t_mirror W m p v c = 1 := by unfold t_mirror; rw [if_neg (by rw [e]; decide)]
    have w : v_mirror W m p v c = W := by unfold v_mirror; rw [if_neg (by rw [t]; decide)]
    rw [t, w] at h
    refine ⟨1000, rfl, R.2.1.1.1, m_may (t := 1) R I rfl (by decide) fun S4 R4 k4 e4 => ⟨fun e => absurd rfl e, fun _ => ?_⟩⟩
    exact h S4 _ R4 e4 (fun e => absurd e (by decide)) ((k4 1200 (by omega)).2.2.1 0)
  refine m_mirr (bI_c (fun e => ⟨R.2.1.1.1, m_ver R.2.1 IW (bI_c (fun e2 => ⟨fun _ => m_in ?_, fun e => absurd e (by decide)⟩) (fun e2 => ⟨fun e => absurd rfl e, fun _ => X1 (by rw [e2, Bool.and_false])⟩))⟩) (fun e => ⟨fun e => absurd rfl e, fun _ => X1 (by rw [e, Bool.false_and])⟩))
  rw [mC_m]
  have T : t_mirror W m p v c = if mC c then 0 else 2 := by unfold t_mirror; rw [if_pos (by rw [e, e2]; rfl)]
  obtain ⟨k, hk, ek⟩ := inB_nI e (by decide)
  obtain ⟨i, j, hi, hj, hc, ei, ej⟩ := isV_nI IW e2
  subst ek ei ej
  have ck : (nI k).toNatClampNeg = k := nI_clamp (by omega)
  have ci : (nI i).toNatClampNeg = i := nI_clamp (by omega)
  have cj : (nI j).toNatClampNeg = j := nI_clamp (by omega)
  refine bI_c (fun hm => ⟨1000, rfl, R.2.1.1.1, m_may (t := 0) R I rfl (by decide) fun S4 R4 k4 e4 => ⟨fun _ => ⟨R4.2.1.1.1, ?_⟩, fun e => absurd e (by decide)⟩⟩) (fun hm => ⟨1000, rfl, R.2.1.1.1, m_may (t := 2) R I rfl (by decide) fun S4 R4 k4 e4 => ⟨fun e => absurd rfl e, fun _ => ?_⟩⟩)
  · have t : t_mirror W (nI k) (nI i) (nI j) c = 0 := by rw [T, if_pos hm]
    have w : v_mirror W (nI k) (nI i) (nI j) c = uV W 40 (24 * k + (4 * i + j)) c := by unfold v_mirror a_mirror; rw [if_pos t, ck, ci, cj]
    rw [t, w] at h
    unfold r_mirror at h
    rw [ck, ci, cj] at h
    have M4 := R4.2.1.1
    simp only [pk_mul, nI_add]
    refine m_gives R4.2.1 (by omega) (by omega) ⟨M4.1, _, MS_r M4 40, _, MS_t M4 40, vp_in_nI (show 24 * k + 4 * i + j < 72 by omega) (by decide), fun S7 e7 => ?_⟩
    rw [nI_clamp (by omega), Nat.add_assoc] at e7
    have k7 : KC S4 S7 := by subst e7; exact KC_pi (KC_rfl _) (by omega)
    refine h S7 _ (RR_m R4 I k7 (by subst e7; exact MR_a R4.2.1)) ?_ (fun _ => rfl) ((KC_tr k4 k7 1200 (by omega)).2.2.1 0)
    rw [e7, st_i_pi_n _ _ _ _ _ _ (by omega)]; exact e4
  · have t : t_mirror W (nI k) (nI i) (nI j) c = 2 := by rw [T, if_neg (by rw [hm]; decide)]
    have w : v_mirror W (nI k) (nI i) (nI j) c = W := by unfold v_mirror; rw [if_neg (by rw [t]; decide)]
    rw [t, w] at h
    exact h S4 _ R4 e4 (fun e => absurd e (by decide)) ((k4 1200 (by omega)).2.2.1 0)
theorem lc_mirror {m b len kc ks N : Nat} {xs : Nat → Int32} {x4 : Int32} {S : xm_S} {V : VV} {g : Int32 → xm_S → Prop} {Z : Option Nat → Option Nat → Option Nat → Int32 → xm_S → Nat → Nat → Prop} (R : RR S V V N) (I : Iv V) (hm : vn V 54 0 ≤ m) (nx : NX m b len xs x4 kc ks g Z) (hv1 : vp_in (x4 + (1 : Int32)) len) (hv2 : vp_in (x4 + nI 2) len) (hv3 : vp_in (x4 + nI 3) len) (hv4 : vp_in (x4 + nI 4) len) : wp_L_law_1986 b len xs (some 1) (some 1000) (some 1200) x4 S kc ks g Z := by
  obtain ⟨k1, k2, nx⟩ := nx
  unfold wp_L_law_1986 wp_L_law_2075
  refine ⟨hv1, hv2, hv3, hv4, by omega, by omega, w_mirror R I fun S1 N1 R1 h1 => ⟨hv1, hv2, hv3, hv4, 1000, rfl, R1.2.1.1.1, by omega, by omega, ml_mirror R1 (Iv_mirror I) I fun S2 b R2 e2 hb hl => ⟨1000, rfl, R2.2.1.1.1, by omega, by omega, m_thrown R2.2.1 e2 ?_⟩⟩⟩
  exact lc_cmp R2.2.2 (by unfold t_mirror; repeat' split
                          all_goals decide) (fun e => hl.trans (h1 e)) hb (nx _ _ _ _ _ R2 (Iv_mirror I) (md (by unfold v_mirror; (repeat' split) <;> first | rfl | exact uV_n _ _ _ _ _ _ (by omega)) hm) (by omega) (by omega))
