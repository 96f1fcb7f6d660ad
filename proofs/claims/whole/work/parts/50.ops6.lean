-- versions: the checks, the order, compare
def isV (V : VV) (p v : Int32) : Bool := inB p 0 (nI 5) && decide (0 ≤ v ∧ v < V 2 p.toNatClampNeg)
theorem isV_nI {V : VV} {p v : Int32} (I : Iv V) (h : isV V p v = true) : ∃ i j, i < 6 ∧ j < vn V 2 i ∧ vn V 2 i ≤ 4 ∧ p = nI i ∧ v = nI j := by
  unfold isV at h
  rw [Bool.and_eq_true] at h
  obtain ⟨i, hi, ex⟩ := inB_nI h.1 (by decide)
  subst ex
  have h2 := of_decide_eq_true h.2
  rw [nI_clamp (by omega)] at h2
  have c := (I.1.1 i (by omega)).2
  have c2 := c.2
  obtain ⟨j, hj, ex2⟩ := nI_of (x := v) (fun hh => by rw [fa_lt] at hh; have := (fa_le _ _).mp h2.1; omega)
  subst ex2
  refine ⟨i, j, by omega, ?_, c2, rfl, rfl⟩
  have := h2.2
  rw [c.1, nI_ltI (by omega) (by omega)] at this
  exact this
theorem q_ver {S : xm_S} {V : VV} {N : Nat} {p v : Int32} {g : xm_S → Prop} {Ex : String → xm_S → Prop} (C : CR S V N) (h1 : isV V p v = true → g S) (h0 : isV V p v = false → Ex xm_eI S) : wp_X11_checkVersion 1 p v S g Ex := by
  have c1 := C.2.2.1
  have c4 := gS_4 c1
  unfold wp_X11_checkVersion wp_X11_checkVersion_21
  refine q_pack (fun e => ?_) (fun e => h0 (by unfold isV; rw [e, Bool.false_and]))
  obtain ⟨i, hi, ex⟩ := inB_nI e (by decide)
  have P := CR_gP C i (by omega)
  have cl : (nI i).toNatClampNeg = i := nI_clamp (by omega)
  unfold isV at h1 h0
  rw [e, Bool.true_and] at h1 h0
  subst ex
  rw [cl] at h1 h0
  refine ⟨fun a => h0 (decide_eq_false fun hh => ?_), fun a => ⟨c1.1, 4, c4.1, _, c4.2, vp_in_nI (show i < 6 by omega) (by decide), _, by rw [cl]; exact P.2.1, P.1, ?_⟩⟩
  · rw [fa_lt] at a; have := (fa_le _ _).mp hh.1; omega
  · rw [P.2.2.2.2.2.1]
    exact ⟨fun b => h1 (decide_eq_true ⟨by rw [fa_lt] at a; rw [fa_le]; omega, b⟩), fun b => h0 (decide_eq_false fun hh => b hh.2)⟩
theorem m_ver {S : xm_S} {W : VV} {p v : Int32} {g : Int32 → xm_S → Prop} (M : MR S W) (I : Iv W) (h : g (bI (isV W p v)) S) : wp_X12_isVersion 1000 p v S g := by
  unfold wp_X12_isVersion wp_X12_isVersion_27 wp_X12_isVersion_28
  refine m_pack (bI_c (fun e => ?_) (fun e => ⟨.inl rfl, ?_⟩))
  · obtain ⟨i, hi, ex⟩ := inB_nI e (by decide)
    have cl : (nI i).toNatClampNeg = i := nI_clamp (by omega)
    have c := (I.1.1 i (by omega)).2
    unfold isV at h
    rw [e, Bool.true_and] at h
    subst ex
    rw [cl] at h ⊢
    refine ⟨M.1.1, _, MS_r M.1 2, _, MS_t M.1 2, vp_in_nI (show i < 6 by omega) (by decide), m_in ?_⟩
    rw [show st_i S (1001 + 2) i = W 2 i from M.2.2 2 _ rfl]
    have E : inB v 0 (W 2 i - 1) = decide (0 ≤ v ∧ v < W 2 i) := by
      unfold inB
      refine decide_eq_decide.mpr ?_
      have c2 := c.2
      have e1 : (W 2 i).toInt = (vn W 2 i : Int) := by rw [c.1, nI_toInt (by omega)]
      have e2 : (W 2 i - 1).toInt = (vn W 2 i : Int) - 1 := by
        rw [fb_subI]
        · rw [e1]; rfl
        · rw [e1]; have : (1 : Int32).toInt = 1 := rfl; omega
        · rw [e1]; have : (1 : Int32).toInt = 1 := rfl; omega
      rw [fa_le, fa_le, fa_lt, e1, e2]
      omega
    rw [E]
    refine bI_c (fun b => ⟨.inr rfl, ?_⟩) (fun b => ⟨.inl rfl, ?_⟩)
    · rw [b] at h; exact h
    · rw [b] at h; exact h
  · unfold isV at h
    rw [e, Bool.false_and] at h
    exact h
/-- the names of a version -/
theorem CR_ver {S : xm_S} {V : VV} {N i j : Nat} (C : CR S V N) (I : Iv V) (hi : i < 6) (hj : j < vn V 2 i) : st_r S (101 + 2 * i) j = some (200 + 20 * (4 * i + j)) ∧ gV1 S (200 + 20 * (4 * i + j)) ∧ gV2 S V (4 * i + j) (200 + 20 * (4 * i + j)) ∧ gV3 S V (4 * i + j) (200 + 20 * (4 * i + j)) ∧ gN S V N (4 * i + j) (200 + 20 * (4 * i + j)) := by
  have c2 := (I.1.1 i hi).2.2
  have u : used V (4 * i + j) := by
    unfold used
    rw [show (4 * i + j) % 4 = j by omega, show (4 * i + j) / 4 = i by omega]
    exact hj
  exact ⟨(CR_gP C i hi).2.2.2.2.2.2 j hj, (CR_gV C (4 * i + j) (by omega)).1 u⟩
def cmpN (a b i j : Nat) : Int32 := if a < b then -1 else if b < a then 1 else if i < j then -1 else if j < i then 1 else 0
theorem q_cmp {a b : Nat} {S : xm_S} {g : Int32 → xm_S → Prop} (ha : a < 2 ^ 31) (hb : b < 2 ^ 31) (h : g (if a < b then -1 else if b < a then 1 else 0) S) : wp_J6_compare_7cf53 (nI a) (nI b) S g := by
  unfold wp_J6_compare_7cf53 wp_J6_compare_7cf53_19
  rw [nI_leI hb ha, nI_eq ha hb]
  refine ⟨fun e => ⟨fun e2 => ?_, fun e2 => ?_⟩, fun e => ?_⟩
  · rw [if_neg (by omega), if_pos (by omega)] at h; exact h
  · rw [if_neg (by omega), if_neg (by omega)] at h; exact h
  · rw [if_pos (by omega)] at h; exact h
/-- the class's order of versions of a package -/
theorem c_order {S : xm_S} {V : VV} {N i j k : Nat} {g : Int32 → xm_S → Prop} (C : CR S V N) (I : Iv V) (hi : i < 6) (hj : j < vn V 2 i) (hk : k < vn V 2 i) (h : g (cmpN (kyN (vn V 1 i) (vn V 3 (4 * i + j))) (kyN (vn V 1 i) (vn V 3 (4 * i + k))) j k) S) : wp_X5_order (100 + 2 * i) (nI j) (nI k) S g := by
  have c2 := (I.1.1 i hi).2.2
  have s := (I.1.1 i hi).1
  have P := CR_gP C i hi
  have vj := CR_ver C I hi hj
  have vk := CR_ver C I hi hk
  have nj := (I.1.2.1 (4 * i + j) (by omega)).1.2
  have nk := (I.1.2.1 (4 * i + k) (by omega)).1.2
  have s2 := s.2
  have rj : rkN (vn V 1 i) (vn V 3 (4 * i + j)) < 1048576 := rkf_lt (by omega) (by omega) (by omega) (by omega) (by omega)
  have rk' : rkN (vn V 1 i) (vn V 3 (4 * i + k)) < 1048576 := rkf_lt (by omega) (by omega) (by omega) (by omega) (by omega)
  have O := rk_ky (sc := vn V 1 i) (e := vn V 3 (4 * i + j) / 10000) (M := vn V 3 (4 * i + j) / 1000 % 10) (m := vn V 3 (4 * i + j) / 100 % 10) (p := vn V 3 (4 * i + j) / 10 % 10) (v := vn V 3 (4 * i + j) % 10) (e' := vn V 3 (4 * i + k) / 10000) (M' := vn V 3 (4 * i + k) / 1000 % 10) (m' := vn V 3 (4 * i + k) / 100 % 10) (p' := vn V 3 (4 * i + k) / 10 % 10) (v' := vn V 3 (4 * i + k) % 10) s2 ⟨by omega, by omega, by omega, by omega, by omega⟩ ⟨by omega, by omega, by omega, by omega, by omega⟩
  have O1 : rkN (vn V 1 i) (vn V 3 (4 * i + j)) < rkN (vn V 1 i) (vn V 3 (4 * i + k)) ↔ kyN (vn V 1 i) (vn V 3 (4 * i + j)) < kyN (vn V 1 i) (vn V 3 (4 * i + k)) := O.1
  have O2 : rkN (vn V 1 i) (vn V 3 (4 * i + j)) = rkN (vn V 1 i) (vn V 3 (4 * i + k)) ↔ kyN (vn V 1 i) (vn V 3 (4 * i + j)) = kyN (vn V 1 i) (vn V 3 (4 * i + k)) := O.2
  unfold wp_X5_order wp_X5_order_49
  rw [nI_clamp (show j < 2 ^ 31 by omega), nI_clamp (show k < 2 ^ 31 by omega)]
  refine ⟨P.1, _, P.2.2.1, _, P.2.2.2.1, vp_in_nI (show j < 4 by omega) (by decide), _, vj.1, vj.2.1.1, ?_⟩
  rw [vj.2.2.1.1, P.2.2.2.2.1, s.1]
  refine cq_rank s2 (by omega) (by omega) (by omega) (by omega) (by omega) ⟨P.1, _, P.2.2.1, _, P.2.2.2.1, vp_in_nI (show k < 4 by omega) (by decide), _, vk.1, vk.2.1.1, ?_⟩
  rw [vk.2.2.1.1, P.2.2.2.2.1, s.1]
  refine cq_rank s2 (by omega) (by omega) (by omega) (by omega) (by omega) ?_
  change wp_J6_compare_7cf53 (nI (rkN (vn V 1 i) (vn V 3 (4 * i + j)))) (nI (rkN (vn V 1 i) (vn V 3 (4 * i + k)))) S _
  refine q_cmp (by omega) (by omega) ?_
  unfold cmpN at h
  generalize rkN (vn V 1 i) (vn V 3 (4 * i + j)) = a at *
  generalize rkN (vn V 1 i) (vn V 3 (4 * i + k)) = b at *
  by_cases h1 : a < b
  · rw [if_pos h1]
    rw [if_pos (O1.mp h1)] at h
    exact ⟨fun e => absurd e (by decide), fun _ => h⟩
  · rw [if_neg h1]
    rw [if_neg (fun hh => h1 (O1.mpr hh))] at h
    by_cases h2 : b < a
    · rw [if_pos h2]
      rw [if_pos (by have a1 := fun hh => h1 (O1.mpr hh); have : ¬ a = b := by omega
                     have a2 := fun hh => this (O2.mpr hh); omega)] at h
      exact ⟨fun e => absurd e (by decide), fun _ => h⟩
    · rw [if_neg h2]
      rw [if_neg (by have := O2.mp (show a = b by omega); omega)] at h
      exact ⟨fun _ => q_cmp (by omega) (by omega) h, fun e => absurd rfl e⟩
def t_compare (V : VV) (p i j : Int32) : Nat := if isV V p i && isV V p j then 0 else 1
def r_compare (V : VV) (p i j : Int32) : Int32 := cmpN (kyN (vn V 1 p.toNatClampNeg) (vn V 3 (4 * p.toNatClampNeg + i.toNatClampNeg))) (kyN (vn V 1 p.toNatClampNeg) (vn V 3 (4 * p.toNatClampNeg + j.toNatClampNeg))) i.toNatClampNeg j.toNatClampNeg
theorem w_compare {S : xm_S} {V W : VV} {N : Nat} {p i j : Int32} {g : Int32 → xm_S → Prop} (R : RR S V W N) (I : Iv V) (h : ∀ S' N', RR S' V W N' → (t_compare V p i j = 0 → st_l S' 1200 0 = (r_compare V p i j).toInt64) → g (nI (t_compare V p i j)) S') : wp_L_compare (some 1) p i j (some 1200) S g := by
  revert h
  unfold t_compare r_compare
  intro h
  have c1 := R.1.2.2.1
  have c4 := gS_4 c1
  unfold wp_L_compare wp_X11_compare
  refine ⟨1, rfl, c1.1, c1.1, q_ver R.1 (fun e => ⟨c1.1, q_ver R.1 (fun e2 => ⟨c1.1, ?_⟩) (fun e2 => ⟨rfl, ?_⟩)⟩) (fun e => ⟨rfl, ?_⟩)⟩
  · rw [if_pos (by rw [e, e2]; rfl)] at h
    obtain ⟨a, b, ha, hb, hc, ea, eb⟩ := isV_nI I e
    obtain ⟨a', d, ha', hd, _, ea', ed⟩ := isV_nI I e2
    subst ea eb ed
    have haa : a = a' := (nI_eq (by omega) (by omega)).mp ea'
    subst haa
    have ca : (nI a).toNatClampNeg = a := nI_clamp (by omega)
    have cb : (nI b).toNatClampNeg = b := nI_clamp (by omega)
    have cd : (nI d).toNatClampNeg = d := nI_clamp (by omega)
    rw [ca, cb, cd] at h
    refine ⟨4, c4.1, _, c4.2, vp_in_nI (show a < 6 by omega) (by decide), _, by rw [ca]; exact (CR_gP R.1 a ha).2.1, (CR_gP R.1 a ha).1, c_order R.1 I ha hb hd ?_⟩
    exact w_out R I fun S' R' hl => h S' N R' (fun _ => hl)
  · rw [if_neg (by rw [e, e2]; decide)] at h
    exact h S N R (fun e => absurd e (by decide))
  · rw [if_neg (by rw [e, Bool.false_and]; decide)] at h
    exact h S N R (fun e => absurd e (by decide))
theorem pk_dif {a b : Nat} (ha : a < 2 ^ 30) (hb : b < 2 ^ 30) : (nI a - nI b = 0 ↔ a = b) ∧ (0 ≤ nI a - nI b ↔ b ≤ a) ∧ (nI a - nI b ≤ 0 ↔ a ≤ b) := by
  have e := pk_sub_toInt ha hb
  have z : (0 : Int32).toInt = 0 := rfl
  rw [fa_eq, fa_le, fa_le, e, z]
  omega
theorem m_compares {S : xm_S} {W : VV} {a b d : Nat} {g : Int32 → xm_S → Prop} (M : MR S W) (I : Iv W) (ha : a < 6) (hb : b < 4) (hd : d < 4) (h : g (if kyN (vn W 1 a) (vn W 3 (4 * a + b)) = kyN (vn W 1 a) (vn W 3 (4 * a + d)) then nI b - nI d else nI (kyN (vn W 1 a) (vn W 3 (4 * a + b))) - nI (kyN (vn W 1 a) (vn W 3 (4 * a + d)))) S) : wp_X12_compares 1000 (nI a) (nI b) (nI d) S g := by
  have s := (I.1.1 a ha).1
  have s2 := s.2
  have nb := (I.1.2.1 (4 * a + b) (by omega)).1
  have nd := (I.1.2.1 (4 * a + d) (by omega)).1
  have nb2 := nb.2
  have nd2 := nd.2
  have kb := kyN_lt (sc := vn W 1 a) (n := vn W 3 (4 * a + b)) (by omega)
  have kd := kyN_lt (sc := vn W 1 a) (n := vn W 3 (4 * a + d)) (by omega)
  unfold wp_X12_compares wp_X12_compares_54
  rw [pk_mul, nI_add, nI_add, nI_clamp (show a < 2 ^ 31 by omega), nI_clamp (show 4 * a + b < 2 ^ 31 by omega), nI_clamp (show 4 * a + d < 2 ^ 31 by omega)]
  refine ⟨M.1.1, _, MS_r M.1 1, _, MS_t M.1 1, vp_in_nI (show a < 6 by omega) (by decide), _, MS_r M.1 3, _, MS_t M.1 3, vp_in_nI (show 4 * a + b < 24 by omega) (by decide), ?_⟩
  rw [show st_i S (1001 + 1) a = nI (vn W 1 a) from (M.2.2 1 _ rfl).trans s.1, show st_i S (1001 + 3) (4 * a + b) = nI (vn W 3 (4 * a + b)) from (M.2.2 3 _ rfl).trans nb.1]
  refine pm_keyOf s2 (by omega) ⟨M.1.1, _, MS_r M.1 1, _, MS_t M.1 1, vp_in_nI (show a < 6 by omega) (by decide), _, MS_r M.1 3, _, MS_t M.1 3, vp_in_nI (show 4 * a + d < 24 by omega) (by decide), ?_⟩
  rw [show st_i S (1001 + 1) a = nI (vn W 1 a) from (M.2.2 1 _ rfl).trans s.1, show st_i S (1001 + 3) (4 * a + d) = nI (vn W 3 (4 * a + d)) from (M.2.2 3 _ rfl).trans nd.1]
  refine pm_keyOf s2 (by omega) fun y ey => ?_
  subst ey
  rw [(pk_dif (by omega) (by omega)).1]
  refine ⟨fun e => ?_, fun e => ?_⟩
  · rw [if_pos e] at h; exact h
  · rw [if_neg e] at h; exact h
theorem ml_compare {S : xm_S} {V W : VV} {N : Nat} {p i j : Int32} {g : Int32 → xm_S → Prop} (R : RR S V W N) (I : Iv V) (IW : Iv W) (h : ∀ S' b, RR S' V W N → st_i S' 1000 0 = nI (t_compare W p i j) → (t_compare W p i j = 0 → b = r_compare W p i j) → st_l S' 1200 0 = st_l S 1200 0 → g b S') : wp_X12_compare 1000 p i j S g := by
  revert h
  unfold t_compare r_compare
  intro h
  unfold wp_X12_compare wp_X12_compare_23 wp_X12_compare_24 wp_X12_compare_60
  refine ⟨R.2.1.1.1, m_ver R.2.1 IW (bI_c (fun e => ⟨R.2.1.1.1, m_ver R.2.1 IW (bI_c (fun e2 => ⟨1000, rfl, R.2.1.1.1, m_may (t := 0) R I rfl (by decide) fun S4 R4 k4 e4 => ⟨fun _ => ⟨R4.2.1.1.1, ?_⟩, fun e => absurd e (by decide)⟩⟩) (fun e2 => ⟨1000, rfl, R.2.1.1.1, m_may (t := 1) R I rfl (by decide) fun S4 R4 k4 e4 => ⟨fun e => absurd rfl e, fun _ => ?_⟩⟩))⟩) (fun e => ⟨1000, rfl, R.2.1.1.1, m_may (t := 1) R I rfl (by decide) fun S4 R4 k4 e4 => ⟨fun e => absurd rfl e, fun _ => ?_⟩⟩))⟩
  · rw [if_pos (by rw [e, e2]; rfl)] at h
    obtain ⟨a, b, ha, hb, hc, ea, eb⟩ := isV_nI IW e
    obtain ⟨a', d, ha', hd, _, ea', ed⟩ := isV_nI IW e2
    subst ea eb ed
    have haa : a = a' := (nI_eq (by omega) (by omega)).mp ea'
    subst haa
    have ca : (nI a).toNatClampNeg = a := nI_clamp (by omega)
    have cb : (nI b).toNatClampNeg = b := nI_clamp (by omega)
    have cd : (nI d).toNatClampNeg = d := nI_clamp (by omega)
    rw [ca, cb, cd] at h
    have nb2 := (IW.1.2.1 (4 * a + b) (by omega)).1.2
    have nd2 := (IW.1.2.1 (4 * a + d) (by omega)).1.2
    have kb := kyN_lt (sc := vn W 1 a) (n := vn W 3 (4 * a + b)) (by omega)
    have kd := kyN_lt (sc := vn W 1 a) (n := vn W 3 (4 * a + d)) (by omega)
    refine m_compares R4.2.1 IW ha (by omega) (by omega) ?_
    have h := fun b => h S4 b R4 e4
    unfold cmpN at h
    generalize kyN (vn W 1 a) (vn W 3 (4 * a + b)) = x at *
    generalize kyN (vn W 1 a) (vn W 3 (4 * a + d)) = y at *
    have hl := (k4 1200 (by omega)).2.2.1 0
    by_cases exy : x = y
    · rw [if_pos exy, (pk_dif (a := b) (b := d) (by omega) (by omega)).2.1, (pk_dif (a := b) (b := d) (by omega) (by omega)).2.2]
      rw [if_neg (show ¬ x < y by omega), if_neg (show ¬ y < x by omega)] at h
      refine ⟨fun q => ⟨fun q2 => h 0 (fun _ => ?_) hl, fun q2 => h 1 (fun _ => ?_) hl⟩, fun q => h (-1) (fun _ => ?_) hl⟩
      · rw [if_neg (by omega), if_neg (by omega)]
      · rw [if_neg (by omega), if_pos (by omega)]
      · rw [if_pos (by omega)]
    · rw [if_neg exy, (pk_dif (a := x) (b := y) (by omega) (by omega)).2.1, (pk_dif (a := x) (b := y) (by omega) (by omega)).2.2]
      refine ⟨fun q => ⟨fun q2 => absurd (show x = y by omega) exy, fun q2 => h 1 (fun _ => ?_) hl⟩, fun q => h (-1) (fun _ => ?_) hl⟩
      · rw [if_neg (by omega), if_pos (by omega)]
      · rw [if_pos (by omega)]
  · rw [if_neg (by rw [e, e2]; decide)] at h
    exact h S4 _ R4 e4 (fun e => absurd e (by decide)) ((k4 1200 (by omega)).2.2.1 0)
  · rw [if_neg (by rw [e, Bool.false_and]; decide)] at h
    exact h S4 _ R4 e4 (fun e => absurd e (by decide)) ((k4 1200 (by omega)).2.2.1 0)
theorem lc_compare {m b len kc ks N : Nat} {xs : Nat → Int32} {x4 : Int32} {S : xm_S} {V : VV} {g : Int32 → xm_S → Prop} {Z : Option Nat → Option Nat → Option Nat → Int32 → xm_S → Nat → Nat → Prop} (R : RR S V V N) (I : Iv V) (hm : vn V 54 0 ≤ m) (nx : NX m b len xs x4 kc ks g Z) (hv1 : vp_in (x4 + (1 : Int32)) len) (hv2 : vp_in (x4 + nI 2) len) (hv3 : vp_in (x4 + nI 3) len) : wp_L_law_919 b len xs (some 1) (some 1000) (some 1200) x4 S kc ks g Z := by
  obtain ⟨k1, k2, nx⟩ := nx
  unfold wp_L_law_919 wp_L_law_996
  refine ⟨hv1, hv2, hv3, by omega, by omega, w_compare R I fun S1 N1 R1 h1 => ⟨hv1, hv2, hv3, 1000, rfl, R1.2.1.1.1, by omega, by omega, ml_compare R1 I I fun S2 b R2 e2 hb hl => ⟨1000, rfl, R2.2.1.1.1, by omega, by omega, m_thrown R2.2.1 e2 ?_⟩⟩⟩
  exact lc_cmp R2.2.2 (by unfold t_compare; repeat' split
                          all_goals decide) (fun e => hl.trans (h1 e)) hb (nx _ _ _ _ _ R2 I (md rfl hm) (by omega) (by omega))
