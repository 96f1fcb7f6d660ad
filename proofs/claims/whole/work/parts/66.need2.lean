-- need: both sides
def ownB (w : Int32) : Bool := decide (w = -1) || (decide (w = 1) || (decide (w = nI 2) || (decide (w = nI 4) || decide (w = nI 8))))
theorem ownB_x {w : Int32} (h : ownB w = true) : w = -1 ∨ ∃ n, n ≤ 15 ∧ w = nI n := by
  unfold ownB at h
  simp only [Bool.or_eq_true, decide_eq_true_eq] at h
  rcases h with h | h | h | h | h
  · exact .inl h
  · exact .inr ⟨1, by decide, h⟩
  · exact .inr ⟨2, by decide, h⟩
  · exact .inr ⟨4, by decide, h⟩
  · exact .inr ⟨8, by decide, h⟩
theorem ownB_5 {w : Int32} {A B : Prop} (h1 : ownB w = true → A) (h0 : ownB w = false → B) : (w = -1 → A) ∧ (¬ w = -1 → (w = 1 → A) ∧ (¬ w = 1 → (w = nI 2 → A) ∧ (¬ w = nI 2 → (w = nI 4 → A) ∧ (¬ w = nI 4 → (w = nI 8 → A) ∧ (¬ w = nI 8 → B))))) := by
  unfold ownB at h1 h0
  refine ⟨fun e => h1 (by simp [e]), fun a => ⟨fun e => h1 (by simp [e]), fun b => ⟨fun e => h1 (by simp [e]), fun c => ⟨fun e => h1 (by simp [e]), fun d => ⟨fun e => h1 (by simp [e]), fun e => h0 (by simp [a, b, c, d, e])⟩⟩⟩⟩⟩
theorem q_own {w : Int32} {S : xm_S} {g : xm_S → Prop} {Ex : String → xm_S → Prop} (h1 : ownB w = true → g S) (h0 : ownB w = false → Ex xm_eA S) : wp_X11_checkOwnFeature w S g Ex := by
  unfold wp_X11_checkOwnFeature wp_X11_checkOwnFeature_37
  exact ownB_5 h1 h0
def at_ (p v : Int32) : Nat := 4 * p.toNatClampNeg + v.toNatClampNeg
def nd_1 (V : VV) (p v o : Int32) : Bool := isV V p v && inB o 0 (nI 5)
def nd_2 (V : VV) (p o ft pf ow : Int32) : Bool := inB ft 0 (nI 15) && (inB pf 1 (nI 7) && (ownB ow && (decide (¬ p = o) && okT V)))
def t_need (V : VV) (p v o ft pf ow : Int32) : Nat := if nd_1 V p v o then (if nd_2 V p o ft pf ow then (if V 8 (at_ p v) < nI 4 then 0 else 3) else 2) else 1
def v_need (V : VV) (p v o ft pf ow : Int32) : VV := if t_need V p v o ft pf ow = 0 then vN V (at_ p v) (vn V 8 (at_ p v)) o ft pf ow else V
def r_need (V : VV) (p v : Int32) : Int32 := nI (vn V 8 (at_ p v) + 1)
theorem v_need_54 {V : VV} {p v o ft pf ow : Int32} : v_need V p v o ft pf ow 54 0 = V 54 0 := by
  unfold v_need
  split
  · exact vN_f _ _ (by omega) (by omega) (by omega) (by omega)
  · rfl
theorem nd_x {V : VV} {p v o ft pf ow : Int32} (I : Iv V) (h : t_need V p v o ft pf ow = 0) : ∃ i j, i < 6 ∧ j < vn V 2 i ∧ vn V 2 i ≤ 4 ∧ p = nI i ∧ v = nI j ∧ vn V 8 (4 * i + j) < 4 ∧ okT V = true ∧ (∃ n, n ≤ 5 ∧ o = nI n) ∧ (∃ n, n ≤ 15 ∧ ft = nI n) ∧ (∃ n, n ≤ 7 ∧ pf = nI n) ∧ (ow = -1 ∨ ∃ n, n ≤ 15 ∧ ow = nI n) := by
  unfold t_need at h
  by_cases h1 : nd_1 V p v o = true
  · rw [if_pos h1] at h
    by_cases h2 : nd_2 V p o ft pf ow = true
    · rw [if_pos h2] at h
      by_cases h3 : V 8 (at_ p v) < nI 4
      · unfold nd_1 at h1
        rw [Bool.and_eq_true] at h1
        unfold nd_2 at h2
        simp only [Bool.and_eq_true] at h2
        obtain ⟨i, j, hi, hj, hc, ei, ej⟩ := isV_nI I h1.1
        obtain ⟨m11, _, l11, e11⟩ := inB1_nI h2.2.1 (by decide)
        refine ⟨i, j, hi, hj, hc, ei, ej, ?_, h2.2.2.2.2, inB_nI h1.2 (by decide), inB_nI h2.1 (by decide), ⟨m11, l11, e11⟩, ownB_x h2.2.2.1⟩
        unfold at_ at h3
        rw [ei, ej, nI_clamp (by omega), nI_clamp (by omega)] at h3
        have q := (I.1.2.2.1 (4 * i + j) (by omega)).1
        have q2 := q.2
        rw [q.1, nI_ltI (by omega) (by decide)] at h3
        exact h3
      · rw [if_neg h3] at h; exact absurd h (by decide)
    · rw [if_neg h2] at h; exact absurd h (by decide)
  · rw [if_neg h1] at h; exact absurd h (by decide)
theorem Iv_need {V : VV} {p v o ft pf ow : Int32} (I : Iv V) : Iv (v_need V p v o ft pf ow) := by
  unfold v_need
  split
  next h =>
    obtain ⟨i, j, hi, hj, hc, ei, ej, c4, ok, h9, h10, h11, h12⟩ := nd_x I h
    unfold at_
    rw [ei, ej, nI_clamp (by omega), nI_clamp (by omega)]
    exact Iv_vN I (by omega) (used_of hj hc) rfl c4 ok h9 h10 h11 h12
  · exact I
theorem w_need {S : xm_S} {V W : VV} {N : Nat} {p v o ft pf ow : Int32} {g : Int32 → xm_S → Prop} (R : RR S V W N) (I : Iv V) (h : ∀ S' N', RR S' (v_need V p v o ft pf ow) W N' → (t_need V p v o ft pf ow = 0 → st_l S' 1200 0 = (r_need V p v).toInt64) → g (nI (t_need V p v o ft pf ow)) S') : wp_L_need (some 1) p v o ft pf ow (some 1200) S g := by
  have I' := Iv_need (p := p) (v := v) (o := o) (ft := ft) (pf := pf) (ow := ow) I
  have c1 := R.1.2.2.1
  have T1 : nd_1 V p v o = false → g 1 S := fun q => by
    have t : t_need V p v o ft pf ow = 1 := by unfold t_need; rw [if_neg (by rw [q]; decide)]
    have w : v_need V p v o ft pf ow = V := by unfold v_need; rw [if_neg (by rw [t]; decide)]
    rw [t, w] at h
    exact h S N R (fun e => absurd e (by decide))
  unfold wp_L_need wp_X11_need
  refine ⟨1, rfl, c1.1, c1.1, q_ver R.1 (fun a => q_pack (fun b => ?_) (fun b => .inl ⟨rfl, T1 (by unfold nd_1; rw [b, Bool.and_false])⟩)) (fun a => .inl ⟨rfl, T1 (by unfold nd_1; rw [a, Bool.false_and])⟩)⟩
  have n1 : nd_1 V p v o = true := by unfold nd_1; rw [a, b]; rfl
  have T2 : nd_2 V p o ft pf ow = false → ∀ S' N', RR S' V W N' → g 2 S' := fun q S' N' R' => by
    have t : t_need V p v o ft pf ow = 2 := by unfold t_need; rw [if_pos n1, if_neg (by rw [q]; decide)]
    have w : v_need V p v o ft pf ow = V := by unfold v_need; rw [if_neg (by rw [t]; decide)]
    rw [t, w] at h
    exact h S' N' R' (fun e => absurd e (by decide))
  refine q_range (fun c => q_range (fun d => q_own (fun e => q_other (fun f => ⟨c1.1, q_tape R I (fun ok l hl S1 N1 R1 hN ro G => ?_) (fun ok S1 N1 R1 => .inr (.inl ⟨rfl, T2 ?_ S1 N1 R1⟩))⟩) (fun f => .inr (.inl ⟨rfl, T2 ?_ S N R⟩))) (fun e => .inr (.inl ⟨rfl, T2 ?_ S N R⟩))) (fun d => .inr (.inl ⟨rfl, T2 ?_ S N R⟩))) (fun c => .inr (.inl ⟨rfl, T2 ?_ S N R⟩))
  · have n2 : nd_2 V p o ft pf ow = true := by unfold nd_2; rw [c, d, e, ok, decide_eq_true f]; rfl
    obtain ⟨i, j, hi, hj, hc, ei, ej⟩ := isV_nI I a
    subst ei ej
    have ci : (nI i).toNatClampNeg = i := nI_clamp (by omega)
    have cj : (nI j).toNatClampNeg = j := nI_clamp (by omega)
    have ea : at_ (nI i) (nI j) = 4 * i + j := by unfold at_; rw [ci, cj]
    have T : t_need V (nI i) (nI j) o ft pf ow = if V 8 (4 * i + j) < nI 4 then 0 else 3 := by unfold t_need; rw [if_pos n1, if_pos n2, ea]
    have d1 := R1.1.2.2.1
    have d4 := gS_4 d1
    have P := CR_gP R1.1 i hi
    have vj := CR_ver R1.1 I hi hj
    have q8 := (I.1.2.2.1 (4 * i + j) (by omega)).1
    have q82 := q8.2
    rw [ci, cj]
    refine ⟨d1.1, 4, d4.1, _, d4.2, vp_in_nI (show i < 6 by omega) (by decide), _, P.2.1, P.1, _, P.2.2.1, _, P.2.2.2.1, vp_in_nI (show j < 4 by omega) (by decide), _, vj.1, vj.2.1.1, ?_⟩
    rw [vj.2.2.1.2.2.2.2.2.2.1]
    refine q_room (fun h8 => ?_) (fun h8 => .inr (.inr ⟨rfl, ?_⟩))
    · have t : t_need V (nI i) (nI j) o ft pf ow = 0 := by rw [T, if_pos h8]
      have w : v_need V (nI i) (nI j) o ft pf ow = vN V (4 * i + j) (vn V 8 (4 * i + j)) o ft pf ow := by unfold v_need; rw [if_pos t, ea]
      rw [t, w] at h
      rw [w] at I'
      unfold r_need at h
      rw [ea] at h
      have h8' : vn V 8 (4 * i + j) < 4 := by rw [q8.1, nI_ltI (by omega) (by decide)] at h8; exact h8
      have gN := vj.2.2.2.2
      have hno := gN.2.2.1 (vn V 8 (4 * i + j)) (Nat.le_refl _) h8'
      have t1 := vj.2.1
      refine ⟨_, vj.1, vj.2.1.1, _, vj.1, vj.2.1.1, 200 + 20 * (4 * i + j) + 9 + vn V 8 (4 * i + j), hno, c_newNeed fun S46 nw nb => ?_⟩
      have ty : ∀ n x, n ≠ 200 + 20 * (4 * i + j) + 9 + vn V 8 (4 * i + j) → st_t S1 n = some x → st_t S46 n = some x := fun n x hn hx => (nw n hn).1.trans hx
      rw [vj.2.2.1.2.2.2.2.2.2.1, q8.1, nI_clamp (show vn V 8 (4 * i + j) < 2 ^ 31 by omega), vj.1]
      refine ⟨_, t1.2.1, _, ty _ _ (by omega) t1.2.2.1, vp_in_nI h8' (by decide), fun v9 hv => by rw [← Option.some.inj hv]; exact nb.1, fun S54 e54 => ⟨_, rfl, ?_, _, rfl, ?_, fun S62 e62 => ?_⟩⟩
      · rw [e54]; exact ty _ _ (by omega) t1.1
      · rw [e54]; exact ty _ _ (by omega) t1.1
      rw [show st_i S54 (200 + 20 * (4 * i + j)) 7 = nI (vn V 8 (4 * i + j)) by rw [e54, st_i_pr, (nw _ (by omega)).2.2.2, vj.2.2.1.2.2.2.2.2.2.1, q8.1], nI_1] at e62
      have K : KX (ERn (200 + 20 * (4 * i + j) + 1) (vn V 8 (4 * i + j)) (200 + 20 * (4 * i + j) + 9 + vn V 8 (4 * i + j))) (EIn (200 + 20 * (4 * i + j)) 7 (200 + 20 * (4 * i + j) + 9 + vn V 8 (4 * i + j))) N1 S1 S62 := by
        rw [e62, e54]
        exact KX_pi (KX_pr (NW_KX nw hno (fun k => ERn_t (.inr rfl)) (fun k => EIn_t (.inr (.inr rfl)))) (ERn_t (.inl ⟨rfl, rfl⟩))) (EIn_t (.inl ⟨rfl, rfl⟩))
      have M62 : KM S1 S62 := by rw [e62, e54]; exact KM_pi (KM_pr (NW_KM nw (by omega)) (by omega)) (by omega)
      have tp := R1.1.2.2.2.2.2.1
      have hN1 := R1.1.1
      refine ⟨KX_t K (by omega) d1.1, 2, ((K 1 (by omega)).2.1 _ (ERn_f (by omega))).trans d1.2.1, KX_t K (by omega) tp.1, ?_⟩
      unfold wp_X8_clear
      refine ⟨KX_t K (by omega) tp.1, fun S68 e68 => ?_⟩
      have R68 : RR S68 (vN V (4 * i + j) (vn V 8 (4 * i + j)) o ft pf ow) W N1 := by
        have K2 := KX_pi (n := 2) (k := 1) (v := 0) K (EIn_t (.inr (.inl ⟨rfl, rfl⟩)))
        rw [← e68] at K2
        refine ⟨CR_vN (by omega) (used_of hj hc) rfl h8' R1.1 I K2 ?_ hl (RO_X ro (KX_rfl fA0 fA0 N1 S1) (fun _ _ _ => rfl) (fun _ _ _ => rfl) (Nat.le_refl _)) ?_ ?_ ?_ ?_, MR_K R1.2.1 (KM_tr M62 (by rw [e68]; exact KM_pi (KM_rfl _) (by omega))), KX_t K2 (by omega) R1.2.2⟩
        · have fr := fr_NW R1.1.2.1 nw (by omega)
          rw [e68, e62, e54]; exact fun n hn => fr n hn
        · rw [e68, e62, e54]
          refine ⟨nb.1, ?_, ?_, ?_, ?_, ?_⟩
          · rw [st_i_pi_n _ _ _ _ _ _ (by omega), st_i_pi_n _ _ _ _ _ _ (by omega), st_i_pr]; exact nb.2.1
          · rw [st_r_pi, st_r_pi, st_r_pr_n _ _ _ _ _ _ (by omega)]; exact nb.2.2.1
          · rw [st_i_pi_n _ _ _ _ _ _ (by omega), st_i_pi_n _ _ _ _ _ _ (by omega), st_i_pr]; exact nb.2.2.2.1
          · rw [st_i_pi_n _ _ _ _ _ _ (by omega), st_i_pi_n _ _ _ _ _ _ (by omega), st_i_pr]; exact nb.2.2.2.2.1
          · rw [st_i_pi_n _ _ _ _ _ _ (by omega), st_i_pi_n _ _ _ _ _ _ (by omega), st_i_pr]; exact nb.2.2.2.2.2
        · rw [e68, e62, e54, st_r_pi, st_r_pi, st_r_pr_s]
        · rw [e68, st_i_pi_n _ _ _ _ _ _ (by omega), e62, st_i_pi_s]
        · rw [e68, st_i_pi_s]
      refine ⟨_, rfl, by rw [e68, st_t_pi]; exact KX_t K (by omega) t1.1, ?_⟩
      rw [show st_i S68 (200 + 20 * (4 * i + j)) 7 = nI (vn V 8 (4 * i + j) + 1) by rw [e68, st_i_pi_n _ _ _ _ _ _ (by omega), e62, st_i_pi_s]]
      exact w_out R68 I' fun S' R' hl => h S' N1 R' (fun _ => hl)
    · have t : t_need V (nI i) (nI j) o ft pf ow = 3 := by rw [T, if_neg h8]
      have w : v_need V (nI i) (nI j) o ft pf ow = V := by unfold v_need; rw [if_neg (by rw [t]; decide)]
      rw [t, w] at h
      exact h S1 N1 R1 (fun e => absurd e (by decide))
  · unfold nd_2; rw [ok]; simp
  · unfold nd_2; rw [decide_eq_false (fun hh => hh f)]; simp
  · unfold nd_2; rw [e]; simp
  · unfold nd_2; rw [d]; simp
  · unfold nd_2; rw [c]; simp
theorem ml_need {S : xm_S} {V W : VV} {N : Nat} {p v o ft pf ow : Int32} {g : Int32 → xm_S → Prop} (R : RR S V W N) (I : Iv V) (IW : Iv W) (h : ∀ S' b, RR S' V (v_need W p v o ft pf ow) N → st_i S' 1000 0 = nI (t_need W p v o ft pf ow) → (t_need W p v o ft pf ow = 0 → b = r_need W p v) → st_l S' 1200 0 = st_l S 1200 0 → g b S') : wp_X12_need 1000 p v o ft pf ow S g := by
  have hT := IW.2.2.1.2.2.2.2.2.2 154 (by decide)
  -- what throws
  have X : ∀ S1 (t : Nat) x9, RR S1 V W N → KC S S1 → t_need W p v o ft pf ow = t → t ≠ 0 → t < 100 → wp_X12_need_151 1000 o ft pf ow x9 (nI t) (some 1000) S1 g := fun S1 t x9 R1 K1 et h0 ht => by
    have w : v_need W p v o ft pf ow = W := by unfold v_need; rw [if_neg (by rw [et]; exact h0)]
    rw [w, et] at h
    unfold wp_X12_need_151
    refine ⟨1000, rfl, R1.2.1.1.1, m_may (t := t) R1 I rfl ht fun S4 R4 k4 e4 => ⟨fun e => absurd e ?_, fun _ => ?_⟩⟩
    · rw [decide_eq_false h0]; exact fun e => e rfl
    · exact h S4 _ R4 e4 (fun e => absurd e h0) ((KC_tr K1 k4 1200 (by omega)).2.2.1 0)
  have X1 : nd_1 W p v o = false → wp_X12_need_20 1000 p v o ft pf ow S g := fun q => by
    have t : t_need W p v o ft pf ow = 1 := by unfold t_need; rw [if_neg (by rw [q]; decide)]
    unfold wp_X12_need_20 wp_X12_need_21 wp_X12_need_97 wp_X12_need_98 wp_X12_need_114
    exact ⟨fun _ => ⟨fun _ => ⟨fun e => absurd rfl e, fun _ => X S 1 _ R (KC_rfl _) t (by decide) (by decide)⟩, fun e => absurd rfl e⟩, fun e => absurd rfl e⟩
  unfold wp_X12_need
  refine ⟨R.2.1.1.1, m_ver R.2.1 IW (bI_c (fun a => m_pack (bI_c (fun b => ?_) (fun b => X1 (by unfold nd_1; rw [b, Bool.and_false])))) (fun a => X1 (by unfold nd_1; rw [a, Bool.false_and])))⟩
  have n1 : nd_1 W p v o = true := by unfold nd_1; rw [a, b]; rfl
  obtain ⟨i, j, hi, hj, hc, ei, ej⟩ := isV_nI IW a
  subst ei ej
  have ci : (nI i).toNatClampNeg = i := nI_clamp (by omega)
  have cj : (nI j).toNatClampNeg = j := nI_clamp (by omega)
  have ea : at_ (nI i) (nI j) = 4 * i + j := by unfold at_; rw [ci, cj]
  have q8 := (IW.1.2.2.1 (4 * i + j) (by omega)).1
  have q82 := q8.2
  have X2 : nd_2 W (nI i) o ft pf ow = false → ∀ S1, RR S1 V W N → KC S S1 → wp_X12_need_97 1000 (nI i) (nI j) o ft pf ow 1 S1 g := fun q S1 R1 K1 => by
    have t : t_need W (nI i) (nI j) o ft pf ow = 2 := by unfold t_need; rw [if_pos n1, if_neg (by rw [q]; decide)]
    unfold wp_X12_need_97 wp_X12_need_98 wp_X12_need_114
    exact ⟨fun e => absurd e (by decide), fun _ => ⟨fun _ => ⟨fun e => absurd rfl e, fun _ => X S1 2 _ R1 K1 t (by decide) (by decide)⟩, fun e => absurd e (by decide)⟩⟩
  unfold wp_X12_need_21
  refine ⟨fun e => absurd e (by decide), fun _ => m_in (bI_c (fun c => m_in (bI_c (fun d => ?_) (fun d => X2 (by unfold nd_2; rw [d]; simp) S R (KC_rfl _)))) (fun c => X2 (by unfold nd_2; rw [c]; simp) S R (KC_rfl _)))⟩
  have Y : ownB ow = true → wp_X12_need_81 1000 (nI i) (nI j) o ft pf ow 1 S g := fun e => by
    unfold wp_X12_need_81
    refine ⟨fun f => X2 (by unfold nd_2; rw [decide_eq_false (fun hh => hh f.symm)]; simp) S R (KC_rfl _), fun f => ⟨R.2.1.1.1, m_typed R I IW fun S1 R1 K1 => bI_c (fun ok => ?_) (fun ok => X2 (by unfold nd_2; rw [ok]; simp) S1 R1 K1)⟩⟩
    have n2 : nd_2 W (nI i) o ft pf ow = true := by unfold nd_2; rw [c, d, e, ok, decide_eq_true (show ¬ nI i = o from fun hh => f hh.symm)]; rfl
    have T : t_need W (nI i) (nI j) o ft pf ow = if W 8 (4 * i + j) < nI 4 then 0 else 3 := by unfold t_need; rw [if_pos n1, if_pos n2, ea]
    have M1 := R1.2.1
    unfold wp_X12_need_98 wp_X12_need_114
    rw [pk_mul, nI_add, nI_clamp (show 4 * i + j < 2 ^ 31 by omega)]
    refine ⟨fun e => absurd e (by decide), fun _ => ⟨fun _ => ⟨fun _ => ⟨M1.1.1, _, MS_r M1.1 8, _, MS_t M1.1 8, vp_in_nI (show 4 * i + j < 24 by omega) (by decide), ?_⟩, fun e => absurd e (by decide)⟩, fun e => absurd e (by decide)⟩⟩
    rw [show st_i S1 (1001 + 8) (4 * i + j) = W 8 (4 * i + j) from M1.2.2 8 _ rfl, q8.1, nI_eq (by omega) (by decide)]
    have lt : W 8 (4 * i + j) < nI 4 ↔ vn W 8 (4 * i + j) < 4 := by rw [q8.1, nI_ltI (by omega) (by decide)]
    refine ⟨fun h8 => ?_, fun h8 => X S1 3 _ R1 K1 (by rw [T, if_neg (fun hh => by have := lt.mp hh; omega)]) (by decide) (by decide)⟩
    have h8' : vn W 8 (4 * i + j) < 4 := by omega
    have t : t_need W (nI i) (nI j) o ft pf ow = 0 := by rw [T, if_pos (lt.mpr h8')]
    have w : v_need W (nI i) (nI j) o ft pf ow = vN W (4 * i + j) (vn W 8 (4 * i + j)) o ft pf ow := by unfold v_need; rw [if_pos t, ea]
    rw [t, w] at h
    unfold r_need at h
    rw [ea] at h
    unfold wp_X12_need_151
    refine ⟨1000, rfl, M1.1.1, m_may (t := 0) R1 I rfl (by decide) fun S4 R4 k4 e4 => ⟨fun _ => ?_, fun e => absurd e (by decide)⟩⟩
    have M4 := R4.2.1
    rw [nI_clamp (show 4 * i + j < 2 ^ 31 by omega)]
    refine ⟨M4.1.1, _, MS_r M4.1 8, _, MS_t M4.1 8, vp_in_nI (show 4 * i + j < 24 by omega) (by decide), fun y ey => ?_⟩
    rw [show st_i S4 (1001 + 8) (4 * i + j) = nI (vn W 8 (4 * i + j)) from (M4.2.2 8 _ rfl).trans q8.1, pk_mul, nI_add] at ey
    subst ey
    rw [nI_clamp (show 4 * (4 * i + j) + vn W 8 (4 * i + j) < 2 ^ 31 by omega)]
    refine ⟨_, MS_r M4.1 9, _, MS_t M4.1 9, vp_in_nI (show 4 * (4 * i + j) + vn W 8 (4 * i + j) < 96 by omega) (by decide), fun S19 e19 => ?_⟩
    have M19 := MR_a (f := 9) (k := 4 * (4 * i + j) + vn W 8 (4 * i + j)) (x := o) M4
    rw [← e19] at M19
    refine ⟨_, MS_r M19.1 10, _, MS_t M19.1 10, vp_in_nI (show 4 * (4 * i + j) + vn W 8 (4 * i + j) < 96 by omega) (by decide), fun S26 e26 => ?_⟩
    have M26 := MR_a (f := 10) (k := 4 * (4 * i + j) + vn W 8 (4 * i + j)) (x := ft) M19
    rw [← e26] at M26
    refine ⟨_, MS_r M26.1 11, _, MS_t M26.1 11, vp_in_nI (show 4 * (4 * i + j) + vn W 8 (4 * i + j) < 96 by omega) (by decide), fun S33 e33 => ?_⟩
    have M33 := MR_a (f := 11) (k := 4 * (4 * i + j) + vn W 8 (4 * i + j)) (x := pf) M26
    rw [← e33] at M33
    refine ⟨_, MS_r M33.1 12, _, MS_t M33.1 12, vp_in_nI (show 4 * (4 * i + j) + vn W 8 (4 * i + j) < 96 by omega) (by decide), fun S40 e40 => ?_⟩
    have M40 := MR_a (f := 12) (k := 4 * (4 * i + j) + vn W 8 (4 * i + j)) (x := ow) M33
    rw [← e40] at M40
    have M40 : MR S40 (vN1 W (4 * (4 * i + j) + vn W 8 (4 * i + j)) o ft pf ow) := M40
    have k40 : KC S4 S40 := by rw [e40, e33, e26, e19]; exact KC_pi (KC_pi (KC_pi (KC_pi (KC_rfl _) (by omega)) (by omega)) (by omega)) (by omega)
    have z40 : st_i S40 1000 0 = 0 := by rw [e40, st_i_pi_n _ _ _ _ _ _ (by omega), e33, st_i_pi_n _ _ _ _ _ _ (by omega), e26, st_i_pi_n _ _ _ _ _ _ (by omega), e19, st_i_pi_n _ _ _ _ _ _ (by omega)]; exact e4
    refine m_keeps M40 (VT_e hT ⟨vN1_f _ _ (by omega), fun s hs => vN1_f _ _ (by omega)⟩) (by omega) fun S42 k42 M42 z42 => ?_
    refine ⟨M42.1.1, _, MS_r M42.1 8, _, MS_t M42.1 8, vp_in_nI (show 4 * i + j < 24 by omega) (by decide), _, MS_r M42.1 8, _, MS_t M42.1 8, vp_in_nI (show 4 * i + j < 24 by omega) (by decide), fun S55 e55 => ?_⟩
    rw [show st_i S42 (1001 + 8) (4 * i + j) = nI (vn W 8 (4 * i + j)) from (M42.2.2 8 _ rfl).trans ((kp_ev 8 _ (by decide) (by decide)).trans ((vN1_f 8 _ (by omega)).trans q8.1)), nI_1] at e55
    have M55 := MR_a (f := 8) (k := 4 * i + j) (x := nI (vn W 8 (4 * i + j) + 1)) M42
    rw [← e55] at M55
    have k55 : KC S4 S55 := KC_tr (KC_tr k40 k42) (by rw [e55]; exact KC_pi (KC_rfl _) (by omega))
    refine ⟨_, MS_r M55.1 8, _, MS_t M55.1 8, vp_in_nI (show 4 * i + j < 24 by omega) (by decide), ?_⟩
    refine h S55 _ (RR_m R4 I k55 M55) ?_ (fun _ => ?_) ((KC_tr (KC_tr K1 k4) k55 1200 (by omega)).2.2.1 0)
    · rw [e55, st_i_pi_n _ _ _ _ _ _ (by omega), z42]; exact z40
    · rw [e55, st_i_pi_s]
  have Z := ownB_5 (w := ow) Y (fun e => X2 (by unfold nd_2; rw [e]; simp) S R (KC_rfl _))
  exact ⟨Z.1, fun a => ⟨(Z.2 a).1, fun b => ⟨((Z.2 a).2 b).1, fun c => ⟨(((Z.2 a).2 b).2 c).1, fun d => ⟨((((Z.2 a).2 b).2 c).2 d).2, ((((Z.2 a).2 b).2 c).2 d).1⟩⟩⟩⟩⟩
theorem lc_need {m b len kc ks N : Nat} {xs : Nat → Int32} {x4 : Int32} {S : xm_S} {V : VV} {g : Int32 → xm_S → Prop} {Z : Option Nat → Option Nat → Option Nat → Int32 → xm_S → Nat → Nat → Prop} (R : RR S V V N) (I : Iv V) (hm : vn V 54 0 ≤ m) (nx : NX m b len xs x4 kc ks g Z) (hv1 : vp_in (x4 + (1 : Int32)) len) (hv2 : vp_in (x4 + nI 2) len) (hv3 : vp_in (x4 + nI 3) len) (hv4 : vp_in (x4 + nI 4) len) (hv5 : vp_in (x4 + nI 5) len) (hv6 : vp_in (x4 + nI 6) len) : wp_L_law_526 b len xs (some 1) (some 1000) (some 1200) x4 S kc ks g Z := by
  obtain ⟨k1, k2, nx⟩ := nx
  unfold wp_L_law_526 wp_L_law_641
  refine ⟨hv1, hv2, hv3, hv4, hv5, hv6, by omega, by omega, w_need R I fun S1 N1 R1 h1 => ⟨hv1, hv2, hv3, hv4, hv5, hv6, 1000, rfl, R1.2.1.1.1, by omega, by omega, ml_need R1 (Iv_need I) I fun S2 b R2 e2 hb hl => ⟨1000, rfl, R2.2.1.1.1, by omega, by omega, m_thrown R2.2.1 e2 ?_⟩⟩⟩
  exact lc_cmp R2.2.2 (by unfold t_need; repeat' split
                          all_goals decide) (fun e => hl.trans (h1 e)) hb (nx _ _ _ _ _ R2 (Iv_need I) (md v_need_54 hm) (by omega) (by omega))
