-- the class studies: by which versions a need is met
theorem gS_16 {S : xm_S} (h : gS S) : st_r S 1 10 = some 16 ∧ st_t S 16 = some (7, 0) := ⟨h.2.2.2.2.2.2.2.2.2.2.2.2.2.2.1, h.2.2.2.2.2.2.2.2.2.2.2.2.2.2.2.1⟩
theorem gS_5 {S : xm_S} (h : gS S) : st_r S 1 2 = some 5 ∧ st_t S 5 = some (114, 4) := ⟨h.2.2.2.2.1, h.2.2.2.2.2.1⟩
theorem pvK_m {V : VV} {q pk i k : Nat} (h : pvK V q pk i k = true) : ∀ d, pvK V q pk i (k + d) = true := by
  intro d
  induction d with
  | zero => exact h
  | succ d ih =>
    show (pvK V q pk i (k + d) || _) = true
    rw [ih]; rfl
theorem ob_skip {f : Nat → Bool} {a : Nat} : ∀ d, (∀ j, j < d → f (a + j) = false) → ob f (a + d) = ob f a := by
  intro d
  induction d with
  | zero => intro _; rfl
  | succ d ih =>
    intro h
    show (if f (a + d) then ob f (a + d) ||| ((1 : Int32) <<< (nI (a + d) &&& 31)) else ob f (a + d)) = ob f a
    rw [if_neg (by rw [h d (by omega)]; decide), ih fun j hj => h j (by omega)]
theorem c_prov {S : xm_S} {V : VV} {N p j q r : Nat} {l : List xit} {g : Int32 → xm_S → Prop} (C : CR S V N) (I : Iv V) (hp : p < 6) (hj : j < vn V 2 p) (hP : nP V q < 6) (ho : tOf (tT V q) (tL V q) l) (ro : RO S r l N) (h : g (bI (pvK V q (nP V q) (4 * p + j) (vn V 15 (4 * p + j)))) S) : wp_X10_provides (200 + 20 * (4 * p + j)) (nI (nP V q)) (some r) (nI (vn V 1 (nP V q))) S g := by
  have c4 := (I.1.1 p hp).2.2
  have ha : 4 * p + j < 24 := by omega
  have sc := (I.1.1 _ hP).1
  have sc2 := sc.2
  have q15 := (I.1.2.2.1 _ ha).2.2.1
  have q152 := q15.2
  obtain ⟨v0, v1, v2, v3, v4⟩ := CR_ver C I hp hj
  obtain ⟨t1, t2, t3, t4, t5, t6, t7, t8, t9, t10, t11, t12, t13, t14, t15, t16, t17⟩ := v1
  unfold wp_X10_provides wp_X10_provides_3
  intro Z hZ
  have H : ∀ d k, k + d = vn V 15 (4 * p + j) → pvK V q (nP V q) (4 * p + j) k = false → Z (nI (nP V q)) (some r) (nI (vn V 1 (nP V q))) (nI k) S := by
    intro d
    induction d with
    | zero =>
      intro k hk hv
      refine hZ _ _ _ _ _ ?_
      unfold wp_X10_provides_3B
      rw [v2.2.2.2.2.2.2.2.2.1, q15.1]
      rw [show k = vn V 15 (4 * p + j) by omega] at hv ⊢
      rw [hv] at h
      exact ⟨t1, fun _ => h, fun e => absurd (nI_le (Nat.le_refl _) (by omega)) e⟩
    | succ d ih =>
      intro k hk hv
      have ih := ih (k + 1) (by omega)
      have eK : pvK V q (nP V q) (4 * p + j) (k + 1) = (pvK V q (nP V q) (4 * p + j) k || (decide (vn V 16 (2 * (4 * p + j) + k) = nP V q) && hf (vn V 1 (nP V q)) (vn V 17 (2 * (4 * p + j) + k)) false false (itm V q))) := rfl
      rw [hv, Bool.false_or] at eK
      have q16 := (I.2.1.2.1 (2 * (4 * p + j) + k) (by omega)).2
      have q162 := q16.1.2
      have q172 := q16.2.2
      obtain ⟨w1, w2⟩ := v3.2.1 k (by omega)
      refine hZ _ _ _ _ _ ?_
      unfold wp_X10_provides_3B wp_X10_provides_40
      rw [v2.2.2.2.2.2.2.2.2.1, q15.1, nI_clamp (show k < 2 ^ 31 by omega)]
      refine ⟨t1, fun e => absurd e (nI_ge (show k < vn V 15 (4 * p + j) by omega) (by omega)), fun _ => ⟨_, t6, _, t7, vp_in_nI (show k < 2 by omega) (by decide), ?_⟩⟩
      rw [w1, q16.1.1, nI_eq (by omega) (by omega)]
      refine ⟨fun e y ey => ?_, fun e => ⟨_, t8, _, t9, vp_in_nI (show k < 2 by omega) (by decide), r, rfl, ro.2.2.1, ?_⟩⟩
      · rw [decide_eq_false e, Bool.false_and] at eK
        rw [ey, nI_1]; exact ih eK
      · rw [w2]
        refine cq_includes ro (tOf_ok ho) sc2 (by omega) ?_
        rw [decide_eq_true e, Bool.true_and, itm_of ho] at eK
        refine bI_c (fun b => ?_) (fun b y ey => ?_)
        · rw [b] at eK
          have := pvK_m eK d
          rw [show k + 1 + d = vn V 15 (4 * p + j) by omega] at this
          rw [this] at h
          exact h
        · rw [b] at eK
          rw [ey, nI_1]; exact ih eK
  exact H (vn V 15 (4 * p + j)) 0 (by omega) rfl
theorem ft_c {f a : Int32} : (f &&& (a ^^^ (-1 : Int32))) = 0 ↔ (a &&& f) = f := by
  rw [bt_and_z]
  constructor
  · intro h
    refine bt_ext fun i hi => ?_
    rw [bt_and]
    cases e : bt f i
    · rw [Bool.and_false]
    · have := h i hi e
      rw [bt_not a hi] at this
      cases e2 : bt a i
      · rw [e2] at this; cases this
      · rfl
  · intro h i hi e
    rw [bt_not a hi]
    have : bt (a &&& f) i = true := by rw [h]; exact e
    rw [bt_and, Bool.and_eq_true] at this
    rw [this.1]; rfl
theorem c_meet {S : xm_S} {V : VV} {N n q : Nat} {pf ow : Int32} {g : Int32 → xm_S → Prop} (C : CR S V N) (I : Iv V) (hP : nP V q < 6) (h0 : st_r S 16 0 = some 4) (no : NO S V N n q (nI (nP V q)) (nF V q) pf ow) (h : g (mbI V q) S) : wp_X7_meeting 16 (some n) S g := by
  obtain ⟨o1, o2, o3, o4, o5, r, o6, l, ho, ro⟩ := no
  have c1 := C.2.2.1
  have s16 := gS_16 c1
  have c4 := gS_4 c1
  have P := CR_gP C (nP V q) hP
  have sc := (I.1.1 _ hP).1
  have sc2 := sc.2
  unfold wp_X7_meeting
  refine ⟨s16.2, n, rfl, o1, ?_⟩
  rw [o2]
  refine ⟨4, h0, _, c4.2, vp_in_nI hP (by decide), ?_⟩
  rw [nI_clamp (show nP V q < 2 ^ 31 by omega), P.2.1]
  refine ⟨_, rfl, P.1, ?_⟩
  rw [P.2.2.2.2.1, sc.1]
  unfold wp_X7_meeting_18
  intro Z hZ
  have H : ∀ d p, p + d = 6 → Z (some n) (nI (vn V 1 (nP V q))) (ob (mt V q) (4 * p)) (nI p) S := by
    intro d
    induction d with
    | zero =>
      intro p hp
      refine hZ _ _ _ _ _ ?_
      unfold wp_X7_meeting_18B
      rw [show p = 6 by omega]
      exact ⟨fun _ => h, fun e => absurd (nI_le (Nat.le_refl 6) (by decide)) e⟩
    | succ d ih =>
      intro p hp
      have ih := ih (p + 1) (by omega)
      have Pp := CR_gP C p (by omega)
      have cn := (I.1.1 p (by omega)).2
      have cn2 := cn.2
      refine hZ _ _ _ _ _ ?_
      unfold wp_X7_meeting_18B wp_X7_meeting_28
      refine ⟨fun e => absurd e (nI_ge (show p < 6 by omega) (by decide)), fun _ Z2 hZ2 => ?_⟩
      have H2 : ∀ d j, j + d = vn V 2 p → Z2 (some n) (nI (vn V 1 (nP V q))) (ob (mt V q) (4 * p + j)) (nI p) (nI j) S := by
        intro d
        induction d with
        | zero =>
          intro j hj
          refine hZ2 _ _ _ _ _ _ ?_
          unfold wp_X7_meeting_28B
          rw [nI_clamp (show p < 2 ^ 31 by omega)]
          refine ⟨s16.2, 4, h0, _, c4.2, vp_in_nI (show p < 6 by omega) (by decide), _, Pp.2.1, Pp.1, ?_⟩
          rw [Pp.2.2.2.2.2.1, cn.1, show j = vn V 2 p by omega]
          refine ⟨fun _ y ey => ?_, fun e => absurd (nI_le (Nat.le_refl _) (by omega)) e⟩
          rw [ey, nI_1]
          have := ob_skip (f := mt V q) (a := 4 * p + vn V 2 p) (4 - vn V 2 p) fun i hi => by
            unfold mt usb
            rw [decide_eq_false (p := (4 * p + vn V 2 p + i) % 4 < vn V 2 ((4 * p + vn V 2 p + i) / 4)) (by rw [show (4 * p + vn V 2 p + i) / 4 = p by omega]; omega), Bool.false_and, Bool.and_false]
          rw [show 4 * p + vn V 2 p + (4 - vn V 2 p) = 4 * (p + 1) by omega] at this
          rw [← this]
          exact ih
        | succ d ih2 =>
          intro j hj
          have ih2 := ih2 (j + 1) (by omega)
          have us : usb V (4 * p + j) = true := decide_eq_true (by rw [show (4 * p + j) % 4 = j by omega, show (4 * p + j) / 4 = p by omega]; omega)
          have eM : mt V q (4 * p + j) = (if p = nP V q then decide (V 4 (4 * p + j) &&& nF V q = nF V q) && inc V q (nP V q) j else decide (nF V q = 0) && pvK V q (nP V q) (4 * p + j) (vn V 15 (4 * p + j))) := by
            unfold mt
            rw [decide_eq_true (show 4 * p + j < 24 by omega), us, Bool.true_and, Bool.true_and, show (4 * p + j) / 4 = p by omega, show (4 * p + j) % 4 = j by omega]
          have eO : ob (mt V q) (4 * p + (j + 1)) = if mt V q (4 * p + j) then ob (mt V q) (4 * p + j) ||| ((1 : Int32) <<< (nI (4 * p + j) &&& 31)) else ob (mt V q) (4 * p + j) := rfl
          have T0 : mt V q (4 * p + j) = false → wp_X7_meeting_135 16 (some n) (nI (vn V 1 (nP V q))) (ob (mt V q) (4 * p + j)) (nI p) (nI j) (0 : Int32) S g Z Z2 := fun b => by
            unfold wp_X7_meeting_135 wp_X7_meeting_154
            refine ⟨fun _ y1 e1 y3 e3 => ?_, fun e => absurd rfl e⟩
            rw [if_neg (by rw [b]; decide)] at eO
            rw [e1, e3, nI_1, Int32.or_zero, ← eO]; exact ih2
          have T1 : mt V q (4 * p + j) = true → wp_X7_meeting_135 16 (some n) (nI (vn V 1 (nP V q))) (ob (mt V q) (4 * p + j)) (nI p) (nI j) (1 : Int32) S g Z Z2 := fun b => by
            unfold wp_X7_meeting_135 wp_X7_meeting_154 wp_X7_bitOf
            refine ⟨fun e => absurd e (by decide), fun _ y1 e1 y3 e3 => ?_⟩
            rw [if_pos b] at eO
            rw [e1, e3, nI_1, pk_mul, nI_add, show p * 4 + j = 4 * p + j by omega, ← eO]; exact ih2
          obtain ⟨w0, w1, w2, w3, w4⟩ := CR_ver C I (show p < 6 by omega) (show j < vn V 2 p by omega)
          have n3 := (I.1.2.1 (4 * p + j) (by omega)).1
          have n32 := n3.2
          refine hZ2 _ _ _ _ _ _ ?_
          unfold wp_X7_meeting_28B wp_X7_meeting_134 wp_X7_meeting_102
          rw [nI_clamp (show p < 2 ^ 31 by omega), nI_clamp (show j < 2 ^ 31 by omega)]
          refine ⟨s16.2, 4, h0, _, c4.2, vp_in_nI (show p < 6 by omega) (by decide), _, Pp.2.1, Pp.1, ?_⟩
          rw [Pp.2.2.2.2.2.1, cn.1]
          refine ⟨fun e => absurd e (nI_ge (show j < vn V 2 p by omega) (by omega)), fun _ => ⟨4, h0, _, c4.2, vp_in_nI (show p < 6 by omega) (by decide), _, Pp.2.1, Pp.1, _, Pp.2.2.1, _, Pp.2.2.2.1, vp_in_nI (show j < 4 by omega) (by decide), n, rfl, o1, ?_⟩⟩
          rw [o2, nI_eq (by omega) (by omega)]
          refine ⟨fun ne => ⟨n, rfl, o1, ?_⟩, fun e => ⟨n, rfl, o1, _, w0, w1.1, ?_⟩⟩
          · rw [if_neg ne] at eM
            rw [o3]
            refine ⟨fun f0 => T0 (by rw [eM, decide_eq_false f0]; rfl), fun f0 => ⟨n, rfl, o1, n, rfl, o1, _, w0, w1.1, ?_⟩⟩
            rw [decide_eq_true f0, Bool.true_and] at eM
            rw [o6, o2]
            refine c_prov (p := p) (j := j) C I (by omega) (by omega) hP ho ro ?_
            exact bI_c (fun b => T1 (by rw [eM]; exact b)) (fun b => T0 (by rw [eM]; exact b))
          · rw [if_pos e] at eM
            rw [o3, w2.2.1, ft_c]
            refine ⟨fun f0 => T0 (by rw [eM, decide_eq_false f0]; rfl), fun f0 => ⟨n, rfl, o1, _, w0, w1.1, r, o6, ro.2.2.1, ?_⟩⟩
            rw [decide_eq_true f0, Bool.true_and] at eM
            rw [w2.1]
            refine cq_includes ro (tOf_ok ho) sc2 (by omega) ?_
            have E : hf (vn V 1 (nP V q)) (vn V 3 (4 * p + j)) false false l = inc V q (nP V q) j := by unfold inc; rw [itm_of ho, ← e]
            rw [E]
            exact bI_c (fun b => T1 (by rw [eM]; exact b)) (fun b => T0 (by rw [eM]; exact b))
      exact H2 (vn V 2 p) 0 (by omega)
  exact H 6 0 rfl
