-- the class permits; what is known of the solver behind both
def STe (S : xm_S) (V : VV) : Prop := ∀ i, i < 24 → ∀ k, bt (st_i S 17 i) k = (decide (k < 24) && (cf V i k || cf V k i))
def STD (S : xm_S) (V : VV) (pl : Nat) (ul : Nat → Bool) : Prop := ST1 S V pl ∧ STw S V (vn V 18 0) ∧ STn S V (vn V 8) ∧ STe S V ∧ (∀ p, p < 6 → st_i S 18 p = cnI V pl ul p) ∧ st_i S 16 6 = pmI V pl ul
theorem STn_k {S S' : xm_S} {V : VV} {ct : Nat → Nat} (h : STn S V ct) (e : ∀ n k, 200 ≤ n → st_i S' n k = st_i S n k) : STn S' V ct := fun a ha j hj => (e _ _ (by omega)).trans (h a ha j hj)
theorem STw_k {S S' : xm_S} {V : VV} {N w : Nat} (C : CR S V N) (hw : w ≤ vn V 18 0) (h : STw S V w) (r : ∀ n k, n ≠ 16 → st_r S' n k = st_r S n k) (e : ∀ n k, 200 ≤ n → st_i S' n k = st_i S n k) : STw S' V w := fun j hj n hn => by
  rw [r _ _ (by decide)] at hn
  obtain ⟨w, g1, g2⟩ := C.2.2.2.2.2.2.2.2.1
  have gw := g1 j (by omega)
  have en : n = w j := Option.some.inj (hn.symm.trans gw.1)
  rw [e _ _ (by omega)]
  exact h j hj n hn
theorem c_permit {S : xm_S} {V : VV} {N pl : Nat} {x : Int32} {g : xm_S → Prop} (C : CR S V N) (I : Iv V) (hl : pl < 3) (h0 : st_r S 16 0 = some 4) (h : ∀ S', SF S S' → (∀ n k, ¬ (n = 18 ∨ n = 16 ∧ k = 6) → st_i S' n k = st_i S n k) → (∀ n k, st_r S' n k = st_r S n k) → (∀ p, p < 6 → st_i S' 18 p = cnI V pl (bt x) p) → st_i S' 16 6 = pmI V pl (bt x) → g S') : wp_X7_permit 16 (V 26 0) (some (8 + pl)) x S g := by
  have s16 := (gS_16 C.2.2.1).2
  have o5 := C.2.2.2.2.1
  unfold wp_X7_permit
  refine ⟨s16, fun S59 e59 => ?_⟩
  unfold wp_X7_permit_8
  intro Z hZ
  have H : ∀ d p S1, p + d = 6 → SF S S1 → (∀ n k, ¬ (n = 18 ∨ n = 16 ∧ k = 6) → st_i S1 n k = st_i S n k) → (∀ n k, st_r S1 n k = st_r S n k) → (∀ i, i < p → st_i S1 18 i = cnI V pl (bt x) i) → st_i S1 16 6 = ob (pm V pl (bt x)) (4 * p) → Z (V 26 0) (some (8 + pl)) x (nI p) S1 := by
    intro d
    induction d with
    | zero =>
      intro p S1 hp F1 f1 f2 k1 p1
      refine hZ _ _ _ _ _ ?_
      unfold wp_X7_permit_8B
      rw [show p = 6 by omega] at k1 p1 ⊢
      exact ⟨fun _ => h S1 F1 f1 f2 k1 p1, fun e => absurd (nI_le (Nat.le_refl 6) (by decide)) e⟩
    | succ d ih =>
      intro p S1 hp F1 f1 f2 k1 p1
      have ih := fun S' => ih (p + 1) S' (by omega)
      have C1 := SF_CR F1 C I
      have L := CR_gL C1 pl hl
      have o1 := C1.2.2.2.2.1
      have cn := (I.1.1 p (by omega)).2
      have cn2 := cn.2
      refine hZ _ _ _ _ _ ?_
      unfold wp_X7_permit_8B
      rw [b1_z (show p < 32 by omega), nI_clamp (show p < 2 ^ 31 by omega)]
      -- behind the counting
      have T : ∀ y, y = cnI V pl (bt x) p → wp_X7_permit_38 16 (V 26 0) (some (8 + pl)) x (nI p) y (nI p) (st_r S1 16 5) S1 g Z := fun y ey => by
        unfold wp_X7_permit_38
        rw [nI_clamp (show p < 2 ^ 31 by omega)]
        refine ⟨18, o1.2.2.1, _, o1.2.2.2.1, vp_in_nI (show p < 6 by omega) (by decide), fun S50 e50 => ?_⟩
        unfold wp_X7_permit_42
        intro Z2 hZ2
        have H2 : ∀ d v S2, v + d = vn V 2 p → SF S S2 → (∀ n k, ¬ (n = 18 ∨ n = 16 ∧ k = 6) → st_i S2 n k = st_i S n k) → (∀ n k, st_r S2 n k = st_r S n k) → (∀ i, i < p + 1 → st_i S2 18 i = cnI V pl (bt x) i) → st_i S2 16 6 = ob (pm V pl (bt x)) (4 * p + v) → Z2 (V 26 0) (some (8 + pl)) x (nI p) (nI v) S2 := by
          intro d
          induction d with
          | zero =>
            intro v S2 hv F2 g1 g2 k2 p2
            have C2 := SF_CR F2 C I
            have P := CR_gP C2 p (by omega)
            have c4 := gS_4 C2.2.2.1
            refine hZ2 _ _ _ _ _ _ ?_
            unfold wp_X7_permit_42B
            rw [nI_clamp (show p < 2 ^ 31 by omega)]
            refine ⟨(gS_16 C2.2.2.1).2, 4, (g2 _ _).trans h0, _, c4.2, vp_in_nI (show p < 6 by omega) (by decide), _, P.2.1, P.1, ?_⟩
            rw [P.2.2.2.2.2.1, cn.1]
            rw [show v = vn V 2 p by omega] at p2 ⊢
            refine ⟨fun _ y ey => ?_, fun e => absurd (nI_le (Nat.le_refl _) (by omega)) e⟩
            rw [ey, nI_1]
            have sk := ob_skip (f := pm V pl (bt x)) (a := 4 * p + vn V 2 p) (4 - vn V 2 p) fun i hi => by
              unfold pm usb
              rw [decide_eq_false (p := (4 * p + vn V 2 p + i) % 4 < vn V 2 ((4 * p + vn V 2 p + i) / 4)) (by rw [show (4 * p + vn V 2 p + i) / 4 = p by omega]; omega), Bool.false_and, Bool.and_false]
            rw [show 4 * p + vn V 2 p + (4 - vn V 2 p) = 4 * (p + 1) by omega] at sk
            exact ih S2 F2 g1 g2 k2 (by rw [sk]; exact p2)
          | succ d ih2 =>
            intro v S2 hv F2 g1 g2 k2 p2
            have ih2 := fun S' => ih2 (v + 1) S' (by omega)
            have C2 := SF_CR F2 C I
            have P := CR_gP C2 p (by omega)
            have c4 := gS_4 C2.2.2.1
            have o2 := C2.2.2.2.2.1
            obtain ⟨w0, w1, w2, w3, w4⟩ := CR_ver C2 I (show p < 6 by omega) (show v < vn V 2 p by omega)
            have n5 := (I.1.2.1 (4 * p + v) (by omega)).2.2.1
            have n52 := n5.2
            have us : usb V (4 * p + v) = true := decide_eq_true (by rw [show (4 * p + v) % 4 = v by omega, show (4 * p + v) / 4 = p by omega]; omega)
            have eM : pm V pl (bt x) (4 * p + v) = (bt (V 26 0) (vn V 5 (4 * p + v)) && (decide (V 7 (4 * p + v) = 0) || decide (cnI V pl (bt x) p = nI v))) := by
              unfold pm
              rw [decide_eq_true (show 4 * p + v < 24 by omega), us, Bool.true_and, Bool.true_and, show (4 * p + v) / 4 = p by omega, show (4 * p + v) % 4 = v by omega]
            have eO : ob (pm V pl (bt x)) (4 * p + (v + 1)) = if pm V pl (bt x) (4 * p + v) then ob (pm V pl (bt x)) (4 * p + v) ||| ((1 : Int32) <<< (nI (4 * p + v) &&& 31)) else ob (pm V pl (bt x)) (4 * p + v) := rfl
            have T0 : pm V pl (bt x) (4 * p + v) = false → wp_X7_permit_132 16 (V 26 0) (some (8 + pl)) x (nI p) (nI v) S2 g Z Z2 := fun b => by
              unfold wp_X7_permit_132
              intro y1 e1
              rw [if_neg (by rw [b]; decide)] at eO
              rw [e1, nI_1]
              exact ih2 S2 F2 g1 g2 k2 (by rw [eO]; exact p2)
            have T1 : pm V pl (bt x) (4 * p + v) = true → wp_X7_permit_116 16 (V 26 0) (some (8 + pl)) x (nI p) (nI v) S2 g Z Z2 := fun b => by
              unfold wp_X7_permit_116 wp_X7_bitOf wp_X7_permit_132
              refine ⟨(gS_16 C2.2.2.1).2, (gS_16 C2.2.2.1).2, fun S7 e7 y1 e1 => ?_⟩
              rw [if_pos b] at eO
              rw [e1, nI_1]
              rw [p2, pk_mul, nI_add, show p * 4 + v = 4 * p + v by omega, ← eO] at e7
              refine ih2 S7 (by rw [e7]; exact SF_i F2 (by decide)) (fun n k hn => by rw [e7, st_i_pi_n _ _ _ _ _ _ (by omega)]; exact g1 n k hn) (fun n k => by rw [e7]; exact g2 n k) (fun i hi => by rw [e7, st_i_pi_n _ _ _ _ _ _ (by omega)]; exact k2 i hi) (by rw [e7, st_i_pi_s])
            refine hZ2 _ _ _ _ _ _ ?_
            unfold wp_X7_permit_42B
            rw [nI_clamp (show p < 2 ^ 31 by omega), nI_clamp (show v < 2 ^ 31 by omega)]
            refine ⟨(gS_16 C2.2.2.1).2, 4, (g2 _ _).trans h0, _, c4.2, vp_in_nI (show p < 6 by omega) (by decide), _, P.2.1, P.1, ?_⟩
            rw [P.2.2.2.2.2.1, cn.1]
            refine ⟨fun e => absurd e (nI_ge (show v < vn V 2 p by omega) (by omega)), fun _ => ⟨4, (g2 _ _).trans h0, _, c4.2, vp_in_nI (show p < 6 by omega) (by decide), _, P.2.1, P.1, _, P.2.2.1, _, P.2.2.2.1, vp_in_nI (show v < 4 by omega) (by decide), _, w0, w1.1, ?_⟩⟩
            rw [w2.2.2.1, n5.1, b1_z (show vn V 5 (4 * p + v) < 32 by omega), w0]
            refine ⟨fun e => ?_, fun e => ?_⟩
            · unfold wp_X7_permit_89
              exact ⟨fun _ => T0 (by rw [eM, e]; rfl), fun hh => absurd rfl hh⟩
            · have e : bt (V 26 0) (vn V 5 (4 * p + v)) = true := by cases h2 : bt (V 26 0) (vn V 5 (4 * p + v)); exact absurd h2 e; rfl
              rw [e, Bool.true_and] at eM
              unfold wp_X7_permit_89
              refine ⟨fun hh => absurd hh (by decide), fun _ => ⟨_, rfl, w1.1, ?_⟩⟩
              rw [w2.2.2.2.2.1, nI_clamp (show p < 2 ^ 31 by omega)]
              refine ⟨fun y0 => T1 (by rw [eM, decide_eq_true y0]; rfl), fun y0 => ⟨(gS_16 C2.2.2.1).2, 18, o2.2.2.1, _, o2.2.2.2.1, vp_in_nI (show p < 6 by omega) (by decide), ?_⟩⟩
              rw [k2 p (by omega)]
              exact ⟨fun q => T0 (by rw [eM, decide_eq_false y0, decide_eq_false q]; rfl), fun q => T1 (by rw [eM, decide_eq_true q, Bool.or_true])⟩
        refine H2 (vn V 2 p) 0 S50 (by omega) (by rw [e50]; exact SF_i F1 (by decide)) (fun n k hn => by rw [e50, st_i_pi_n _ _ _ _ _ _ (by omega)]; exact f1 n k hn) (fun n k => by rw [e50]; exact f2 n k) (fun i hi => ?_) (by rw [e50, st_i_pi_n _ _ _ _ _ _ (by omega)]; exact p1)
        by_cases e : i = p
        · rw [e, e50, st_i_pi_s]; exact ey
        · rw [e50, st_i_pi_n _ _ _ _ _ _ (by omega)]; exact k1 i (by omega)
      refine ⟨fun e => absurd e (nI_ge (show p < 6 by omega) (by decide)), fun _ => ⟨(gS_16 C1.2.2.1).2, fun e => ⟨8 + pl, rfl, _, L.2.1, vp_in_nI (show p < 6 by omega) (by decide), T _ ?_⟩, fun e => T _ ?_⟩⟩
      · unfold cnI
        rw [if_neg (by rw [e]; decide)]
        exact (L.2.2.2.2.2 p (by omega)).1
      · unfold cnI
        rw [if_pos (by cases h2 : bt x p; exact absurd h2 e; rfl)]
  exact H 6 0 S59 rfl (by rw [e59]; exact SF_i (SF_r S) (by decide)) (fun n k hn => by rw [e59, st_i_pi_n _ _ _ _ _ _ (by omega)]) (fun n k => by rw [e59]; rfl) (fun i hi => absurd hi (Nat.not_lt_zero _)) (by rw [e59, st_i_pi_s]; rfl)
theorem c_prep {S : xm_S} {V W : VV} {N pl : Nat} {x : Int32} {g : xm_S → Prop} (R : RR S V W N) (I : Iv V) (hl : pl < 3) (h : ∀ S', RR S' V W N → SF S S' → STD S' V pl (bt x) → g S') : wp_X11_prepareSolver 1 (nI pl) x S g := by
  have c1 := R.1.2.2.1
  have s16 := gS_16 c1
  unfold wp_X11_prepareSolver
  refine ⟨c1.1, 16, s16.1, s16.2, ?_⟩
  rw [(gS_4 c1).1, (gS_5 c1).1, R.1.2.2.2.1.1]
  refine c_study R.1 I fun S5 F5 T5 W5 N5 E5 => ?_
  have R5 := SF_RR F5 R I
  have d1 := R5.1.2.2.1
  have s7 := gS_7 d1
  refine ⟨d1.1, 7, s7.1, _, s7.2.1, vp_in_nI (show pl < 3 by omega) (by decide), 16, (gS_16 d1).1, (gS_16 d1).2, ?_⟩
  rw [R5.1.2.2.2.1.2.1, nI_clamp (show pl < 2 ^ 31 by omega), (CR_gL R5.1 pl hl).1]
  refine c_permit R5.1 I hl T5.1 fun S6 F6 f1 f2 k6 p6 => ?_
  refine h S6 (SF_RR F6 R5 I) (SF_t F5 F6) ⟨⟨(f2 _ _).trans T5.1, (f2 _ _).trans T5.2.1, (f1 _ _ (by omega)).trans T5.2.2.1, (f1 _ _ (by omega)).trans T5.2.2.2⟩, STw_k R5.1 (Nat.le_refl _) W5 (fun n k _ => f2 n k) (fun n k hn => f1 n k (by omega)), STn_k N5 (fun n k hn => f1 n k (by omega)), fun i hi k => by rw [f1 _ _ (by omega)]; exact E5 i hi k, k6, p6⟩
/-- the search's own cells -/
def fSk (n k : Nat) : Bool := (n == 16 && decide (7 ≤ k)) || decide (19 ≤ n ∧ n ≤ 21)
theorem fSk_f {n k : Nat} (h : ¬ (n = 16 ∧ 7 ≤ k) ∧ ¬ (19 ≤ n ∧ n ≤ 21)) : fSk n k = false := by
  unfold fSk
  rw [decide_eq_false h.2, Bool.or_false]
  by_cases e : n = 16
  · rw [decide_eq_false (fun hh => h.1 ⟨e, hh⟩), Bool.and_false]
  · rw [beq_eq_false_iff_ne.mpr e]; rfl
theorem fSk_16 {k : Nat} (h : 7 ≤ k) : fSk 16 k = true := by unfold fSk; rw [decide_eq_true h]; rfl
theorem fSk_x {n k : Nat} (h : 19 ≤ n ∧ n ≤ 21) : fSk n k = true := by unfold fSk; rw [decide_eq_true h, Bool.or_true]
theorem SF_k {S S' : xm_S} (F : xf_F fSk S S') : SF S S' := ⟨F.1, fun n k _ => F.2.1 n k, F.2.2.1, fun n k e _ => F.2.2.2 n k (fSk_f (by omega))⟩
theorem STD_k {S S' : xm_S} {V : VV} {N pl : Nat} {ul : Nat → Bool} (C : CR S V N) (F : xf_F fSk S S') (T : STD S V pl ul) : STD S' V pl ul := by
  obtain ⟨t1, t2, t3, t4, t5, t6⟩ := T
  refine ⟨⟨(F.2.1 _ _).trans t1.1, (F.2.1 _ _).trans t1.2.1, (F.2.2.2 _ _ (fSk_f (by omega))).trans t1.2.2.1, (F.2.2.2 _ _ (fSk_f (by omega))).trans t1.2.2.2⟩, STw_k C (Nat.le_refl _) t2 (fun n k _ => F.2.1 n k) (fun n k hn => F.2.2.2 _ _ (fSk_f (by omega))), STn_k t3 (fun n k hn => F.2.2.2 _ _ (fSk_f (by omega))), fun i hi k => by rw [F.2.2.2 _ _ (fSk_f (by omega))]; exact t4 i hi k, fun p hp => (F.2.2.2 _ _ (fSk_f (by omega))).trans (t5 p hp), (F.2.2.2 _ _ (fSk_f (by omega))).trans t6⟩
