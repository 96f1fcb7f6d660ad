-- the reference: the folds
noncomputable def fcd (V : VV) (pl : Nat) (ul : Nat → Bool) (ask : Int32) (goal k : Nat) : SS := fl (fun code s => if dOK V 6 0 code then leaf V pl ul ask goal (cOf V 6 0 (fun _ => 0) code) s else s) k (0, 0, 0, fun _ => 0)
theorem fcd_e {V : VV} {pl goal : Nat} {ul : Nat → Bool} {ask : Int32} (I : Iv V) : fcd V pl ul ask goal 15625 = skF V pl ul ask goal := gF_code I 6 0 _ _ rfl
theorem fcd_s {V : VV} {pl goal k : Nat} {ul : Nat → Bool} {ask : Int32} : fcd V pl ul ask goal (k + 1) = if dOK V 6 0 k then leaf V pl ul ask goal (cOf V 6 0 (fun _ => 0) k) (fcd V pl ul ask goal k) else fcd V pl ul ask goal k := rfl
theorem cOf_ok {V : VV} {code : Nat} (I : Iv V) (hc : code < 15625) (h : dOK V 6 0 code = true) : okc V (cOf V 6 0 (fun _ => 0) code) := fun p hp => by
  rw [cOf_p hc hp]
  exact dgt_b (I.1.1 p hp).2.2 ((dOK_p hc).mp h p hp)
theorem fcd_b {V : VV} {pl goal : Nat} {ul : Nat → Bool} {ask : Int32} : ∀ k, (fcd V pl ul ask goal k).1 ≤ k ∧ (fcd V pl ul ask goal k).2.1 ≤ 6 ∧ (fcd V pl ul ask goal k).2.2.1 ≤ 6 := by
  intro k
  induction k with
  | zero => exact ⟨Nat.le_refl _, Nat.zero_le _, Nat.zero_le _⟩
  | succ k ih =>
    rw [fcd_s]
    split
    · have := chN_b (V := V) (pl := pl) (ul := ul) (c := cOf V 6 0 (fun _ => 0) k) 6
      unfold leaf
      split
      · exact ⟨by omega, ih.2⟩
      · split
        · exact ⟨by dsimp only; omega, this⟩
        · exact ⟨by omega, ih.2⟩
    · exact ⟨by omega, ih.2⟩
theorem fcd_o {V : VV} {pl goal : Nat} {ul : Nat → Bool} {ask : Int32} (I : Iv V) : ∀ k, k ≤ 15625 → (fcd V pl ul ask goal k).1 ≠ 0 → okc V (fcd V pl ul ask goal k).2.2.2 := by
  intro k
  induction k with
  | zero => intro _ h; exact absurd rfl h
  | succ k ih =>
    intro hk
    rw [fcd_s]
    split
    next ok =>
      unfold leaf
      split
      · exact ih (by omega)
      · split
        · intro _; exact cOf_ok I (by omega) ok
        · exact ih (by omega)
    next => exact ih (by omega)
theorem sk_b {V : VV} {pl goal : Nat} {ul : Nat → Bool} {ask : Int32} (I : Iv V) : (skF V pl ul ask goal).1 ≤ 15625 ∧ (skF V pl ul ask goal).2.1 ≤ 6 ∧ (skF V pl ul ask goal).2.2.1 ≤ 6 ∧ ((skF V pl ul ask goal).1 ≠ 0 → okc V (skF V pl ul ask goal).2.2.2) := by
  have b := fcd_b (V := V) (pl := pl) (goal := goal) (ul := ul) (ask := ask) 15625
  have o := fcd_o (pl := pl) (goal := goal) (ul := ul) (ask := ask) I 15625 (Nat.le_refl _)
  rw [fcd_e I] at b o
  exact ⟨b.1, b.2.1, b.2.2, o⟩
theorem m_solves {S : xm_S} {W : VV} {pl : Nat} {but : Int32} {g : Int32 → xm_S → Prop} (M : MR S W) (I : Iv W) (hl : pl < 3) (hb : but ≠ -2) (h : ∀ S', MF S S' → ((skF W pl (ulB but) (nI 15) 2).1 ≠ 0 → ∀ p, p < 6 → st_i S' 1036 p = cv ((skF W pl (ulB but) (nI 15) 2).2.2.2 p)) → g (if (skF W pl (ulB but) (nI 15) 2).1 = 0 then -1 else nI (10 * (skF W pl (ulB but) (nI 15) 2).2.1 + (skF W pl (ulB but) (nI 15) 2).2.2.1)) S') : wp_X12_solves 1000 (nI pl) but S g := by
  unfold wp_X12_solves
  refine ⟨M.1.1, m_laysRanges M I fun S33 F33 L33 => ?_⟩
  have M33 := MF_MR F33 M
  unfold wp_X12_solves_9
  intro Z hZ
  have H : ∀ d k S1, k + d = 15625 → MC S33 S1 → ((fcd W pl (ulB but) (nI 15) 2 k).1 ≠ 0 → ∀ p, p < 6 → st_i S1 1036 p = cv ((fcd W pl (ulB but) (nI 15) 2 k).2.2.2 p)) → Z (nI pl) but (if (fcd W pl (ulB but) (nI 15) 2 k).1 = 0 then -1 else nI (10 * (fcd W pl (ulB but) (nI 15) 2 k).2.1 + (fcd W pl (ulB but) (nI 15) 2 k).2.2.1)) (nI k) S1 := by
    intro d
    induction d with
    | zero =>
      intro k S1 hk X1 b1
      refine hZ _ _ _ _ _ ?_
      unfold wp_X12_solves_9B
      rw [show k = 15625 by omega, fcd_e I] at b1 ⊢
      exact ⟨fun _ => h S1 (MF_t F33 X1.1) b1, fun e => absurd (nI_le (Nat.le_refl 15625) (by decide)) e⟩
    | succ d ih =>
      intro k S1 hk X1 b1
      have ih := fun S' => ih (k + 1) S' (by omega)
      rw [fcd_s] at ih
      have M1 := MF_MR X1.1 M33
      have bd := fcd_b (V := W) (pl := pl) (goal := 2) (ul := ulB but) (ask := nI 15) k
      generalize fcd W pl (ulB but) (nI 15) 2 k = st at b1 ih bd ⊢
      refine hZ _ _ _ _ _ ?_
      unfold wp_X12_solves_9B
      refine ⟨fun e => absurd e (nI_ge (show k < 15625 by omega) (by decide)), fun _ => ⟨M1.1.1, m_chooses M1 I (MC_L X1 L33) (by omega) fun S22 X22 b22 k22 => ⟨(MF_MR X22.1 M1).1.1, m_changes (MF_MR X22.1 M1) hl ⟨(MF_MR X22.1 M1).1.1, m_many (MF_MR X22.1 M1) fun y30 e30 => ?_⟩⟩⟩⟩
      have X2 := MC_t X1 X22
      have M2 := MF_MR X2.1 M33
      have L2 := MC_L X2 L33
      have b2 : st.1 ≠ 0 → ∀ p, p < 6 → st_i S22 1036 p = cv (st.2.2.2 p) := fun h0 p hp => (b22 p).trans (b1 h0 p hp)
      have next : ∀ S3 s', MC S33 S3 → s' = (if dOK W 6 0 k then leaf W pl (ulB but) (nI 15) 2 (cOf W 6 0 (fun _ => 0) k) st else st) → (s'.1 ≠ 0 → ∀ p, p < 6 → st_i S3 1036 p = cv (s'.2.2.2 p)) → wp_X12_solves_101 1000 (nI pl) but (if s'.1 = 0 then -1 else nI (10 * s'.2.1 + s'.2.2.1)) (nI k) S3 g Z := fun S3 s' X3 es b3 => by
        unfold wp_X12_solves_101
        intro y1 e1
        rw [e1, nI_1]
        rw [es] at b3 ⊢
        exact ih S3 X3 b3
      rw [pk_mul, nI_add] at e30
      subst e30
      refine bI_c (fun ok => ?_) (fun no => next S22 st X2 (by rw [if_neg (by rw [no]; decide)]) b2)
      have o := cOf_ok I (show k < 15625 by omega) ok
      have ch := k22 ok
      rw [chM_c hb ch 6 (Nat.le_refl _), szM_c I o ch 6 (Nat.le_refl _)]
      have cb := chN_b (V := W) (pl := pl) (ul := ulB but) (c := cOf W 6 0 (fun _ => 0) k) 6
      have eL : leaf W pl (ulB but) (nI 15) 2 (cOf W 6 0 (fun _ => 0) k) st = if sett 2 st (chN W pl (ulB but) (cOf W 6 0 (fun _ => 0) k) 6) (szN (cOf W 6 0 (fun _ => 0) k) 6) then st else if cloB W pl (ulB but) (nI 15) (cOf W 6 0 (fun _ => 0) k) then (st.1 + 1, chN W pl (ulB but) (cOf W 6 0 (fun _ => 0) k) 6, szN (cOf W 6 0 (fun _ => 0) k) 6, cOf W 6 0 (fun _ => 0) k) else st := rfl
      generalize cOf W 6 0 (fun _ => 0) k = c at o ch eL cb ih next ⊢
      have es : sett 2 st (chN W pl (ulB but) c 6) (szN c 6) = true ↔ st.1 ≠ 0 ∧ 10 * st.2.1 + st.2.2.1 ≤ 10 * chN W pl (ulB but) c 6 + szN c 6 := by
        unfold sett
        simp only [Bool.and_eq_true, Bool.or_eq_true, decide_eq_true_eq]
        constructor
        · intro ⟨h1, _, h3⟩
          refine ⟨h1, ?_⟩
          rcases h3 with h3 | h3 | h3
          · omega
          · omega
          · omega
        · intro ⟨h1, h2⟩
          refine ⟨h1, by decide, .inr ?_⟩
          by_cases q : st.2.1 < chN W pl (ulB but) c 6
          · exact .inl q
          · exact .inr ⟨by omega, by omega⟩
      -- the closure is asked for
      have A : ∀ x, x = (if st.1 = 0 then -1 else nI (10 * st.2.1 + st.2.2.1)) → sett 2 st (chN W pl (ulB but) c 6) (szN c 6) = false → wp_X12_solves_57 1000 (nI pl) but x (nI k) (nI (10 * chN W pl (ulB but) c 6 + szN c 6)) S22 g Z := fun x ex ns => by
        rw [if_neg (by rw [ns]; decide)] at eL
        unfold wp_X12_solves_57
        refine ⟨M2.1.1, m_isClosure M2 I o hl L2 ch fun S19 X19 => ?_⟩
        have X3 := MC_t X2 (MO_C X19)
        have M3 := MF_MR X3.1 M33
        refine bI_c (fun b1' => ?_) (fun b0 => ?_)
        · rw [if_pos b1'] at eL
          unfold wp_X12_solves_74
          intro Z2 hZ2
          have H2 : ∀ d2 p S4, p + d2 = 6 → MC S33 S4 → (∀ n j, n ≠ 1036 → st_i S4 n j = st_i S19 n j) → (∀ j, j < p → st_i S4 1036 j = cv (c j)) → Z2 (nI pl) but (nI (10 * chN W pl (ulB but) c 6 + szN c 6)) (nI k) (nI p) S4 := by
            intro d2
            induction d2 with
            | zero =>
              intro p S4 hp X4 f4 k4
              refine hZ2 _ _ _ _ _ _ ?_
              unfold wp_X12_solves_74B
              rw [show p = 6 by omega] at k4 ⊢
              refine ⟨fun _ => ?_, fun e => absurd (nI_le (Nat.le_refl 6) (by decide)) e⟩
              have n := next S4 (st.1 + 1, chN W pl (ulB but) c 6, szN c 6, c) X4 (by rw [if_pos ok]; exact eL.symm) (fun _ => k4)
              rw [if_neg (Nat.succ_ne_zero _)] at n
              exact n
            | succ d2 ih2 =>
              intro p S4 hp X4 f4 k4
              have M4 := MF_MR X4.1 M33
              refine hZ2 _ _ _ _ _ _ ?_
              unfold wp_X12_solves_74B
              rw [nI_clamp (show p < 2 ^ 31 by omega)]
              refine ⟨fun e => absurd e (nI_ge (show p < 6 by omega) (by decide)), fun _ => ⟨M4.1.1, _, MS_r M4.1 33, _, MS_t M4.1 33, vp_in_nI (show p < 6 by omega) (by decide), _, MS_r M4.1 35, _, MS_t M4.1 35, vp_in_nI (show p < 6 by omega) (by decide), fun S14 e14 y ey => ?_⟩⟩
              have e34 : st_i S4 1034 p = cv (c p) := (f4 _ _ (by decide)).trans ((X19.2.1 _ _ (by decide)).trans (ch p (by omega)))
              have e14 : S14 = st_pi S4 1036 p (st_i S4 1034 p) := e14
              rw [e34] at e14
              rw [ey, nI_1]
              refine ih2 (p + 1) S14 (by omega) (by rw [e14]; exact MC_i X4 (.inr rfl)) (fun n j hn => by rw [e14, st_i_pi_n _ _ _ _ _ _ (by omega)]; exact f4 n j hn) fun j hj => ?_
              by_cases e : j = p
              · rw [e, e14, st_i_pi_s]
              · rw [e14, st_i_pi_n _ _ _ _ _ _ (by omega)]; exact k4 j (by omega)
          exact H2 6 0 S19 rfl X3 (fun _ _ _ => rfl) (fun j hj => absurd hj (Nat.not_lt_zero _))
        · rw [if_neg (by rw [b0]; decide)] at eL
          rw [ex]
          exact next S19 st X3 (by rw [if_pos ok]; exact eL.symm) (fun h0 p hp => (X19.2.1 _ _ (by decide)).trans (b2 h0 p hp))
      by_cases f0 : st.1 = 0
      · have ns : sett 2 st (chN W pl (ulB but) c 6) (szN c 6) = false := by
          cases e : sett 2 st (chN W pl (ulB but) c 6) (szN c 6)
          · rfl
          · exact absurd f0 (es.mp e).1
        refine ⟨fun _ => A _ rfl ns, fun e => ?_⟩
        rw [if_pos f0] at e
        exact absurd rfl e
      · refine ⟨fun e => ?_, fun _ => ⟨fun q => next S22 st X2 ?_ b2, fun q => A _ rfl ?_⟩⟩
        · rw [if_neg f0] at e
          exact absurd e (nI_m1 (by omega))
        · rw [if_neg f0, nI_leI (by omega) (by omega)] at q
          rw [if_pos ok, eL, if_pos (es.mpr ⟨f0, q⟩)]
        · rw [if_neg f0, nI_leI (by omega) (by omega)] at q
          cases e : sett 2 st (chN W pl (ulB but) c 6) (szN c 6)
          · rfl
          · exact absurd (es.mp e).2 q
  exact H 15625 0 S33 rfl (MC_r S33) (fun e => absurd rfl e)
theorem leaf_1 {V : VV} {pl : Nat} {ul : Nat → Bool} {ask : Int32} {c : CH} {st : SS} : (leaf V pl ul ask 1 c st).1 = st.1 + (if cloB V pl ul ask c then 1 else 0) := by
  unfold leaf sett
  rw [decide_eq_false (p := (1 : Nat) ≠ 1) (fun hh => hh rfl), Bool.false_and, Bool.and_false, if_neg (by decide)]
  split <;> rfl
theorem m_closures29 {S : xm_S} {W : VV} {pl : Nat} {g : Int32 → xm_S → Prop} (M : MR S W) (I : Iv W) (hl : pl < 3) (L : LRs S W) (h : ∀ S', MF S S' → g (nI (skF W pl (ulB (-1)) (nI 15) 1).1) S') : wp_X12_closures_29 1000 (nI pl) (0 : Int32) (0 : Int32) S g := by
  unfold wp_X12_closures_29
  intro Z hZ
  have H : ∀ d k S1, k + d = 15625 → MC S S1 → Z (nI pl) (nI (fcd W pl (ulB (-1)) (nI 15) 1 k).1) (nI k) S1 := by
    intro d
    induction d with
    | zero =>
      intro k S1 hk X1
      refine hZ _ _ _ _ ?_
      unfold wp_X12_closures_29B
      rw [show k = 15625 by omega, fcd_e I]
      exact ⟨fun _ => h S1 X1.1, fun e => absurd (nI_le (Nat.le_refl 15625) (by decide)) e⟩
    | succ d ih =>
      intro k S1 hk X1
      have ih := fun S' => ih (k + 1) S' (by omega)
      rw [fcd_s] at ih
      have M1 := MF_MR X1.1 M
      refine hZ _ _ _ _ ?_
      unfold wp_X12_closures_29B wp_X12_closures_60 wp_X12_closures_61
      refine ⟨fun e => absurd e (nI_ge (show k < 15625 by omega) (by decide)), fun _ => ⟨M1.1.1, m_chooses M1 I (MC_L X1 L) (by omega) fun S6 X6 _ k6 => ?_⟩⟩
      have X2 := MC_t X1 X6
      have M2 := MF_MR X2.1 M
      refine bI_c (fun ok => ⟨M2.1.1, m_isClosure M2 I (cOf_ok I (show k < 15625 by omega) ok) hl (MC_L X2 L) (k6 ok) fun S9 X9 => ?_⟩) (fun no y1 e1 y3 e3 => ?_)
      · have X3 := MC_t X2 (MO_C X9)
        have ih := ih S9 X3
        rw [if_pos ok, leaf_1] at ih
        refine bI_c (fun b y1 e1 y3 e3 => ?_) (fun b y1 e1 y3 e3 => ?_)
        · rw [if_pos b] at ih
          rw [e1, e3, nI_1, nI_1]; exact ih
        · rw [if_neg (by rw [b]; decide)] at ih
          rw [e1, e3, nI_1, Int32.add_zero]; exact ih
      · have ih := ih S6 X2
        rw [if_neg (by rw [no]; decide)] at ih
        rw [e1, e3, nI_1, Int32.add_zero]; exact ih
  exact H 15625 0 S rfl (MC_r S)
theorem leaf_0 {V : VV} {pl : Nat} {ul : Nat → Bool} {ask : Int32} {c : CH} {st : SS} : ((leaf V pl ul ask 0 c st).1 = 0 ↔ st.1 = 0 ∧ cloB V pl ul ask c = false) := by
  unfold leaf sett
  rw [decide_eq_true (p := (0 : Nat) ≠ 1) (by decide), decide_eq_true (rfl : (0 : Nat) = 0), Bool.true_or, Bool.true_and, Bool.and_true]
  by_cases e : st.1 = 0
  · rw [decide_eq_false (p := st.1 ≠ 0) (fun hh => hh e), if_neg (by decide)]
    cases hc : cloB V pl ul ask c
    · exact ⟨fun _ => ⟨e, rfl⟩, fun _ => e⟩
    · exact ⟨fun hh => absurd hh (Nat.succ_ne_zero _), fun hh => by cases hh.2⟩
  · rw [decide_eq_true (p := st.1 ≠ 0) e, if_pos rfl]
    exact ⟨fun hh => absurd hh e, fun hh => hh.1⟩
theorem fcd_0 {V : VV} {pl k : Nat} {ul : Nat → Bool} {ask : Int32} (h : (fcd V pl ul ask 0 k).1 ≠ 0) : ∀ d, (fcd V pl ul ask 0 (k + d)).1 ≠ 0 := by
  intro d
  induction d with
  | zero => exact h
  | succ d ih =>
    rw [show k + (d + 1) = k + d + 1 from rfl, fcd_s]
    split
    · exact fun e => ih (leaf_0.mp e).1
    · exact ih
theorem m_hasClosure {S : xm_S} {W : VV} {pl : Nat} {ask : Int32} {g : Int32 → xm_S → Prop} (M : MR S W) (I : Iv W) (hl : pl < 3) (L : LRs S W) (h : ∀ S', MC S S' → g (bI (decide ((skF W pl (ulB (-2)) ask 0).1 ≠ 0))) S') : wp_X12_hasClosure 1000 (nI pl) ask S g := by
  unfold wp_X12_hasClosure wp_X12_hasClosure_2
  intro Z hZ
  have H : ∀ d k S1, k + d = 15625 → MC S S1 → (fcd W pl (ulB (-2)) ask 0 k).1 = 0 → Z (nI pl) ask (nI k) S1 := by
    intro d
    induction d with
    | zero =>
      intro k S1 hk X1 z
      refine hZ _ _ _ _ ?_
      unfold wp_X12_hasClosure_2B
      rw [show k = 15625 by omega] at z ⊢
      rw [fcd_e I] at z
      refine ⟨fun _ => ?_, fun e => absurd (nI_le (Nat.le_refl 15625) (by decide)) e⟩
      have q := h S1 X1
      rw [decide_eq_false (fun hh => hh z)] at q
      exact q
    | succ d ih =>
      intro k S1 hk X1 z
      have ih := fun S' => ih (k + 1) S' (by omega)
      have eS := fcd_s (V := W) (pl := pl) (goal := 0) (k := k) (ul := ulB (-2)) (ask := ask)
      have M1 := MF_MR X1.1 M
      refine hZ _ _ _ _ ?_
      unfold wp_X12_hasClosure_2B wp_X12_hasClosure_30
      refine ⟨fun e => absurd e (nI_ge (show k < 15625 by omega) (by decide)), fun _ => ⟨M1.1.1, m_chooses M1 I (MC_L X1 L) (by omega) fun S4 X4 _ k4 => ?_⟩⟩
      have X2 := MC_t X1 X4
      have M2 := MF_MR X2.1 M
      refine bI_c (fun ok => ⟨M2.1.1, m_isClosure M2 I (cOf_ok I (show k < 15625 by omega) ok) hl (MC_L X2 L) (k4 ok) fun S7 X7 => ?_⟩) (fun no y1 e1 => ?_)
      · have X3 := MC_t X2 (MO_C X7)
        rw [if_pos ok] at eS
        refine bI_c (fun b => ?_) (fun b y1 e1 => ?_)
        · have nz : (fcd W pl (ulB (-2)) ask 0 (k + 1)).1 ≠ 0 := fun hh => by
            rw [eS, leaf_0, b] at hh; cases hh.2
          have nz2 := fcd_0 nz d
          rw [show k + 1 + d = 15625 by omega, fcd_e I] at nz2
          have q := h S7 X3
          rw [decide_eq_true nz2] at q
          exact q
        · rw [e1, nI_1]
          exact ih S7 X3 (by rw [eS, leaf_0]; exact ⟨z, b⟩)
      · rw [if_neg (by rw [no]; decide)] at eS
        rw [e1, nI_1]
        exact ih S4 X2 (by rw [eS]; exact z)
  exact H 15625 0 S rfl (MC_r S) rfl
