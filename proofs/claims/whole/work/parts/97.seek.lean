-- seek; is the lock a closure
noncomputable def skF (V : VV) (pl : Nat) (ul : Nat → Bool) (ask : Int32) (goal : Nat) : SS := gF V (leaf V pl ul ask goal) 6 0 (fun _ => 0) (0, 0, 0, fun _ => 0)
theorem c_seek {S : xm_S} {V : VV} {N pl goal : Nat} {ul : Nat → Bool} {ask : Int32} {g : Int32 → xm_S → Prop} (C : CR S V N) (I : Iv V) (hl : pl < 3) (hg : goal ≤ 2) (T : STD S V pl ul) (h : ∀ S', xf_F fSk S S' → SRe S' (skF V pl ul ask goal) → g (nI (skF V pl ul ask goal).1) S') : wp_X7_seek 16 ask (nI goal) S g := by
  have s16 := (gS_16 C.2.2.1).2
  have o5 := C.2.2.2.2.1
  unfold wp_X7_seek
  refine ⟨s16, fun S30 e30 S32 e32 S34 e34 S36 e36 => ?_⟩
  have F36 : xf_F fSk S S36 := by rw [e36, e34, e32, e30]; exact xf_pi (xf_pi (xf_pi (xf_pi (xf_rfl _ _) rfl) rfl) rfl) rfl
  have a7 : st_i S36 16 7 = ask := by rw [e36, st_i_pi_n _ _ _ _ _ _ (by omega), e34, st_i_pi_n _ _ _ _ _ _ (by omega), e32, st_i_pi_n _ _ _ _ _ _ (by omega), e30, st_i_pi_s]
  have a8 : st_i S36 16 8 = nI goal := by rw [e36, st_i_pi_n _ _ _ _ _ _ (by omega), e34, st_i_pi_n _ _ _ _ _ _ (by omega), e32, st_i_pi_s]
  have a14 : st_i S36 16 14 = 0 := by rw [e36, st_i_pi_n _ _ _ _ _ _ (by omega), e34, st_i_pi_s]
  have a11 : st_i S36 16 11 = 0 := by rw [e36, st_i_pi_s]
  refine c_within7 (SF_CR (SF_k F36) C I) I (STD_k C F36 T) a7 ⟨(F36.1 _).trans s16, 19, (F36.2.1 _ _).trans o5.2.2.2.2.1, _, (F36.1 _).trans o5.2.2.2.2.2.1, vp_in_nI (show 6 < 7 by decide) (by decide), fun S46 e46 => ?_⟩
  unfold wp_X7_seek_36
  intro Z hZ
  have H : ∀ k S1, k ≤ 6 → xf_F fSk S S1 → (∀ n j, n ≠ 19 → n ≠ 20 → st_i S1 n j = st_i S36 n j) → (∀ j, k ≤ j → j < 6 → st_i S1 20 j = -1) → (∀ j, k ≤ j → j ≤ 6 → ∀ i, bt (st_i S1 19 j) i = (bt (wrF V pl ask (pmI V pl ul)) i && decide (j ≤ i / 4))) → Z (wrF V pl ask (pmI V pl ul)) (dn k) S1 := by
    intro k
    induction k with
    | zero =>
      intro S1 _ F1 f1 k1 k2
      have C1 := SF_CR (SF_k F1) C I
      refine hZ _ _ _ ?_
      unfold wp_X7_seek_36B
      have B : SB S1 V N pl ul ask goal := ⟨C1, STD_k C F1 T, (f1 _ _ (by decide) (by decide)).trans a7, (f1 _ _ (by decide) (by decide)).trans a8, fun j hj => k2 j (Nat.zero_le _) hj⟩
      have z : chB (fun _ => 0) = 0 := by decide +kernel
      have X : SN S1 S1 (fun _ => 0) (0, 0, 0, fun _ => 0) := ⟨xf_rfl _ _, fun p hp => k1 p (Nat.zero_le _) hp, ((f1 _ _ (by decide) (by decide)).trans a11).trans z.symm, (f1 _ _ (by decide) (by decide)).trans a14, fun e => absurd rfl e, Nat.zero_le _, Nat.zero_le _⟩
      refine ⟨fun _ => ⟨(gS_16 C1.2.2.1).2, c_search I hl hg B 6 0 (fun _ => 0) S1 _ _ rfl (fun p hp => Nat.zero_le _) (fun _ _ => rfl) ⟨fun p hp e => absurd rfl e, fun p p' _ _ _ e => absurd rfl e⟩ X (by decide) fun S2 X2 => ?_⟩, fun e => absurd dn_0 e⟩
      have F2 := xf_tr F1 (fSx_k X2.1)
      refine ⟨(F2.1 _).trans s16, ?_⟩
      rw [X2.2.2.2.1]
      exact h S2 F2 X2.2.2.2
    | succ k ih =>
      intro S1 hk F1 f1 k1 k2
      have ih := fun S' => ih S' (by omega)
      refine hZ _ _ _ ?_
      unfold wp_X7_seek_36B wp_X7_bitsOf
      rw [dn_s, nI_clamp (show k < 2 ^ 31 by omega), nI_1, nI_clamp (show k + 1 < 2 ^ 31 by omega), pk_mul, show k * 4 = 4 * k by omega]
      refine ⟨fun e => absurd e (dn_n (by omega)), fun _ => ⟨(F1.1 _).trans s16, 20, (F1.2.1 _ _).trans o5.2.2.2.2.2.2.1, _, (F1.1 _).trans o5.2.2.2.2.2.2.2.1, vp_in_nI (show k < 6 by omega) (by decide), fun S11 e11 => ⟨19, by rw [e11]; exact (F1.2.1 _ _).trans o5.2.2.2.2.1, _, by rw [e11]; exact (F1.1 _).trans o5.2.2.2.2.2.1, vp_in_nI (show k + 1 < 7 by omega) (by decide), 19, by rw [e11]; exact (F1.2.1 _ _).trans o5.2.2.2.2.1, _, by rw [e11]; exact (F1.1 _).trans o5.2.2.2.2.2.1, vp_in_nI (show k < 7 by omega) (by decide), fun S25 e25 y ey => ?_⟩⟩⟩
      rw [ey, dn_a]
      refine ih S25 (by rw [e25, e11]; exact xf_pi (xf_pi F1 rfl) rfl) (fun n j h1 h2 => by rw [e25, st_i_pi_n _ _ _ _ _ _ (by omega), e11, st_i_pi_n _ _ _ _ _ _ (by omega)]; exact f1 n j h1 h2) (fun j h1 h2 => ?_) (fun j h1 h2 i => ?_)
      · rw [e25, st_i_pi_n _ _ _ _ _ _ (by omega), e11]
        by_cases e : j = k
        · rw [e, st_i_pi_s]
        · rw [st_i_pi_n _ _ _ _ _ _ (by omega)]; exact k1 j (by omega) h2
      · by_cases e : j = k
        · rw [e, e25, st_i_pi_s, e11, st_i_pi_n _ _ _ _ _ _ (by omega), bt_or, k2 (k + 1) (by omega) (by omega), bt_and, bt_bits (by omega)]
          cases bt (wrF V pl ask (pmI V pl ul)) i
          · rfl
          · rw [Bool.true_and, Bool.true_and, Bool.true_and]
            by_cases e1 : k + 1 ≤ i / 4
            · rw [decide_eq_true e1, decide_eq_true (show k ≤ i / 4 by omega)]; rfl
            · rw [decide_eq_false e1]
              by_cases e2 : i / 4 = k
              · rw [decide_eq_true e2, decide_eq_true (show k ≤ i / 4 by omega)]; rfl
              · rw [decide_eq_false e2, decide_eq_false (show ¬ k ≤ i / 4 by omega)]; rfl
        · rw [e25, st_i_pi_n _ _ _ _ _ _ (by omega), e11, st_i_pi_n _ _ _ _ _ _ (by omega)]
          exact k2 j (by omega) h2 i
  refine H 6 S46 (Nat.le_refl _) (by rw [e46]; exact xf_pi F36 rfl) (fun n j h1 _ => by rw [e46, st_i_pi_n _ _ _ _ _ _ (by omega)]) (fun j h1 h2 => by omega) (fun j h1 h2 i => ?_)
  rw [show j = 6 by omega, e46]
  rw [show st_i (st_pi S36 19 ((nI 6)).toNatClampNeg (0 : Int32)) 19 6 = 0 from st_i_pi_s _ _ _ _, bt_0]
  cases e : bt (wrF V pl ask (pmI V pl ul)) i
  · rfl
  · have := (pm_24 (bt_pm.symm.trans (wr_pm _ e))).1
    rw [decide_eq_false (show ¬ 6 ≤ i / 4 by omega)]; rfl
/-- the lock as a choice -/
def lkC (V : VV) (pl : Nat) : CH := fun p => if V 29 (6 * pl + p) = -1 then 0 else vn V 29 (6 * pl + p) + 1
theorem lkC_x {V : VV} {pl : Nat} (I : Iv V) (hl : pl < 3) : okc V (lkC V pl) ∧ ∀ p, p < 6 → V 29 (6 * pl + p) = cv (lkC V pl p) := by
  refine ⟨fun p hp => ?_, fun p hp => ?_⟩
  · unfold lkC
    split
    · exact Nat.zero_le _
    next e => have := (lk_pk I hl hp e).2.1; omega
  · unfold lkC cv
    by_cases e : V 29 (6 * pl + p) = -1
    · rw [if_pos e, if_pos rfl]; exact e
    · rw [if_neg e, if_neg (by omega)]
      exact (lk_pk I hl hp e).1
/-- of a choice the packages below p -/
def cut (c : CH) (p : Nat) : CH := fun j => if j < p then c j else 0
theorem cut_s {c : CH} {p : Nat} : cut c (p + 1) = ud (cut c p) p (c p) := by
  funext j
  show (if j < p + 1 then c j else 0) = if j = p then c p else if j < p then c j else 0
  by_cases e : j = p
  · rw [if_pos e, if_pos (by omega), e]
  · rw [if_neg e]
    by_cases e2 : j < p
    · rw [if_pos e2, if_pos (by omega)]
    · rw [if_neg e2, if_neg (by omega)]
theorem chB_c {c c' : CH} (h : ∀ p, p < 6 → c p = c' p) : chB c = chB c' := by
  refine bt_ext fun i hi => ?_
  unfold chB
  rw [bt_ob 24 (by decide), bt_ob 24 (by decide)]
  by_cases e : i < 24
  · rw [h (i / 4) (by omega)]
  · rw [decide_eq_false e]; rfl
theorem c_isClosure {S : xm_S} {V : VV} {N pl : Nat} {ul : Nat → Bool} {ask : Int32} {g : Int32 → xm_S → Prop} (C : CR S V N) (I : Iv V) (hl : pl < 3) (T : STD S V pl ul) (h : ∀ S', xf_F fSk S S' → g (bI (cloB V pl ul ask (lkC V pl))) S') : wp_X7_isClosure 16 ask (some (8 + pl)) S g := by
  have s16 := (gS_16 C.2.2.1).2
  have o5 := C.2.2.2.2.1
  obtain ⟨o, hv⟩ := lkC_x I hl
  generalize hc : lkC V pl = c at h o hv
  have L := CR_gL C pl hl
  unfold wp_X7_isClosure
  refine ⟨s16, fun S47 e47 S49 e49 => ?_⟩
  have F49 : xf_F fSk S S49 := by rw [e49, e47]; exact xf_pi (xf_pi (xf_rfl _ _) rfl) rfl
  unfold wp_X7_isClosure_15
  intro Z hZ
  have H : ∀ d p S1 (b : Bool), p + d = 6 → xf_F fSk S S1 → st_i S1 16 7 = ask → st_i S1 16 11 = chB (cut c p) → (∀ j, j < p → st_i S1 20 j = cv (c j)) → (b = true ↔ ∀ q q', q < p → q' < p → q ≠ q' → c q ≠ 0 → c q' ≠ 0 → cf V (vi c q) (vi c q') = false) → Z (some (8 + pl)) (bI b) (nI p) S1 := by
    intro d
    induction d with
    | zero =>
      intro p S1 b hp F1 a7 a11 k1 hb
      have C1 := SF_CR (SF_k F1) C I
      have T1 := STD_k C F1 T
      have p6 : p = 6 := by omega
      subst p6
      have ec : chB (cut c 6) = chB c := chB_c fun p hp => if_pos hp
      rw [ec] at a11
      refine hZ _ _ _ _ ?_
      unfold wp_X7_isClosure_15B wp_X7_isClosure_151 wp_X7_isClosure_152
      have no : ∀ S2, xf_F fSk S S2 → ¬ Clo V pl ul ask c → g 0 S2 := fun S2 F2 hn => by
        have q := h S2 F2
        rw [show cloB V pl ul ask c = false by cases e : cloB V pl ul ask c; rfl; exact absurd (cloB_t.mp e) hn] at q
        exact q
      refine ⟨fun _ => bI_c (fun b1 => ⟨(gS_16 C1.2.2.1).2, ?_⟩) (fun b0 => ⟨.inl rfl, no S1 F1 fun Cl => ?_⟩), fun e => absurd (nI_le (Nat.le_refl 6) (by decide)) e⟩
      · rw [a11, T1.2.2.2.2.2]
        have pmc : (chB c &&& (pmI V pl ul ^^^ (-1 : Int32))) = 0 ↔ ∀ p, p < 6 → c p ≠ 0 → pm V pl ul (vi c p) = true := by
          rw [bt_and_z]
          constructor
          · intro hh p hp h0
            have v24 := (vi_4 I o hp h0).2.1
            have := hh (vi c p) (by omega) ((bt_ch I o).mpr ⟨p, hp, h0, rfl⟩)
            rw [bt_not _ (by omega), bt_pm] at this
            cases e : pm V pl ul (vi c p)
            · rw [e] at this; cases this
            · rfl
          · intro hh i hi e
            obtain ⟨p, hp, h0, ei⟩ := (bt_ch I o).mp e
            rw [bt_not _ hi, bt_pm, ei, hh p hp h0]; rfl
        rw [pmc]
        refine ⟨fun np => ⟨.inl rfl, no S1 F1 fun Cl => np Cl.1⟩, fun pp => c_areMet C1 I T1 hl k1 o a7 fun S15 F15 k15 => ?_⟩
        have F2 := xf_tr F1 (fRe_k F15)
        have cl : Clo V pl ul ask c ↔ ∃ s, amF V pl (chB c) ask c 0 = some s ∧ s.1 = chB c := by
          rw [am_full I hl o]
          exact ⟨fun C => C.2.2, fun A => ⟨pp, fun q q' hq hq' => hb.mp b1 q q' hq hq', A⟩⟩
        cases ea : amF V pl (chB c) ask c 0 with
        | none =>
          exact ⟨fun _ => ⟨.inl rfl, no S15 F2 fun Cl => by obtain ⟨s, e1, _⟩ := cl.mp Cl; rw [ea] at e1; cases e1⟩, fun e => absurd rfl e⟩
        | some s =>
          refine ⟨fun e => absurd e (show ¬ bI true = 0 by decide), fun _ => ⟨(F15.1 _).trans (gS_16 C1.2.2.1).2, ?_⟩⟩
          rw [(k15 s ea).1, show st_i S15 16 11 = chB c from (F15.2.2.2 _ _ rfl).trans a11]
          refine ⟨fun ne => ⟨.inl rfl, no S15 F2 fun Cl => ?_⟩, fun e => ⟨.inr rfl, ?_⟩⟩
          · obtain ⟨s', e1, e2⟩ := cl.mp Cl
            rw [ea] at e1
            rw [← Option.some.inj e1] at e2
            exact ne e2
          · have q := h S15 F2
            rw [cloB_t.mpr (cl.mpr ⟨s, ea, e⟩)] at q
            exact q
      · have := hb.mpr fun q q' hq hq' => Cl.2.1 q q' hq hq'
        rw [b0] at this; cases this
    | succ d ih =>
      intro p S1 b hp F1 a7 a11 k1 hb
      have ih := fun S' b' => ih (p + 1) S' b' (by omega)
      have C1 := SF_CR (SF_k F1) C I
      have T1 := STD_k C F1 T
      have o1 := C1.2.2.2.2.1
      have L1 := CR_gL C1 pl hl
      have h4 := (I.1.1 p (by omega)).2.2
      have op := o p (by omega)
      have xm := cv_m (x := c p) (by omega)
      refine hZ _ _ _ _ ?_
      unfold wp_X7_isClosure_15B wp_X7_isClosure_100 wp_X7_isClosure_77
      rw [nI_clamp (show p < 2 ^ 31 by omega)]
      refine ⟨fun e => absurd e (nI_ge (show p < 6 by omega) (by decide)), fun _ => ⟨(gS_16 C1.2.2.1).2, 8 + pl, rfl, _, L1.2.1, vp_in_nI (show p < 6 by omega) (by decide), 20, o1.2.2.2.2.2.2.1, _, o1.2.2.2.2.2.2.2.1, vp_in_nI (show p < 6 by omega) (by decide), fun S29 e29 => ⟨20, by rw [e29]; exact o1.2.2.2.2.2.2.1, _, by rw [e29]; exact o1.2.2.2.2.2.2.2.1, vp_in_nI (show p < 6 by omega) (by decide), ?_⟩⟩⟩
      rw [(L1.2.2.2.2.2 p (by omega)).1, hv p (by omega)] at e29
      have F29 : xf_F fSk S S29 := by rw [e29]; exact xf_pi F1 rfl
      have C29 := SF_CR (SF_k F29) C I
      have T29 := STD_k C F29 T
      have o29 := C29.2.2.2.2.1
      have e20 : st_i S29 20 p = cv (c p) := by rw [e29, st_i_pi_s]
      have e7 : st_i S29 16 7 = ask := by rw [e29, st_i_pi_n _ _ _ _ _ _ (by omega)]; exact a7
      have e11 : st_i S29 16 11 = chB (cut c p) := by rw [e29, st_i_pi_n _ _ _ _ _ _ (by omega)]; exact a11
      have k29 : ∀ j, j < p + 1 → st_i S29 20 j = cv (c j) := fun j hj => by
        by_cases e : j = p
        · rw [e]; exact e20
        · rw [e29, st_i_pi_n _ _ _ _ _ _ (by omega)]; exact k1 j (by omega)
      rw [e20]
      refine ⟨fun e y ey => ?_, fun e => ?_⟩
      · have c0 := xm.mp e
        rw [ey, nI_1]
        refine ih S29 b F29 e7 ?_ k29 (hb.trans ⟨fun hh q q' hq hq' ne q0 q0' => ?_, fun hh q q' hq hq' => hh q q' (by omega) (by omega)⟩)
        · rw [e11, cut_s, c0, ud_0 (c := cut c p) (show cut c p p = 0 from if_neg (Nat.lt_irrefl p))]
        · refine hh q q' ?_ ?_ ne q0 q0'
          · have : q ≠ p := fun hh => q0 (by rw [hh]; exact c0)
            omega
          · have : q' ≠ p := fun hh => q0' (by rw [hh]; exact c0)
            omega
      · have c0 : c p ≠ 0 := fun hh => e (xm.mpr hh)
        obtain ⟨v1, v2, v3, v4, v5⟩ := vi_4 I o (show p < 6 by omega) c0
        have oc : okc V (cut c p) := fun j hj => by
          unfold cut
          split
          · exact o j hj
          · exact Nat.zero_le _
        obtain ⟨u1, u2, u3⟩ := chB_u I oc (show p < 6 by omega) (if_neg (Nat.lt_irrefl p)) v4
        have ev : cv (c p) = nI (c p - 1) := if_neg c0
        rw [show c p - 1 + 1 = c p by omega, ← cut_s] at u2
        rw [show 4 * p + (c p - 1) = vi c p from rfl] at u2
        -- behind the test
        have M : ∀ b', (b' = true ↔ ∀ q q', q < p + 1 → q' < p + 1 → q ≠ q' → c q ≠ 0 → c q' ≠ 0 → cf V (vi c q) (vi c q') = false) → wp_X7_isClosure_78 16 (some (8 + pl)) (nI p) (bI b') S29 g Z := fun b' hb' => by
          unfold wp_X7_isClosure_78 wp_X7_bitOf wp_X7_isClosure_100
          rw [nI_clamp (show p < 2 ^ 31 by omega)]
          refine ⟨(gS_16 C29.2.2.1).2, 20, o29.2.2.2.2.2.2.1, _, o29.2.2.2.2.2.2.2.1, vp_in_nI (show p < 6 by omega) (by decide), (gS_16 C29.2.2.1).2, fun S12 e12 y ey => ?_⟩
          rw [e20, ev, e11, pk_mul, nI_add, show p * 4 + (c p - 1) = vi c p by unfold vi; omega, u2] at e12
          rw [ey, nI_1]
          exact ih S12 b' (by rw [e12]; exact xf_pi F29 rfl) (by rw [e12, st_i_pi_n _ _ _ _ _ _ (by omega)]; exact e7) (by rw [e12, st_i_pi_s]) (fun j hj => by rw [e12, st_i_pi_n _ _ _ _ _ _ (by omega)]; exact k29 j hj) hb'
        refine bI_c (fun b1 => ⟨20, o29.2.2.2.2.2.2.1, _, o29.2.2.2.2.2.2.2.1, vp_in_nI (show p < 6 by omega) (by decide), 17, o29.1, _, o29.2.1, ?_⟩) (fun b0 => M false ⟨fun hh => (by cases hh), fun hh => ?_⟩)
        · rw [e20, ev, pk_mul, nI_add, show p * 4 + (c p - 1) = vi c p by unfold vi; omega, nI_clamp (show vi c p < 2 ^ 31 by omega), e11]
          have eb : ∀ k, bt (st_i S29 17 (vi c p)) k = (decide (k < 24) && (cf V (vi c p) k || cf V k (vi c p))) := fun k => T29.2.2.2.1 _ v2 k
          have bc : ∀ k, bt (chB (cut c p)) k = true ↔ ∃ q, q < p ∧ c q ≠ 0 ∧ k = vi c q := fun k => by
            rw [bt_ch I oc]
            constructor
            · intro ⟨q, hq, q0, ek⟩
              have qp : q < p := by
                rcases Nat.lt_or_ge q p with r | r
                · exact r
                · exact absurd (if_neg (by omega)) q0
              have cq : cut c p q = c q := if_pos qp
              exact ⟨q, qp, by rw [← cq]; exact q0, by unfold vi at ek ⊢; rw [← cq]; exact ek⟩
            · intro ⟨q, hq, q0, ek⟩
              have cq : cut c p q = c q := if_pos hq
              exact ⟨q, by omega, by rw [cq]; exact q0, by unfold vi at ek ⊢; rw [cq]; exact ek⟩
          refine ⟨vp_in_nI (show vi c p < 24 by omega) (by decide), fun ne => M false ⟨fun hh => (by cases hh), fun hh => ?_⟩, fun ez => M true ⟨fun _ q q' hq hq' ne q0 q0' => ?_, fun _ => rfl⟩⟩
          · obtain ⟨k, hk, eq⟩ := bt_nz.mp ne
            rw [bt_and, Bool.and_eq_true, eb, bc, Bool.and_eq_true, Bool.or_eq_true] at eq
            obtain ⟨⟨_, z⟩, q, hq, q0, ek⟩ := eq
            rw [ek] at z
            rcases z with z | z
            · rw [hh p q (by omega) (by omega) (by omega) c0 q0] at z; cases z
            · rw [hh q p (by omega) (by omega) (by omega) q0 c0] at z; cases z
          · have nc : ∀ q, q < p → c q ≠ 0 → cf V (vi c p) (vi c q) = false ∧ cf V (vi c q) (vi c p) = false := fun q hq q0 => by
              have w24 := (vi_4 I o (show q < 6 by omega) q0).2.1
              have w := eb (vi c q)
              rw [decide_eq_true w24, Bool.true_and] at w
              have w2 : bt (st_i S29 17 (vi c p)) (vi c q) = false := by
                cases w3 : bt (st_i S29 17 (vi c p)) (vi c q)
                · rfl
                · have := bt_and_z.mp ez (vi c q) (by omega) w3
                  rw [(bc _).mpr ⟨q, hq, q0, rfl⟩] at this; cases this
              rw [w2] at w
              have w := w.symm
              rw [Bool.or_eq_false_iff] at w
              exact w
            by_cases e1 : q = p
            · rw [e1]; exact (nc q' (by omega) q0').1
            · by_cases e2 : q' = p
              · rw [e2]; exact (nc q (by omega) q0).2
              · exact hb.mp b1 q q' (by omega) (by omega) ne q0 q0'
        · have := hb.mpr fun q q' hq hq' => hh q q' (by omega) (by omega)
          rw [b0] at this; cases this
  refine H 6 0 S49 true rfl F49 (by rw [e49, st_i_pi_n _ _ _ _ _ _ (by omega), e47, st_i_pi_s]) ?_ (fun j hj => absurd hj (Nat.not_lt_zero _)) ⟨fun _ q q' hq => absurd hq (Nat.not_lt_zero _), fun _ => rfl⟩
  rw [e49, st_i_pi_s]
  have z : chB (fun _ => 0) = 0 := by decide +kernel
  rw [← z]
  exact chB_c fun p hp => (if_neg (Nat.not_lt_zero p)).symm
