-- the reference: what ranges hold, and the order of versions, laid
def fMo (n k : Nat) : Bool := fB n k || decide (1031 ≤ n ∧ n ≤ 1036)
theorem fMo_f {n k : Nat} (h : (n ≠ 1000 ∨ k < 60) ∧ n ≠ 1064 ∧ ¬ (1031 ≤ n ∧ n ≤ 1036)) : fMo n k = false := by
  unfold fMo fB
  rw [decide_eq_false h.2.2, beq_eq_false_iff_ne.mpr h.2.1, Bool.or_false, Bool.or_false]
  rcases h.1 with e | e
  · rw [beq_eq_false_iff_ne.mpr e]; rfl
  · rw [beq_eq_false_iff_ne.mpr (show k ≠ 60 by omega), beq_eq_false_iff_ne.mpr (show k ≠ 61 by omega), beq_eq_false_iff_ne.mpr (show k ≠ 62 by omega), beq_eq_false_iff_ne.mpr (show k ≠ 64 by omega)]; simp
theorem fMo_t {n k : Nat} (h : 1031 ≤ n ∧ n ≤ 1036) : fMo n k = true := by unfold fMo; rw [decide_eq_true h, Bool.or_true]
/-- the reference's scratch -/
def MF (S S1 : xm_S) : Prop := (∀ n, st_t S1 n = st_t S n) ∧ (∀ n k, st_r S1 n k = st_r S n k) ∧ (∀ n k, n ≠ 1032 → st_l S1 n k = st_l S n k) ∧ ∀ n k, fMo n k = false → st_i S1 n k = st_i S n k
theorem MF_r (S : xm_S) : MF S S := ⟨fun _ => rfl, fun _ _ => rfl, fun _ _ _ => rfl, fun _ _ _ => rfl⟩
theorem MF_t {S S1 S2 : xm_S} (h : MF S S1) (h2 : MF S1 S2) : MF S S2 := ⟨fun n => (h2.1 n).trans (h.1 n), fun n k => (h2.2.1 n k).trans (h.2.1 n k), fun n k e => (h2.2.2.1 n k e).trans (h.2.2.1 n k e), fun n k e => (h2.2.2.2 n k e).trans (h.2.2.2 n k e)⟩
theorem MF_i {S S1 : xm_S} {n k : Nat} {v : Int32} (h : MF S S1) (hn : 1031 ≤ n ∧ n ≤ 1036) : MF S (st_pi S1 n k v) := MF_t h ⟨fun _ => rfl, fun _ _ => rfl, fun _ _ _ => rfl, fun m j e => st_i_pi_n _ _ _ _ _ _ (fun hh => by rw [hh.1, fMo_t hn] at e; cases e)⟩
theorem MF_l {S S1 : xm_S} {k : Nat} {v : Int64} (h : MF S S1) : MF S (st_pl S1 1032 k v) := MF_t h ⟨fun _ => rfl, fun _ _ => rfl, fun m j e => st_l_pl_n _ _ _ _ _ _ (fun hh => e hh.1), fun _ _ _ => rfl⟩
theorem MF_B {S S' : xm_S} (F : xf_F fB S S') : MF S S' := ⟨F.1, F.2.1, fun n k _ => F.2.2.1 n k, fun n k e => F.2.2.2 n k (by unfold fMo at e; rw [Bool.or_eq_false_iff] at e; exact e.1)⟩
theorem MF_MR {S S1 : xm_S} {W : VV} (h : MF S S1) (M : MR S W) : MR S1 W := by
  obtain ⟨⟨h1, h2⟩, h3, h4⟩ := M
  refine ⟨⟨(h.1 _).trans h1, fun f e => ⟨(h.2.1 _ _).trans (h2 f e).1, (h.1 _).trans (h2 f e).2⟩⟩, fun f e => (h.2.2.2 _ _ ?_).trans (h3 f e), fun f k e => (h.2.2.2 _ _ ?_).trans (h4 f k e)⟩
  · have : f < 60 := by
      unfold pS at e
      simp only [Bool.or_eq_true, beq_iff_eq] at e
      omega
    exact fMo_f ⟨.inr this, by decide, by omega⟩
  · have q : ¬ (30 ≤ f ∧ f ≤ 35) ∧ f ≠ 63 := by
      unfold pA at e
      simp only [Bool.or_eq_true, decide_eq_true_eq, beq_iff_eq] at e
      omega
    exact fMo_f ⟨.inl (by omega), by omega, by omega⟩
theorem MF_KC {S S1 : xm_S} (h : MF S S1) : KC S S1 := fun n hn => ⟨h.1 n, fun k => h.2.1 n k, fun k => h.2.2.1 n k (by omega), fun k => h.2.2.2 n k (fMo_f (by omega))⟩
theorem MF_0 {S S1 : xm_S} (h : MF S S1) : st_i S1 1000 0 = st_i S 1000 0 := h.2.2.2 _ _ (fMo_f ⟨.inr (by decide), by decide, by decide⟩)
def hpB (V : VV) (q k : Nat) : Bool := decide (k % 2 < vn V 15 (k / 2)) && (decide (vn V 16 k = nP V q) && hf (vn V 1 (nP V q)) (vn V 17 k) false false (itm V q))
/-- of a range is laid what it holds -/
def LR (S : xm_S) (V : VV) (q : Nat) : Prop := (∀ k, bt (st_i S 1031 q) k = (decide (k < vn V 2 (nP V q)) && inc V q (nP V q) k)) ∧ ∀ k, k < 48 → bl (st_l S 1032 q) k = hpB V q k
theorem bt_wb {V : VV} {q p : Nat} : ∀ n, n ≤ 4 → ∀ k, bt (wb V q p n) k = (decide (k < n) && inc V q p k) := by
  intro n
  induction n with
  | zero => intro _ k; rw [decide_eq_false (Nat.not_lt_zero k)]; exact bt_0 k
  | succ n ih =>
    intro hn k
    have ih := ih (by omega) k
    unfold wb
    by_cases e : inc V q p n = true
    · rw [if_pos e, bt_or, bt_one (by omega), ih]
      by_cases e2 : k = n
      · subst e2; rw [decide_eq_true (show k < k + 1 by omega), decide_eq_true (rfl : k = k), e]; simp
      · rw [decide_eq_false e2, Bool.or_false]
        by_cases e3 : k < n
        · rw [decide_eq_true e3, decide_eq_true (show k < n + 1 by omega)]
        · rw [decide_eq_false e3, decide_eq_false (show ¬ k < n + 1 by omega)]
    · rw [if_neg e, ih]
      by_cases e2 : k = n
      · subst e2
        have e' : inc V q p k = false := by cases h : inc V q p k; rfl; exact absurd h e
        rw [e', Bool.and_false, Bool.and_false]
      · by_cases e3 : k < n
        · rw [decide_eq_true e3, decide_eq_true (show k < n + 1 by omega)]
        · rw [decide_eq_false e3, decide_eq_false (show ¬ k < n + 1 by omega)]
theorem m_laysRange {S : xm_S} {W : VV} {q : Nat} {g : xm_S → Prop} (M : MR S W) (I : Iv W) (hq : q < 148) (hR : VR W q) (h : ∀ S', MF S S' → LR S' W q → (∀ q', q' ≠ q → LR S W q' → LR S' W q') → g S') : wp_X12_laysRange 1000 (nI q) (nI (nP W q)) S g := by
  have hP := nP_6 I hq
  have c4 := (I.1.1 _ hP).2.2
  have sc := (I.1.1 _ hP).1
  have sc2 := sc.2
  obtain ⟨hT, l, hl⟩ := id hR
  unfold wp_X12_laysRange
  refine ⟨M.1.1, m_versionsOf M I (by omega) hP hR fun S44 F44 => ⟨_, MS_r M.1 30, _, (F44.1 _).trans (MS_t M.1 30), vp_in_nI (show q < 155 by omega) (by decide), fun S51 e51 => ?_⟩⟩
  rw [nI_clamp (show q < 2 ^ 31 by omega)] at e51
  have f51 : MF S S51 := by rw [e51]; exact MF_i (MF_B F44) (by decide)
  have M51 := MF_MR f51 M
  refine ⟨M51.1.1, _, MS_r M51.1 31, _, MS_t M51.1 31, vp_in_nI (show q < 155 by omega) (by decide), fun S59 e59 => ?_⟩
  rw [nI_clamp (show q < 2 ^ 31 by omega)] at e59
  have f59 : MF S S59 := by rw [e59]; exact MF_l f51
  have h1 : st_i S59 1031 q = wb W q (nP W q) (vn W 2 (nP W q)) := by rw [e59, e51]; exact st_i_pi_s _ _ _ _
  have h2 : ∀ q', q' ≠ q → st_i S59 1031 q' = st_i S 1031 q' := fun q' hne => by
    rw [e59]
    show st_i S51 1031 q' = _
    rw [e51, st_i_pi_n _ _ _ _ _ _ (by omega)]
    exact F44.2.2.2 _ _ rfl
  have h3 : ∀ q', q' ≠ q → st_l S59 1032 q' = st_l S 1032 q' := fun q' hne => by
    rw [e59, st_l_pl_n _ _ _ _ _ _ (by omega), e51]
    exact F44.2.2.1 _ _
  unfold wp_X12_laysRange_21
  intro Z hZ
  have H : ∀ d a S1, a + d = 24 → MF S S1 → (∀ q', st_i S1 1031 q' = st_i S59 1031 q') → (∀ q', q' ≠ q → st_l S1 1032 q' = st_l S59 1032 q') → (∀ k, k < 48 → bl (st_l S1 1032 q) k = (decide (k < 2 * a) && hpB W q k)) → Z (nI q) (nI (nP W q)) (nI a) S1 := by
    intro d
    induction d with
    | zero =>
      intro a S1 ha F1 i1 l1 b1
      refine hZ _ _ _ _ ?_
      unfold wp_X12_laysRange_21B
      rw [show a = 24 by omega] at b1 ⊢
      refine ⟨fun _ => h S1 F1 ⟨fun k => ?_, fun k hk => ?_⟩ (fun q' hne L => ⟨fun k => ?_, fun k hk => ?_⟩), fun e => absurd (nI_le (Nat.le_refl 24) (by decide)) e⟩
      · rw [i1, h1]; exact bt_wb _ c4 k
      · rw [b1 k hk, decide_eq_true (show k < 2 * 24 by omega), Bool.true_and]
      · rw [i1, h2 q' hne]; exact L.1 k
      · rw [l1 q' hne, h3 q' hne]; exact L.2 k hk
    | succ d ih =>
      intro a S1 ha F1 i1 l1 b1
      have ih := fun S' => ih (a + 1) S' (by omega)
      have k15 := (I.1.2.2.1 a (by omega)).2.2.1
      have k152 := k15.2
      refine hZ _ _ _ _ ?_
      unfold wp_X12_laysRange_21B
      refine ⟨fun e => absurd e (nI_ge (show a < 24 by omega) (by decide)), fun _ y41 e41 => ?_⟩
      rw [pk_mul] at e41
      subst e41
      unfold wp_X12_laysRange_32
      intro Z2 hZ2
      have H2 : ∀ d2 j S2, j + d2 = vn W 15 a → MF S S2 → (∀ q', st_i S2 1031 q' = st_i S59 1031 q') → (∀ q', q' ≠ q → st_l S2 1032 q' = st_l S59 1032 q') → (∀ k, k < 48 → bl (st_l S2 1032 q) k = (decide (k < 2 * a + j) && hpB W q k)) → Z2 (nI q) (nI (nP W q)) (nI a) (nI (2 * a + j)) S2 := by
        intro d2
        induction d2 with
        | zero =>
          intro j S2 hj F2 i2 l2 b2
          have M2 := MF_MR F2 M
          refine hZ2 _ _ _ _ _ ?_
          unfold wp_X12_laysRange_32B
          rw [nI_clamp (show a < 2 ^ 31 by omega)]
          refine ⟨M2.1.1, _, MS_r M2.1 15, _, MS_t M2.1 15, vp_in_nI (show a < 24 by omega) (by decide), ?_⟩
          rw [show st_i S2 (1001 + 15) a = nI (vn W 15 a) from (M2.2.2 15 _ rfl).trans k15.1, pk_mul, nI_add]
          rw [show j = vn W 15 a by omega] at b2 ⊢
          refine ⟨fun _ y ey => ?_, fun e => absurd (nI_le (Nat.le_refl _) (by omega)) e⟩
          rw [ey, nI_1]
          refine ih S2 F2 i2 l2 fun k hk => ?_
          rw [b2 k hk]
          by_cases e : k < 2 * a + vn W 15 a
          · rw [decide_eq_true e, decide_eq_true (show k < 2 * (a + 1) by omega)]
          · rw [decide_eq_false e, Bool.false_and]
            by_cases e2 : k < 2 * (a + 1)
            · rw [decide_eq_true e2, Bool.true_and]
              unfold hpB
              rw [decide_eq_false (p := k % 2 < vn W 15 (k / 2)) (by rw [show k / 2 = a by omega]; omega), Bool.false_and]
            · rw [decide_eq_false e2, Bool.false_and]
        | succ d2 ih2 =>
          intro j S2 hj F2 i2 l2 b2
          have ih2 := fun S' => ih2 (j + 1) S' (by omega)
          have M2 := MF_MR F2 M
          have q16 := (I.2.1.2.1 (2 * a + j) (by omega)).2
          have q162 := q16.1.2
          have q172 := q16.2.2
          have eH : hpB W q (2 * a + j) = (decide (vn W 16 (2 * a + j) = nP W q) && hf (vn W 1 (nP W q)) (vn W 17 (2 * a + j)) false false (itm W q)) := by
            unfold hpB
            rw [decide_eq_true (p := (2 * a + j) % 2 < vn W 15 ((2 * a + j) / 2)) (by rw [show (2 * a + j) / 2 = a by omega]; omega), Bool.true_and]
          -- behind the test
          have T : ∀ S3 (b : Bool), MF S S3 → (∀ q', st_i S3 1031 q' = st_i S2 1031 q') → (∀ q', st_l S3 1032 q' = st_l S2 1032 q') → b = hpB W q (2 * a + j) → wp_X12_laysRange_84 1000 (nI q) (nI (nP W q)) (nI a) (nI (2 * a + j)) (bI b) S3 g Z Z2 := fun S3 b F3 i3 l3 eb => by
            have M3 := MF_MR F3 M
            have T2 : ∀ x : Int64, (∀ k, k < 48 → bl x k = (decide (k = 2 * a + j) && b)) → wp_X12_laysRange_106 1000 (nI q) (nI (nP W q)) (nI a) (nI (2 * a + j)) x (st_l S3 1032 q) (nI q) (st_r S3 1000 31) S3 g Z Z2 := fun x hx => by
              unfold wp_X12_laysRange_106
              rw [nI_clamp (show q < 2 ^ 31 by omega)]
              refine ⟨_, MS_r M3.1 31, _, MS_t M3.1 31, vp_in_nI (show q < 155 by omega) (by decide), fun S6 e6 y ey => ?_⟩
              have e6 : S6 = st_pl S3 1032 q (st_l S3 1032 q ||| x) := e6
              rw [ey, nI_1]
              refine ih2 S6 (by rw [e6]; exact MF_l F3) (fun q' => by rw [e6]; exact (i3 q').trans (i2 q')) (fun q' hne => by rw [e6, st_l_pl_n _ _ _ _ _ _ (by omega)]; exact (l3 q').trans (l2 q' hne)) fun k hk => ?_
              rw [e6, st_l_pl_s, bl_or, hx k hk, l3, b2 k hk]
              by_cases e : k = 2 * a + j
              · rw [e, decide_eq_false (Nat.lt_irrefl _), decide_eq_true rfl, decide_eq_true (show 2 * a + j < 2 * a + (j + 1) by omega), eb]; simp
              · rw [decide_eq_false e, Bool.false_and, Bool.or_false]
                by_cases e2 : k < 2 * a + j
                · rw [decide_eq_true e2, decide_eq_true (show k < 2 * a + (j + 1) by omega)]
                · rw [decide_eq_false e2, decide_eq_false (show ¬ k < 2 * a + (j + 1) by omega)]
            unfold wp_X12_laysRange_84
            rw [nI_clamp (show q < 2 ^ 31 by omega)]
            refine ⟨M3.1.1, _, MS_r M3.1 31, _, MS_t M3.1 31, vp_in_nI (show q < 155 by omega) (by decide), bI_c (fun b1 => T2 _ fun k hk => ?_) (fun b0 => T2 _ fun k hk => ?_)⟩
            · rw [bl_one (by omega), b1, Bool.and_true]
            · rw [bl_0, b0, Bool.and_false]
          refine hZ2 _ _ _ _ _ ?_
          unfold wp_X12_laysRange_32B wp_X12_laysRange_83
          rw [nI_clamp (show a < 2 ^ 31 by omega), nI_clamp (show 2 * a + j < 2 ^ 31 by omega), nI_clamp (show nP W q < 2 ^ 31 by omega)]
          refine ⟨M2.1.1, _, MS_r M2.1 15, _, MS_t M2.1 15, vp_in_nI (show a < 24 by omega) (by decide), ?_⟩
          rw [show st_i S2 (1001 + 15) a = nI (vn W 15 a) from (M2.2.2 15 _ rfl).trans k15.1, pk_mul, nI_add]
          refine ⟨fun e => absurd e (nI_ge (show 2 * a + j < 2 * a + vn W 15 a by omega) (by omega)), fun _ => ⟨_, MS_r M2.1 16, _, MS_t M2.1 16, vp_in_nI (show 2 * a + j < 48 by omega) (by decide), ?_⟩⟩
          rw [show st_i S2 (1001 + 16) (2 * a + j) = nI (vn W 16 (2 * a + j)) from (M2.2.2 16 _ rfl).trans q16.1.1, nI_eq (by omega) (by omega)]
          refine ⟨fun ne => T S2 false F2 (fun _ => rfl) (fun _ => rfl) (by rw [eH, decide_eq_false ne]; rfl), fun e => ⟨_, MS_r M2.1 1, _, MS_t M2.1 1, vp_in_nI (show nP W q < 6 by omega) (by decide), _, MS_r M2.1 17, _, MS_t M2.1 17, vp_in_nI (show 2 * a + j < 48 by omega) (by decide), ?_⟩⟩
          rw [show st_i S2 (1001 + 1) (nP W q) = nI (vn W 1 (nP W q)) from (M2.2.2 1 _ rfl).trans sc.1, show st_i S2 (1001 + 17) (2 * a + j) = nI (vn W 17 (2 * a + j)) from (M2.2.2 17 _ rfl).trans q16.2.1]
          refine pm_isRangeOf (MX_of M2 (by omega) hT) sc2 (by omega) hl fun S3 F3 => ?_
          rw [decide_eq_true e, Bool.true_and, itm_of hl] at eH
          rw [← eH]
          have TT := fun b eb => T S3 b (MF_t F2 (MF_B F3)) (fun q' => F3.2.2.2 _ _ rfl) (fun q' => F3.2.2.1 _ _) eb
          exact bI_c (fun b => TT true b.symm) (fun b => TT false b.symm)
      exact H2 (vn W 15 a) 0 S1 (by omega) F1 i1 l1 (fun k hk => b1 k hk)
  exact H 24 0 S59 rfl f59 (fun _ => rfl) (fun _ _ => rfl) (fun k hk => by rw [e59, st_l_pl_s, bl_0, decide_eq_false (show ¬ k < 2 * 0 by omega)]; rfl)
/-- all is laid -/
def LRs (S : xm_S) (V : VV) : Prop := (∀ a, a < 24 → (∀ j, j < vn V 8 a → LR S V (4 * a + j)) ∧ ∀ j, j < vn V 13 a → LR S V (96 + (2 * a + j))) ∧ (∀ j, j < vn V 18 0 → LR S V (144 + j)) ∧ ∀ p, p < 6 → ∀ k, k < vn V 2 p → st_i S 1033 (4 * p + abv V p k) = nI k
theorem LR_k {S S' : xm_S} {V : VV} {q : Nat} (h : LR S V q) (e1 : st_i S' 1031 q = st_i S 1031 q) (e2 : st_l S' 1032 q = st_l S 1032 q) : LR S' V q := ⟨fun k => by rw [e1]; exact h.1 k, fun k hk => by rw [e2]; exact h.2 k hk⟩
theorem mc_pos {V : VV} {p j k : Nat} (I : Iv V) (hp : p < 6) (hj : j < 4) (hk : k < 4) : ¬ (if kyN (vn V 1 p) (vn V 3 (4 * p + j)) = kyN (vn V 1 p) (vn V 3 (4 * p + k)) then nI j - nI k else nI (kyN (vn V 1 p) (vn V 3 (4 * p + j))) - nI (kyN (vn V 1 p) (vn V 3 (4 * p + k)))) ≤ 0 ↔ Ky V p k < Ky V p j := by
  have n1 := (I.1.2.1 (4 * p + j) (by omega)).1.2
  have n2 := (I.1.2.1 (4 * p + k) (by omega)).1.2
  have a1 := kyN_lt (sc := vn V 1 p) (n := vn V 3 (4 * p + j)) (by omega)
  have a2 := kyN_lt (sc := vn V 1 p) (n := vn V 3 (4 * p + k)) (by omega)
  unfold Ky
  generalize kyN (vn V 1 p) (vn V 3 (4 * p + j)) = a at *
  generalize kyN (vn V 1 p) (vn V 3 (4 * p + k)) = b at *
  by_cases e : a = b
  · rw [if_pos e, (pk_dif (by omega) (by omega)).2.2]; omega
  · rw [if_neg e, (pk_dif (by omega) (by omega)).2.2]; omega
theorem m_order {S : xm_S} {W : VV} {g : xm_S → Prop} (M : MR S W) (I : Iv W) (h : ∀ S', MF S S' → (∀ n k, n ≠ 1033 → st_i S' n k = st_i S n k) → (∀ n k, st_l S' n k = st_l S n k) → (∀ p, p < 6 → ∀ k, k < vn W 2 p → st_i S' 1033 (4 * p + abv W p k) = nI k) → g S') : wp_X12_laysRanges_124 1000 (0 : Int32) S g := by
  unfold wp_X12_laysRanges_124
  intro Z hZ
  have H : ∀ d p S1, p + d = 6 → MF S S1 → (∀ n k, n ≠ 1033 → st_i S1 n k = st_i S n k) → (∀ n k, st_l S1 n k = st_l S n k) → (∀ i, i < p → ∀ k, k < vn W 2 i → st_i S1 1033 (4 * i + abv W i k) = nI k) → Z (nI p) S1 := by
    intro d
    induction d with
    | zero =>
      intro p S1 hp F1 i1 l1 o1
      refine hZ _ _ ?_
      unfold wp_X12_laysRanges_124B
      rw [show p = 6 by omega] at o1 ⊢
      exact ⟨fun _ => h S1 F1 i1 l1 o1, fun e => absurd (nI_le (Nat.le_refl 6) (by decide)) e⟩
    | succ d ih =>
      intro p S1 hp F1 i1 l1 o1
      have cn := (I.1.1 p (by omega)).2
      have cn2 := cn.2
      refine hZ _ _ ?_
      unfold wp_X12_laysRanges_124B wp_X12_laysRanges_132
      refine ⟨fun e => absurd e (nI_ge (show p < 6 by omega) (by decide)), fun _ Z2 hZ2 => ?_⟩
      have H2 : ∀ d2 k S2, k + d2 = vn W 2 p → MF S S2 → (∀ n k, n ≠ 1033 → st_i S2 n k = st_i S n k) → (∀ n k, st_l S2 n k = st_l S n k) → (∀ i, i < p → ∀ k, k < vn W 2 i → st_i S2 1033 (4 * i + abv W i k) = nI k) → (∀ j, j < k → st_i S2 1033 (4 * p + abv W p j) = nI j) → Z2 (nI p) (nI k) S2 := by
        intro d2
        induction d2 with
        | zero =>
          intro k S2 hk F2 i2 l2 o2 q2
          have M2 := MF_MR F2 M
          refine hZ2 _ _ _ ?_
          unfold wp_X12_laysRanges_132B
          rw [nI_clamp (show p < 2 ^ 31 by omega)]
          refine ⟨M2.1.1, _, MS_r M2.1 2, _, MS_t M2.1 2, vp_in_nI (show p < 6 by omega) (by decide), ?_⟩
          rw [show st_i S2 (1001 + 2) p = nI (vn W 2 p) from (M2.2.2 2 _ rfl).trans cn.1]
          rw [show k = vn W 2 p by omega] at q2 ⊢
          refine ⟨fun _ y ey => ?_, fun e => absurd (nI_le (Nat.le_refl _) (by omega)) e⟩
          rw [ey, nI_1]
          refine ih (p + 1) S2 (by omega) F2 i2 l2 fun i hi k hk => ?_
          by_cases e : i = p
          · rw [e] at hk ⊢; exact q2 k hk
          · exact o2 i (by omega) k hk
        | succ d2 ih2 =>
          intro k S2 hk F2 i2 l2 o2 q2
          have ih2 := fun S' => ih2 (k + 1) S' (by omega)
          have M2 := MF_MR F2 M
          have ab := abv_b (V := W) (p := p) (k := k) (by omega)
          refine hZ2 _ _ _ ?_
          unfold wp_X12_laysRanges_132B
          rw [nI_clamp (show p < 2 ^ 31 by omega)]
          refine ⟨M2.1.1, _, MS_r M2.1 2, _, MS_t M2.1 2, vp_in_nI (show p < 6 by omega) (by decide), ?_⟩
          rw [show st_i S2 (1001 + 2) p = nI (vn W 2 p) from (M2.2.2 2 _ rfl).trans cn.1]
          refine ⟨fun e => absurd e (nI_ge (show k < vn W 2 p by omega) (by omega)), fun _ => ?_⟩
          unfold wp_X12_laysRanges_147
          intro Z3 hZ3
          have H3 : ∀ d3 j, j + d3 = vn W 2 p → Z3 (nI p) (nI k) (nI (cb (fun j => decide (Ky W p k < Ky W p j)) j)) (nI j) S2 := by
            intro d3
            induction d3 with
            | zero =>
              intro j hj
              refine hZ3 _ _ _ _ _ ?_
              unfold wp_X12_laysRanges_147B
              rw [nI_clamp (show p < 2 ^ 31 by omega)]
              refine ⟨M2.1.1, _, MS_r M2.1 2, _, MS_t M2.1 2, vp_in_nI (show p < 6 by omega) (by decide), ?_⟩
              rw [show st_i S2 (1001 + 2) p = nI (vn W 2 p) from (M2.2.2 2 _ rfl).trans cn.1, show j = vn W 2 p by omega, show cb (fun j => decide (Ky W p k < Ky W p j)) (vn W 2 p) = abv W p k from rfl, pk_mul, nI_add, nI_clamp (show 4 * p + abv W p k < 2 ^ 31 by omega)]
              refine ⟨fun _ => ⟨_, MS_r M2.1 32, _, MS_t M2.1 32, vp_in_nI (show 4 * p + abv W p k < 24 by omega) (by decide), fun S48 e48 y ey => ?_⟩, fun e => absurd (nI_le (Nat.le_refl _) (by omega)) e⟩
              have e48 : S48 = st_pi S2 1033 (4 * p + abv W p k) (nI k) := e48
              rw [ey, nI_1]
              refine ih2 S48 (by rw [e48]; exact MF_i F2 (by decide)) (fun n k hn => by rw [e48, st_i_pi_n _ _ _ _ _ _ (by omega)]; exact i2 n k hn) (fun n k => by rw [e48]; exact l2 n k) (fun i hi k' hk' => ?_) fun j hj => ?_
              · have a2 := abv_b hk'
                have c2 := (I.1.1 i (by omega)).2.2
                rw [e48, st_i_pi_n _ _ _ _ _ _ (by omega)]; exact o2 i hi k' hk'
              · by_cases e : j = k
                · rw [e, e48, st_i_pi_s]
                · have ne : abv W p j ≠ abv W p k := fun hh => e (abv_i cn2 (by omega) (by omega) hh)
                  rw [e48, st_i_pi_n _ _ _ _ _ _ (fun hh => ne (by omega))]; exact q2 j (by omega)
            | succ d3 ih3 =>
              intro j hj
              have ih3 := ih3 (j + 1) (by omega)
              rw [show cb (fun j => decide (Ky W p k < Ky W p j)) (j + 1) = cb (fun j => decide (Ky W p k < Ky W p j)) j + (if decide (Ky W p k < Ky W p j) then 1 else 0) from rfl] at ih3
              refine hZ3 _ _ _ _ _ ?_
              unfold wp_X12_laysRanges_147B
              rw [nI_clamp (show p < 2 ^ 31 by omega)]
              refine ⟨M2.1.1, _, MS_r M2.1 2, _, MS_t M2.1 2, vp_in_nI (show p < 6 by omega) (by decide), ?_⟩
              rw [show st_i S2 (1001 + 2) p = nI (vn W 2 p) from (M2.2.2 2 _ rfl).trans cn.1]
              refine ⟨fun e => absurd e (nI_ge (show j < vn W 2 p by omega) (by omega)), fun _ => m_compares M2 I (by omega) (by omega) (by omega) ⟨fun q => ?_, fun q => ?_⟩⟩
              · unfold wp_X12_laysRanges_175
                intro y33 e33 y35 e35
                rw [decide_eq_false (fun hh => (mc_pos I (show p < 6 by omega) (by omega) (by omega)).mpr hh q)] at ih3
                rw [e33, e35, nI_1, Int32.add_zero]
                exact ih3
              · unfold wp_X12_laysRanges_175
                intro y33 e33 y35 e35
                rw [decide_eq_true ((mc_pos I (show p < 6 by omega) (by omega) (by omega)).mp q)] at ih3
                rw [e33, e35, nI_1, nI_1]
                exact ih3
          exact H3 (vn W 2 p) 0 (by omega)
      exact H2 (vn W 2 p) 0 S1 (by omega) F1 i1 l1 o1 (fun j hj => absurd hj (Nat.not_lt_zero _))
  exact H 6 0 S rfl (MF_r S) (fun _ _ _ => rfl) (fun _ _ => rfl) (fun i hi => absurd hi (Nat.not_lt_zero _))
theorem m_laysRanges {S : xm_S} {W : VV} {g : xm_S → Prop} (M : MR S W) (I : Iv W) (h : ∀ S', MF S S' → LRs S' W → g S') : wp_X12_laysRanges 1000 S g := by
  have w18 := I.2.2.1.1
  have w182 := w18.2
  have up : ∀ {S1 S2 : xm_S} {q q' : Nat}, LR S2 W q → (∀ q', q' ≠ q → LR S1 W q' → LR S2 W q') → LR S1 W q' → LR S2 W q' := fun {S1 S2 q q'} h1 h2 h3 => by
    by_cases e : q' = q
    · rw [e]; exact h1
    · exact h2 q' e h3
  unfold wp_X12_laysRanges wp_X12_laysRanges_2
  intro Z hZ
  have H : ∀ d a S1, a + d = 24 → MF S S1 → (∀ b, b < a → (∀ j, j < vn W 8 b → LR S1 W (4 * b + j)) ∧ ∀ j, j < vn W 13 b → LR S1 W (96 + (2 * b + j))) → Z (nI a) S1 := by
    intro d
    induction d with
    | zero =>
      intro a S1 ha F1 A1
      refine hZ _ _ ?_
      unfold wp_X12_laysRanges_2B
      rw [show a = 24 by omega] at A1 ⊢
      refine ⟨fun _ => ?_, fun e => absurd (nI_le (Nat.le_refl 24) (by decide)) e⟩
      unfold wp_X12_laysRanges_93
      intro Z2 hZ2
      have H2 : ∀ d2 k S2, k + d2 = vn W 18 0 → MF S S2 → (∀ b, b < 24 → (∀ j, j < vn W 8 b → LR S2 W (4 * b + j)) ∧ ∀ j, j < vn W 13 b → LR S2 W (96 + (2 * b + j))) → (∀ j, j < k → LR S2 W (144 + j)) → Z2 (nI k) S2 := by
        intro d2
        induction d2 with
        | zero =>
          intro k S2 hk F2 A2 w2
          have M2 := MF_MR F2 M
          refine hZ2 _ _ ?_
          unfold wp_X12_laysRanges_93B
          rw [show st_i S2 1000 18 = nI (vn W 18 0) from (M2.2.1 18 rfl).trans w18.1]
          rw [show k = vn W 18 0 by omega] at w2 ⊢
          refine ⟨M2.1.1, fun _ => m_order M2 I fun S3 F3 i3 l3 o3 => h S3 (MF_t F2 F3) ⟨fun b hb => ⟨fun j hj => LR_k ((A2 b hb).1 j hj) (i3 _ _ (by decide)) (l3 _ _), fun j hj => LR_k ((A2 b hb).2 j hj) (i3 _ _ (by decide)) (l3 _ _)⟩, fun j hj => LR_k (w2 j hj) (i3 _ _ (by decide)) (l3 _ _), o3⟩, fun e => absurd (nI_le (Nat.le_refl _) (by omega)) e⟩
        | succ d2 ih2 =>
          intro k S2 hk F2 A2 w2
          have M2 := MF_MR F2 M
          have q19 := (I.2.2.1.2.1 k (by omega)).1
          have nm := nm_w (V := W) (j := k)
          refine hZ2 _ _ ?_
          unfold wp_X12_laysRanges_93B
          rw [show st_i S2 1000 18 = nI (vn W 18 0) from (M2.2.1 18 rfl).trans w18.1, nI_clamp (show k < 2 ^ 31 by omega)]
          refine ⟨M2.1.1, fun e => absurd e (nI_ge (show k < vn W 18 0 by omega) (by omega)), fun _ => ⟨_, MS_r M2.1 19, _, MS_t M2.1 19, vp_in_nI (show k < 4 by omega) (by decide), ?_⟩⟩
          rw [show st_i S2 (1001 + 19) k = nI (nP W (144 + k)) from (M2.2.2 19 _ rfl).trans (by rw [nm.1]; exact q19.1), nI_add]
          refine m_laysRange M2 I (by omega) (I.2.2.1.2.2.1 k (by omega)) fun S3 F3 L3 K3 y ey => ?_
          rw [ey, nI_1]
          refine ih2 (k + 1) S3 (by omega) (MF_t F2 F3) (fun b hb => ⟨fun j hj => up L3 K3 ((A2 b hb).1 j hj), fun j hj => up L3 K3 ((A2 b hb).2 j hj)⟩) fun j hj => ?_
          by_cases e : j = k
          · rw [e]; exact L3
          · exact up L3 K3 (w2 j (by omega))
      exact H2 (vn W 18 0) 0 S1 (by omega) F1 A1 (fun j hj => absurd hj (Nat.not_lt_zero _))
    | succ d ih =>
      intro a S1 ha F1 A1
      have k8 := (I.1.2.2.1 a (by omega)).1
      have k82 := k8.2
      have k13 := (I.1.2.2.1 a (by omega)).2.1
      have k132 := k13.2
      refine hZ _ _ ?_
      unfold wp_X12_laysRanges_2B wp_X12_laysRanges_10
      refine ⟨fun e => absurd e (nI_ge (show a < 24 by omega) (by decide)), fun _ Z2 hZ2 => ?_⟩
      -- the conflicts
      have X : ∀ S2, MF S S2 → (∀ b, b < a → (∀ j, j < vn W 8 b → LR S2 W (4 * b + j)) ∧ ∀ j, j < vn W 13 b → LR S2 W (96 + (2 * b + j))) → (∀ j, j < vn W 8 a → LR S2 W (4 * a + j)) → wp_X12_laysRanges_47 1000 (nI a) (0 : Int32) S2 g Z := fun S2 F2 A2 n2 => by
        unfold wp_X12_laysRanges_47
        intro Z3 hZ3
        have H3 : ∀ d3 k S3, k + d3 = vn W 13 a → MF S S3 → (∀ b, b < a → (∀ j, j < vn W 8 b → LR S3 W (4 * b + j)) ∧ ∀ j, j < vn W 13 b → LR S3 W (96 + (2 * b + j))) → (∀ j, j < vn W 8 a → LR S3 W (4 * a + j)) → (∀ j, j < k → LR S3 W (96 + (2 * a + j))) → Z3 (nI a) (nI k) S3 := by
          intro d3
          induction d3 with
          | zero =>
            intro k S3 hk F3 A3 n3 c3
            have M3 := MF_MR F3 M
            refine hZ3 _ _ _ ?_
            unfold wp_X12_laysRanges_47B
            rw [nI_clamp (show a < 2 ^ 31 by omega)]
            refine ⟨M3.1.1, _, MS_r M3.1 13, _, MS_t M3.1 13, vp_in_nI (show a < 24 by omega) (by decide), ?_⟩
            rw [show st_i S3 (1001 + 13) a = nI (vn W 13 a) from (M3.2.2 13 _ rfl).trans k13.1]
            rw [show k = vn W 13 a by omega] at c3 ⊢
            refine ⟨fun _ y ey => ?_, fun e => absurd (nI_le (Nat.le_refl _) (by omega)) e⟩
            rw [ey, nI_1]
            refine ih (a + 1) S3 (by omega) F3 fun b hb => ?_
            by_cases e : b = a
            · rw [e]; exact ⟨n3, c3⟩
            · exact A3 b (by omega)
          | succ d3 ih3 =>
            intro k S3 hk F3 A3 n3 c3
            have M3 := MF_MR F3 M
            have nm := nm_c (V := W) (show a < 24 by omega) (show k < 2 by omega)
            have q14 := (I.2.1.2.1 (2 * a + k) (by omega)).1
            refine hZ3 _ _ _ ?_
            unfold wp_X12_laysRanges_47B
            rw [nI_clamp (show a < 2 ^ 31 by omega), pk_mul, nI_add, nI_add, nI_add, nI_clamp (show 2 * a + k < 2 ^ 31 by omega)]
            refine ⟨M3.1.1, _, MS_r M3.1 13, _, MS_t M3.1 13, vp_in_nI (show a < 24 by omega) (by decide), ?_⟩
            rw [show st_i S3 (1001 + 13) a = nI (vn W 13 a) from (M3.2.2 13 _ rfl).trans k13.1]
            refine ⟨fun e => absurd e (nI_ge (show k < vn W 13 a by omega) (by omega)), fun _ => ⟨_, MS_r M3.1 14, _, MS_t M3.1 14, vp_in_nI (show 2 * a + k < 48 by omega) (by decide), ?_⟩⟩
            rw [show st_i S3 (1001 + 14) (2 * a + k) = nI (nP W (96 + (2 * a + k))) from (M3.2.2 14 _ rfl).trans (by rw [nm.1]; exact q14.1), show 96 + 2 * a + k = 96 + (2 * a + k) by omega]
            refine m_laysRange M3 I (by omega) ((I.2.1.2.2 a (by omega)).2.1 k (by omega)).1 fun S4 F4 L4 K4 y ey => ?_
            rw [ey, nI_1]
            refine ih3 (k + 1) S4 (by omega) (MF_t F3 F4) (fun b hb => ⟨fun j hj => up L4 K4 ((A3 b hb).1 j hj), fun j hj => up L4 K4 ((A3 b hb).2 j hj)⟩) (fun j hj => up L4 K4 (n3 j hj)) fun j hj => ?_
            by_cases e : j = k
            · rw [e]; exact L4
            · exact up L4 K4 (c3 j (by omega))
        exact H3 (vn W 13 a) 0 S2 (by omega) F2 A2 n2 (fun j hj => absurd hj (Nat.not_lt_zero _))
      have H2 : ∀ d2 k S2, k + d2 = vn W 8 a → MF S S2 → (∀ b, b < a → (∀ j, j < vn W 8 b → LR S2 W (4 * b + j)) ∧ ∀ j, j < vn W 13 b → LR S2 W (96 + (2 * b + j))) → (∀ j, j < k → LR S2 W (4 * a + j)) → Z2 (nI a) (nI k) S2 := by
        intro d2
        induction d2 with
        | zero =>
          intro k S2 hk F2 A2 n2
          have M2 := MF_MR F2 M
          refine hZ2 _ _ _ ?_
          unfold wp_X12_laysRanges_10B
          rw [nI_clamp (show a < 2 ^ 31 by omega)]
          refine ⟨M2.1.1, _, MS_r M2.1 8, _, MS_t M2.1 8, vp_in_nI (show a < 24 by omega) (by decide), ?_⟩
          rw [show st_i S2 (1001 + 8) a = nI (vn W 8 a) from (M2.2.2 8 _ rfl).trans k8.1]
          rw [show k = vn W 8 a by omega] at n2 ⊢
          exact ⟨fun _ => X S2 F2 A2 n2, fun e => absurd (nI_le (Nat.le_refl _) (by omega)) e⟩
        | succ d2 ih2 =>
          intro k S2 hk F2 A2 n2
          have M2 := MF_MR F2 M
          have nm := nm_q (V := W) (show a < 24 by omega) (show k < 4 by omega)
          have q9 := (I.2.1.1 (4 * a + k) (by omega)).1
          refine hZ2 _ _ _ ?_
          unfold wp_X12_laysRanges_10B
          rw [nI_clamp (show a < 2 ^ 31 by omega), pk_mul, nI_add, nI_clamp (show 4 * a + k < 2 ^ 31 by omega)]
          refine ⟨M2.1.1, _, MS_r M2.1 8, _, MS_t M2.1 8, vp_in_nI (show a < 24 by omega) (by decide), ?_⟩
          rw [show st_i S2 (1001 + 8) a = nI (vn W 8 a) from (M2.2.2 8 _ rfl).trans k8.1]
          refine ⟨fun e => absurd e (nI_ge (show k < vn W 8 a by omega) (by omega)), fun _ => ⟨_, MS_r M2.1 9, _, MS_t M2.1 9, vp_in_nI (show 4 * a + k < 96 by omega) (by decide), ?_⟩⟩
          rw [show st_i S2 (1001 + 9) (4 * a + k) = nI (nP W (4 * a + k)) from (M2.2.2 9 _ rfl).trans (by rw [nm.1]; exact q9.1)]
          refine m_laysRange M2 I (by omega) ((I.2.1.2.2 a (by omega)).1 k (by omega)) fun S4 F4 L4 K4 y ey => ?_
          rw [ey, nI_1]
          refine ih2 (k + 1) S4 (by omega) (MF_t F2 F4) (fun b hb => ⟨fun j hj => up L4 K4 ((A2 b hb).1 j hj), fun j hj => up L4 K4 ((A2 b hb).2 j hj)⟩) fun j hj => ?_
          by_cases e : j = k
          · rw [e]; exact L4
          · exact up L4 K4 (n2 j (by omega))
      exact H2 (vn W 8 a) 0 S1 (by omega) F1 A1 (fun j hj => absurd hj (Nat.not_lt_zero _))
  exact H 24 0 S rfl (MF_r S) (fun b hb => absurd hb (Nat.not_lt_zero _))
