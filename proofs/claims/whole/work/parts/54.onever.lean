-- one version is changed
theorem gV_A {ER EI : Nat → Nat → Bool} {S S' : xm_S} {V V' : VV} {N N' a0 : Nat} (ha0 : a0 < 24) (I : Iv V) (h : gV S V N) (K : KX ER EI N S S') (hN : 2000 ≤ N) (e : N ≤ N') (hR : ∀ n k, (200 ≤ n ∧ n < 700 ∨ 2000 ≤ n) → ¬ (200 + 20 * a0 ≤ n ∧ n < 220 + 20 * a0) → ER n k = false) (hI : ∀ n k, (200 ≤ n ∧ n < 700 ∨ 2000 ≤ n) → ¬ (200 + 20 * a0 ≤ n ∧ n < 220 + 20 * a0) → EI n k = false)
    (eu : ∀ k, V' 2 k = V 2 k) (ev : ∀ f a, a ≠ a0 → (3 ≤ f ∧ f ≤ 8 ∨ f = 13 ∨ f = 15 ∨ f = 42 ∨ f = 44) → V' f a = V f a) (e40 : ∀ a, a ≠ a0 → a < 24 → ∀ j, j < 3 → V' 40 (24 * j + a) = V 40 (24 * j + a)) (e16 : ∀ a, a ≠ a0 → ∀ j, j < 2 → V' 16 (2 * a + j) = V 16 (2 * a + j) ∧ V' 17 (2 * a + j) = V 17 (2 * a + j)) (e45 : ∀ a, a ≠ a0 → ∀ j, j < 3 → V' 45 (3 * a + j) = V 45 (3 * a + j) ∧ V' 46 (3 * a + j) = V 46 (3 * a + j) ∧ V' 47 (3 * a + j) = V 47 (3 * a + j))
    (e9 : ∀ a, a ≠ a0 → a < 24 → ∀ j, j < 4 → eT V V' (4 * a + j) ∧ ∀ f, (9 ≤ f ∧ f ≤ 12) → V' f (4 * a + j) = V f (4 * a + j)) (e14 : ∀ a, a ≠ a0 → a < 24 → ∀ j, j < 2 → eT V V' (96 + (2 * a + j)) ∧ V' 14 (2 * a + j) = V 14 (2 * a + j)) (u0 : used V a0)
    (h0 : gV1 S (200 + 20 * a0) → gV2 S V a0 (200 + 20 * a0) → gV3 S V a0 (200 + 20 * a0) → gN S V N a0 (200 + 20 * a0) → gV1 S' (200 + 20 * a0) ∧ gV2 S' V' a0 (200 + 20 * a0) ∧ gV3 S' V' a0 (200 + 20 * a0) ∧ gN S' V' N' a0 (200 + 20 * a0)) : gV S' V' N' := by
  intro a ha
  obtain ⟨h1, h2⟩ := h a ha
  have eu' : used V' a ↔ used V a := by unfold used; rw [vn_e (eu _)]
  rw [eu']
  refine ⟨fun u => ?_, fun u j hj => by
    have hne : a ≠ a0 := fun e => u (by rw [e]; exact u0)
    exact KX_no K (by omega) (hR _ _ (by omega) (by omega)) (h2 u j hj)⟩
  obtain ⟨g1, g2, g3, g4⟩ := h1 u
  by_cases ea : a = a0
  · subst ea
    exact h0 g1 g2 g3 g4
  · have b := I.1.2.2.1 a ha
    have b8 := b.1.2
    have b13 := b.2.1.2
    have b15 := b.2.2.1.2
    have b44 := b.2.2.2.2
    exact ⟨gV1_X g1 K (by omega) (fun k => hR _ k (by omega) (by omega)), gV2_X g2 g1 K (by omega) (fun k => hI _ k (by omega) (by omega)) (fun f hf => ev f a ea (by omega)), gV3_X g3 g1 K (by omega) (fun n k _ _ => hI n k (by omega) (by omega)) (fun f hf => ev f a ea (by omega)) (fun j hj => e40 a ea ha j hj) (fun j hj => e16 a ea j (by omega)) (fun j hj => e45 a ea j (by omega)), by
      obtain ⟨q1, q2, q3, q4⟩ := g4
      unfold gN
      rw [vn_e (ev 8 a ea (by omega)), vn_e (ev 13 a ea (by omega))]
      refine ⟨fun j hj => ?_, fun j hj => ?_, fun j g1 g2 => KX_no K (by omega) (hR _ _ (by omega) (by omega)) (q3 j g1 g2), fun j g1 g2 => KX_no K (by omega) (hR _ _ (by omega) (by omega)) (q4 j g1 g2)⟩
      · have w := e9 a ea ha j (by omega)
        rw [w.2 9 (by omega), w.2 10 (by omega), w.2 11 (by omega), w.2 12 (by omega)]
        exact ⟨((K _ (by omega)).2.1 _ (hR _ _ (by omega) (by omega))).trans (q1 j hj).1, NO_X (q1 j hj).2 K (by omega) (fun n k hn => hR n k (by omega) (by omega)) (fun n k hn => hI n k (by omega) (by omega)) (fun k => hR _ k (by omega) (by omega)) (fun k => hI _ k (by omega) (by omega)) e w.1⟩
      · have w := e14 a ea ha j (by omega)
        rw [w.2]
        exact ⟨((K _ (by omega)).2.1 _ (hR _ _ (by omega) (by omega))).trans (q2 j hj).1, NO_X (q2 j hj).2 K (by omega) (fun n k hn => hR n k (by omega) (by omega)) (fun n k hn => hI n k (by omega) (by omega)) (fun k => hR _ k (by omega) (by omega)) (fun k => hI _ k (by omega) (by omega)) e w.1⟩⟩
