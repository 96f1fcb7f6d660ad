-- install: strays, files laid
def EIp (n _k : Nat) : Bool := decide (27 ≤ n ∧ n ≤ 29)
theorem EIp_f {n k : Nat} (h : ¬ (27 ≤ n ∧ n ≤ 29)) : EIp n k = false := decide_eq_false h
def ptV (V : VV) (j : Nat) (x y z : Int32) : VV := uV (uV (uV V 50 (6 + j) x) 50 (22 + j) y) 50 (38 + j) z
theorem ptV_f {V : VV} {j : Nat} {x y z : Int32} (f k : Nat) (h : f ≠ 50 ∨ k ≠ 6 + j ∧ k ≠ 22 + j ∧ k ≠ 38 + j) : ptV V j x y z f k = V f k := (uV_n _ _ _ _ _ _ (by omega)).trans ((uV_n _ _ _ _ _ _ (by omega)).trans (uV_n _ _ _ _ _ _ (by omega)))
theorem ptV_n {V : VV} {j : Nat} {x y z : Int32} : ptV V j x y z 50 (6 + j) = x ∧ ptV V j x y z 50 (22 + j) = y ∧ ptV V j x y z 50 (38 + j) = z := ⟨(uV_n _ _ _ _ _ _ (by omega)).trans ((uV_n _ _ _ _ _ _ (by omega)).trans (uV_s _ _ _ _)), (uV_n _ _ _ _ _ _ (by omega)).trans (uV_s _ _ _ _), uV_s _ _ _ _⟩
theorem CR_put {S : xm_S} {V : VV} {N j : Nat} {x y z : Int32} (hj : j < 16) (C : CR S V N) (I : Iv V) : CR (st_pi (st_pi (st_pi S 27 j x) 28 j y) 29 j z) (ptV V j x y z) N := by
  have ev : ∀ f k, f ≠ 50 → ptV V j x y z f k = V f k := fun f k h => ptV_f f k (.inl h)
  have et : ∀ q, eT V (ptV V j x y z) q := eT_v fun f k h => ev _ _ (by omega)
  have m := CR_mc C
  have nn := ptV_n (V := V) (j := j) (x := x) (y := y) (z := z)
  have K : KX fA0 EIp N S (st_pi (st_pi (st_pi S 27 j x) 28 j y) 29 j z) := KX_pi (KX_pi (KX_pi (KX_rfl _ _ _ _) rfl) rfl) rfl
  have b18 := I.2.2.1.1.2
  have b21 := I.2.2.1.2.2.2.1.2
  obtain ⟨hN, hf, c1, c2, c3, c4, c5, c6, c7, c8, c9, c10, c11, c12, c13⟩ := C
  refine ⟨by omega, hf, gS_X c1 K hN (fun k => by rfl), gX_X c2 c1 K hN (fun k => by exact EIp_f (by omega)) (fun f hf9 => by exact ev _ _ (by omega)), gO_X c3 K hN (fun k hk => by rfl), gT_X c4 K hN (by rfl) (by exact EIp_f (by omega)) (fun k => by exact EIp_f (by omega)) (by exact et _), gP_X c5 K hN (fun n k hn => by rfl) (fun n k g1 g2 => by exact EIp_f (by omega)) (fun k hk => ⟨by exact ev _ _ (by omega), by exact ev _ _ (by omega)⟩), gV_Y I c6 K hN (Nat.le_refl _) (fun n k hn => by rfl) (fun n k hn => by exact EIp_f (by omega)) (fun f k hf9 => by exact ev _ _ (by omega)) (fun q hq => by exact et _), gW_X c7 K hN (Nat.le_refl _) (fun n k hn => by rfl) (fun n k hn => by exact EIp_f (by omega)) (by exact ev _ _ (by omega)) (fun j hj => ⟨by exact et _, by exact ev _ _ (by omega), by exact ev _ _ (by omega)⟩), gA_X c8 K hN (Nat.le_refl _) (fun n k hn => by rfl) (fun n k hn => by exact EIp_f (by omega)) (by exact ev _ _ (by omega)) (fun j hj => ⟨by exact et _, by exact ev _ _ (by omega), by exact ev _ _ (by omega)⟩), gL_X c9 c1 K hN (fun n k hn => by rfl) (fun n k hn => by exact EIp_f (by omega)) (fun f k hf9 => by exact ev _ _ (by omega)), gM_X c10 K hN (fun n k hn => by exact EIp_f (by omega)) (fun f k hf9 hk9 => by exact ev _ _ (by omega)), gI1_X c11 K hN (fun n k hn => by rfl), ?_, gI3_X c13 c11 K hN (fun k => by rfl) (fun n k hn => by exact EIp_f (by omega)) I.2.2.2.2.2.2.2.2.2.1.2 (fun f k hf9 => by exact ev _ _ (by omega))⟩
  obtain ⟨h1, h2, h3, h4, h5, h6, h7⟩ := c12
  have r : ∀ n k, ¬ (n = 27 ∧ k = j) → ¬ (n = 28 ∧ k = j) → ¬ (n = 29 ∧ k = j) → st_i (st_pi (st_pi (st_pi S 27 j x) 28 j y) 29 j z) n k = st_i S n k := fun n k a b c => by rw [st_i_pi_n _ _ _ _ _ _ c, st_i_pi_n _ _ _ _ _ _ b, st_i_pi_n _ _ _ _ _ _ a]
  unfold gI2
  rw [ev 56 _ (by omega), ev 55 _ (by omega), ev 54 _ (by omega), ev 52 _ (by omega), ev 53 _ (by omega)]
  refine ⟨⟨fun p hp => ?_, fun i hi => ?_⟩, (r _ _ (by omega) (by omega) (by omega)).trans h2, (r _ _ (by omega) (by omega) (by omega)).trans h3, (r _ _ (by omega) (by omega) (by omega)).trans h4, (r _ _ (by omega) (by omega) (by omega)).trans h5, (r _ _ (by omega) (by omega) (by omega)).trans h6, fun k hk => ?_⟩
  · rw [ptV_f _ _ (by omega)]; exact (r _ _ (by omega) (by omega) (by omega)).trans (h1.1 p hp)
  · rw [Nat.zero_add, Nat.zero_add, Nat.zero_add]
    by_cases e : i = j
    · rw [e, nn.1, nn.2.1, nn.2.2]
      refine ⟨?_, ?_, ?_⟩
      · rw [st_i_pi_n _ _ _ _ _ _ (by omega), st_i_pi_n _ _ _ _ _ _ (by omega), st_i_pi_s]
      · rw [st_i_pi_n _ _ _ _ _ _ (by omega), st_i_pi_s]
      · rw [st_i_pi_s]
    · rw [ptV_f _ _ (by omega), ptV_f _ _ (by omega), ptV_f _ _ (by omega)]
      have w := m i hi
      exact ⟨(r _ _ (by omega) (by omega) (by omega)).trans w.1, (r _ _ (by omega) (by omega) (by omega)).trans w.2.1, (r _ _ (by omega) (by omega) (by omega)).trans w.2.2⟩
  · rw [ev 48 _ (by omega), ev 49 _ (by omega), r _ _ (by omega) (by omega) (by omega), r _ _ (by omega) (by omega) (by omega)]
    exact h7 k hk
theorem CR_24_5 {S : xm_S} {V : VV} {N : Nat} {x : Int32} (C : CR S V N) (I : Iv V) : CR (st_pi S 24 5 x) (uV V 52 0 x) N := by
  have ev : ∀ f k, f ≠ 52 → uV V 52 0 x f k = V f k := fun f k h => uV_n _ _ _ _ _ _ (by omega)
  have et : ∀ q, eT V (uV V 52 0 x) q := eT_v fun f k h => ev _ _ (by omega)
  have K : KX fA0 (E1 24 5) N S (st_pi S 24 5 x) := KX_pi (KX_rfl _ _ _ _) (E1_t _ _)
  have b18 := I.2.2.1.1.2
  have b21 := I.2.2.1.2.2.2.1.2
  obtain ⟨hN, hf, c1, c2, c3, c4, c5, c6, c7, c8, c9, c10, c11, c12, c13⟩ := C
  refine ⟨by omega, hf, gS_X c1 K hN (fun k => by rfl), gX_X c2 c1 K hN (fun k => by exact E1_f (by omega)) (fun f hf9 => by exact uV_n _ _ _ _ _ _ (by omega)), gO_X c3 K hN (fun k hk => by rfl), gT_X c4 K hN (by rfl) (by exact E1_f (by omega)) (fun k => by exact E1_f (by omega)) (by exact et _), gP_X c5 K hN (fun n k hn => by rfl) (fun n k g1 g2 => by exact E1_f (by omega)) (fun k hk => ⟨by exact uV_n _ _ _ _ _ _ (by omega), by exact uV_n _ _ _ _ _ _ (by omega)⟩), gV_Y I c6 K hN (Nat.le_refl _) (fun n k hn => by rfl) (fun n k hn => by exact E1_f (by omega)) (fun f k hf9 => by exact uV_n _ _ _ _ _ _ (by omega)) (fun q hq => by exact et _), gW_X c7 K hN (Nat.le_refl _) (fun n k hn => by rfl) (fun n k hn => by exact E1_f (by omega)) (by exact uV_n _ _ _ _ _ _ (by omega)) (fun j hj => ⟨by exact et _, by exact uV_n _ _ _ _ _ _ (by omega), by exact uV_n _ _ _ _ _ _ (by omega)⟩), gA_X c8 K hN (Nat.le_refl _) (fun n k hn => by rfl) (fun n k hn => by exact E1_f (by omega)) (by exact uV_n _ _ _ _ _ _ (by omega)) (fun j hj => ⟨by exact et _, by exact uV_n _ _ _ _ _ _ (by omega), by exact uV_n _ _ _ _ _ _ (by omega)⟩), gL_X c9 c1 K hN (fun n k hn => by rfl) (fun n k hn => by exact E1_f (by omega)) (fun f k hf9 => by exact uV_n _ _ _ _ _ _ (by omega)), gM_X c10 K hN (fun n k hn => by exact E1_f (by omega)) (fun f k hf9 hk9 => by exact uV_n _ _ _ _ _ _ (by omega)), gI1_X c11 K hN (fun n k hn => by rfl), ?_, gI3_X c13 c11 K hN (fun k => by rfl) (fun n k hn => by exact E1_f (by omega)) I.2.2.2.2.2.2.2.2.2.1.2 (fun f k hf9 => by exact uV_n _ _ _ _ _ _ (by omega))⟩
  obtain ⟨h1, h2, h3, h4, h5, h6, h7⟩ := c12
  have r : ∀ n k, ¬ (n = 24 ∧ k = 5) → st_i (st_pi S 24 5 x) n k = st_i S n k := fun n k a => st_i_pi_n _ _ _ _ _ _ a
  refine ⟨gMi_X h1 c11.2.1 K (by omega) (fun m j g1 g2 => E1_f (by omega)) (fun j _ => ev 50 _ (by omega)), (r _ _ (by omega)).trans (h2.trans (ev 56 _ (by omega)).symm), (r _ _ (by omega)).trans (h3.trans (ev 55 _ (by omega)).symm), (r _ _ (by omega)).trans (h4.trans (ev 54 _ (by omega)).symm), (st_i_pi_s _ _ _ _).trans (uV_s _ _ _ _).symm, (r _ _ (by omega)).trans (h6.trans (ev 53 _ (by omega)).symm), fun k hk => ?_⟩
  rw [ev 48 _ (by omega), ev 49 _ (by omega), r _ _ (by omega), r _ _ (by omega)]
  exact h7 k hk
theorem CR_24_6 {S : xm_S} {V : VV} {N : Nat} {x : Int32} (C : CR S V N) (I : Iv V) : CR (st_pi S 24 6 x) (uV V 53 0 x) N := by
  have ev : ∀ f k, f ≠ 53 → uV V 53 0 x f k = V f k := fun f k h => uV_n _ _ _ _ _ _ (by omega)
  have et : ∀ q, eT V (uV V 53 0 x) q := eT_v fun f k h => ev _ _ (by omega)
  have K : KX fA0 (E1 24 6) N S (st_pi S 24 6 x) := KX_pi (KX_rfl _ _ _ _) (E1_t _ _)
  have b18 := I.2.2.1.1.2
  have b21 := I.2.2.1.2.2.2.1.2
  obtain ⟨hN, hf, c1, c2, c3, c4, c5, c6, c7, c8, c9, c10, c11, c12, c13⟩ := C
  refine ⟨by omega, hf, gS_X c1 K hN (fun k => by rfl), gX_X c2 c1 K hN (fun k => by exact E1_f (by omega)) (fun f hf9 => by exact uV_n _ _ _ _ _ _ (by omega)), gO_X c3 K hN (fun k hk => by rfl), gT_X c4 K hN (by rfl) (by exact E1_f (by omega)) (fun k => by exact E1_f (by omega)) (by exact et _), gP_X c5 K hN (fun n k hn => by rfl) (fun n k g1 g2 => by exact E1_f (by omega)) (fun k hk => ⟨by exact uV_n _ _ _ _ _ _ (by omega), by exact uV_n _ _ _ _ _ _ (by omega)⟩), gV_Y I c6 K hN (Nat.le_refl _) (fun n k hn => by rfl) (fun n k hn => by exact E1_f (by omega)) (fun f k hf9 => by exact uV_n _ _ _ _ _ _ (by omega)) (fun q hq => by exact et _), gW_X c7 K hN (Nat.le_refl _) (fun n k hn => by rfl) (fun n k hn => by exact E1_f (by omega)) (by exact uV_n _ _ _ _ _ _ (by omega)) (fun j hj => ⟨by exact et _, by exact uV_n _ _ _ _ _ _ (by omega), by exact uV_n _ _ _ _ _ _ (by omega)⟩), gA_X c8 K hN (Nat.le_refl _) (fun n k hn => by rfl) (fun n k hn => by exact E1_f (by omega)) (by exact uV_n _ _ _ _ _ _ (by omega)) (fun j hj => ⟨by exact et _, by exact uV_n _ _ _ _ _ _ (by omega), by exact uV_n _ _ _ _ _ _ (by omega)⟩), gL_X c9 c1 K hN (fun n k hn => by rfl) (fun n k hn => by exact E1_f (by omega)) (fun f k hf9 => by exact uV_n _ _ _ _ _ _ (by omega)), gM_X c10 K hN (fun n k hn => by exact E1_f (by omega)) (fun f k hf9 hk9 => by exact uV_n _ _ _ _ _ _ (by omega)), gI1_X c11 K hN (fun n k hn => by rfl), ?_, gI3_X c13 c11 K hN (fun k => by rfl) (fun n k hn => by exact E1_f (by omega)) I.2.2.2.2.2.2.2.2.2.1.2 (fun f k hf9 => by exact uV_n _ _ _ _ _ _ (by omega))⟩
  obtain ⟨h1, h2, h3, h4, h5, h6, h7⟩ := c12
  have r : ∀ n k, ¬ (n = 24 ∧ k = 6) → st_i (st_pi S 24 6 x) n k = st_i S n k := fun n k a => st_i_pi_n _ _ _ _ _ _ a
  refine ⟨gMi_X h1 c11.2.1 K (by omega) (fun m j g1 g2 => E1_f (by omega)) (fun j _ => ev 50 _ (by omega)), (r _ _ (by omega)).trans (h2.trans (ev 56 _ (by omega)).symm), (r _ _ (by omega)).trans (h3.trans (ev 55 _ (by omega)).symm), (r _ _ (by omega)).trans (h4.trans (ev 54 _ (by omega)).symm), (r _ _ (by omega)).trans (h5.trans (ev 52 _ (by omega)).symm), (st_i_pi_s _ _ _ _).trans (uV_s _ _ _ _).symm, fun k hk => ?_⟩
  rw [ev 48 _ (by omega), ev 49 _ (by omega), r _ _ (by omega), r _ _ (by omega)]
  exact h7 k hk
theorem CR_26 {S : xm_S} {V : VV} {N p : Nat} {x : Int32} (hp : p < 6) (C : CR S V N) (I : Iv V) : CR (st_pi S 26 p x) (uV V 50 p x) N := by
  have ev : ∀ f k, f ≠ 50 → uV V 50 p x f k = V f k := fun f k h => uV_n _ _ _ _ _ _ (by omega)
  have et : ∀ q, eT V (uV V 50 p x) q := eT_v fun f k h => ev _ _ (by omega)
  have K : KX fA0 (E1 26 p) N S (st_pi S 26 p x) := KX_pi (KX_rfl _ _ _ _) (E1_t _ _)
  have m := CR_mc C
  have b18 := I.2.2.1.1.2
  have b21 := I.2.2.1.2.2.2.1.2
  obtain ⟨hN, hf, c1, c2, c3, c4, c5, c6, c7, c8, c9, c10, c11, c12, c13⟩ := C
  refine ⟨by omega, hf, gS_X c1 K hN (fun k => by rfl), gX_X c2 c1 K hN (fun k => by exact E1_f (by omega)) (fun f hf9 => by exact uV_n _ _ _ _ _ _ (by omega)), gO_X c3 K hN (fun k hk => by rfl), gT_X c4 K hN (by rfl) (by exact E1_f (by omega)) (fun k => by exact E1_f (by omega)) (by exact et _), gP_X c5 K hN (fun n k hn => by rfl) (fun n k g1 g2 => by exact E1_f (by omega)) (fun k hk => ⟨by exact uV_n _ _ _ _ _ _ (by omega), by exact uV_n _ _ _ _ _ _ (by omega)⟩), gV_Y I c6 K hN (Nat.le_refl _) (fun n k hn => by rfl) (fun n k hn => by exact E1_f (by omega)) (fun f k hf9 => by exact uV_n _ _ _ _ _ _ (by omega)) (fun q hq => by exact et _), gW_X c7 K hN (Nat.le_refl _) (fun n k hn => by rfl) (fun n k hn => by exact E1_f (by omega)) (by exact uV_n _ _ _ _ _ _ (by omega)) (fun j hj => ⟨by exact et _, by exact uV_n _ _ _ _ _ _ (by omega), by exact uV_n _ _ _ _ _ _ (by omega)⟩), gA_X c8 K hN (Nat.le_refl _) (fun n k hn => by rfl) (fun n k hn => by exact E1_f (by omega)) (by exact uV_n _ _ _ _ _ _ (by omega)) (fun j hj => ⟨by exact et _, by exact uV_n _ _ _ _ _ _ (by omega), by exact uV_n _ _ _ _ _ _ (by omega)⟩), gL_X c9 c1 K hN (fun n k hn => by rfl) (fun n k hn => by exact E1_f (by omega)) (fun f k hf9 => by exact uV_n _ _ _ _ _ _ (by omega)), gM_X c10 K hN (fun n k hn => by exact E1_f (by omega)) (fun f k hf9 hk9 => by exact uV_n _ _ _ _ _ _ (by omega)), gI1_X c11 K hN (fun n k hn => by rfl), ?_, gI3_X c13 c11 K hN (fun k => by rfl) (fun n k hn => by exact E1_f (by omega)) I.2.2.2.2.2.2.2.2.2.1.2 (fun f k hf9 => by exact uV_n _ _ _ _ _ _ (by omega))⟩
  obtain ⟨h1, h2, h3, h4, h5, h6, h7⟩ := c12
  have r : ∀ n k, ¬ (n = 26 ∧ k = p) → st_i (st_pi S 26 p x) n k = st_i S n k := fun n k a => st_i_pi_n _ _ _ _ _ _ a
  unfold gI2
  rw [ev 56 _ (by omega), ev 55 _ (by omega), ev 54 _ (by omega), ev 52 _ (by omega), ev 53 _ (by omega)]
  refine ⟨⟨fun q hq => ?_, fun i hi => ?_⟩, (r _ _ (by omega)).trans h2, (r _ _ (by omega)).trans h3, (r _ _ (by omega)).trans h4, (r _ _ (by omega)).trans h5, (r _ _ (by omega)).trans h6, fun k hk => ?_⟩
  · by_cases e : q = p
    · rw [e, Nat.zero_add, st_i_pi_s, uV_s]
    · rw [uV_n _ _ _ _ _ _ (by omega)]; exact (r _ _ (by omega)).trans (h1.1 q hq)
  · rw [Nat.zero_add, Nat.zero_add, Nat.zero_add, uV_n _ _ _ _ _ _ (by omega), uV_n _ _ _ _ _ _ (by omega), uV_n _ _ _ _ _ _ (by omega)]
    have w := m i hi
    exact ⟨(r _ _ (by omega)).trans w.1, (r _ _ (by omega)).trans w.2.1, (r _ _ (by omega)).trans w.2.2⟩
  · rw [ev 48 _ (by omega), ev 49 _ (by omega), r _ _ (by omega), r _ _ (by omega)]
    exact h7 k hk
/-- only the machine's cells are changed: what always holds -/
theorem Iv_50 {V V' : VV} (I : Iv V) (ev : ∀ f k, f ≠ 50 → f ≠ 52 → f ≠ 53 → V' f k = V f k) (h1 : ∀ k, k < 54 → Im V' 50 k 999) (h2 : ∀ k, k < 16 → (V' 50 (6 + k) = -1 ↔ V' 50 (22 + k) = -1) ∧ (V' 50 (6 + k) = -1 ↔ V' 50 (38 + k) = -1)) : Iv V' := by
  have et : ∀ q, eTs V V' q := fun q => ⟨ev _ _ (by omega) (by omega) (by omega), fun s hs => ev _ _ (by omega) (by omega) (by omega)⟩
  obtain ⟨g1, g2, g3, g4, g5, g6, g7, g8⟩ := I.2.2.2.2
  refine ⟨Iv1_e I.1 fun f k h => ev f k (by omega) (by omega) (by omega), Iv2_e I.1 I.2.1 (fun f k h => ev f k (by omega) (by omega) (by omega)) fun q hq _ => et q, Iv3_e I.2.2.1 (fun f k h => ev f k (by omega) (by omega) (by omega)) (fun q hq _ => et q) (fun q hq => VT_e (I.2.2.1.2.2.2.2.2.2 q hq) (et q)), Iv4_e I.2.2.2.1 fun f k h => ev f k (by omega) (by omega) (by omega), fun k hk => ⟨Im_e (g1 k hk).1 (ev _ _ (by omega) (by omega) (by omega)), In_e (g1 k hk).2 (ev _ _ (by omega) (by omega) (by omega))⟩, h1, h2, In_e g4 (ev _ _ (by omega) (by omega) (by omega)), Im_e g5 (ev _ _ (by omega) (by omega) (by omega)), In_e g6 (ev _ _ (by omega) (by omega) (by omega)), fun k hk => ?_, fun i j hi hj => ?_⟩
  · rw [vn_e (ev 56 _ (by omega) (by omega) (by omega))] at hk
    obtain ⟨a, b, c, d, f⟩ := g7 k hk
    refine ⟨In_e a (ev _ _ (by omega) (by omega) (by omega)), by rw [vn_e (ev 57 _ (by omega) (by omega) (by omega)), vn_e (ev 54 _ (by omega) (by omega) (by omega))]; exact b, In_e c (ev _ _ (by omega) (by omega) (by omega)), fun j hj => Im_e (d j hj) (ev _ _ (by omega) (by omega) (by omega)), fun j hj => ?_⟩
    rw [ev 59 _ (by omega) (by omega) (by omega), ev 59 _ (by omega) (by omega) (by omega), ev 59 _ (by omega) (by omega) (by omega)]
    exact f j hj
  · rw [vn_e (ev 56 _ (by omega) (by omega) (by omega))] at hj
    rw [vn_e (ev 57 _ (by omega) (by omega) (by omega)), vn_e (ev 57 _ (by omega) (by omega) (by omega))]
    exact g8 i j hi hj
theorem Iv_pt {V : VV} {j : Nat} {x y z : Int32} (I : Iv V) (hj : j < 16) (hx : x = -1 ∨ ∃ n, n ≤ 999 ∧ x = nI n) (hy : y = -1 ∨ ∃ n, n ≤ 999 ∧ y = nI n) (hz : z = -1 ∨ ∃ n, n ≤ 999 ∧ z = nI n) (h1 : x = -1 ↔ y = -1) (h2 : x = -1 ↔ z = -1) : Iv (ptV V j x y z) := by
  have nn := ptV_n (V := V) (j := j) (x := x) (y := y) (z := z)
  have A : ∀ k w, ptV V j x y z 50 k = w → (w = -1 ∨ ∃ n, n ≤ 999 ∧ w = nI n) → Im (ptV V j x y z) 50 k 999 := fun k w e h => by
    rcases h with h | ⟨n, l, h⟩
    · exact .inl (e.trans h)
    · exact .inr (In_nI (n := n) (e.trans h) l (by omega)).1
  refine Iv_50 I (fun f k h _ _ => ptV_f f k (.inl h)) (fun k hk => ?_) (fun k hk => ?_)
  · by_cases e1 : k = 6 + j
    · rw [e1]; exact A _ _ nn.1 hx
    · by_cases e2 : k = 22 + j
      · rw [e2]; exact A _ _ nn.2.1 hy
      · by_cases e3 : k = 38 + j
        · rw [e3]; exact A _ _ nn.2.2 hz
        · exact Im_e (I.2.2.2.2.2.1 k hk) (ptV_f _ _ (.inr ⟨e1, e2, e3⟩))
  · by_cases e : k = j
    · rw [e, nn.1, nn.2.1, nn.2.2]; exact ⟨h1, h2⟩
    · rw [ptV_f _ _ (by omega), ptV_f _ _ (by omega), ptV_f _ _ (by omega)]
      exact I.2.2.2.2.2.2.1 k hk
-- strays
def stc (V : VV) (T : Nat → Bool) : Nat → Nat
  | 0 => 0
  | k + 1 => stc V T k + (if V 50 (6 + k) ≠ -1 ∧ T k = false then 1 else 0)
theorem stc_b {V : VV} {T : Nat → Bool} : ∀ k, stc V T k ≤ k := by
  intro k
  induction k with
  | zero => exact Nat.le_refl _
  | succ k ih => unfold stc; split <;> omega
theorem c_isStray {S : xm_S} {V W : VV} {N k : Nat} {b : Bool} {g : Int32 → xm_S → Prop} (R : RR S V W N) (hk : k < 16) (t : st_i S 33 k = bI b) (h1 : V 50 (6 + k) ≠ -1 ∧ b = false → g 1 S) (h0 : ¬ (V 50 (6 + k) ≠ -1 ∧ b = false) → g 0 S) : wp_X2_isStray 24 (nI k) S g := by
  have s := gS_24 R.1.2.2.1
  have i1 := CR_gI1 R.1
  have m := CR_mc R.1 k hk
  obtain ⟨t0, r1, t1, r2, t2, r3, t3, r4, t4⟩ := i1.2.1
  unfold wp_X2_isStray wp_X2_isStray_26 wp_X2_isStray_27
  rw [nI_clamp (show k < 2 ^ 31 by omega)]
  refine ⟨s.2, 25, i1.1, t0, 27, r2, _, t2, vp_in_nI hk (by decide), ?_⟩
  rw [m.1]
  refine ⟨fun e => ⟨.inl rfl, h0 fun hh => hh.1 e⟩, fun e => ⟨33, i1.2.2.2.2.2.2.2.2.1, _, i1.2.2.2.2.2.2.2.2.2.1, vp_in_nI hk (by decide), ?_⟩⟩
  rw [t]
  exact bI_c' (fun q => ⟨.inl rfl, h0 fun hh => by rw [q] at hh; cases hh.2⟩) (fun q => ⟨.inr rfl, h1 ⟨e, q⟩⟩)
theorem c_count {S : xm_S} {V W : VV} {N : Nat} {T : Nat → Bool} {g : Int32 → xm_S → Prop} (R : RR S V W N) (t : ∀ j, j < 16 → st_i S 33 j = bI (T j)) (h : g (nI (stc V T 16)) S) : wp_X2_countStrays 24 S g := by
  have s := gS_24 R.1.2.2.1
  unfold wp_X2_countStrays wp_X2_countStrays_4
  intro Z hZ
  have H : ∀ d k, k + d = 16 → Z (nI (stc V T k)) (nI k) S := by
    intro d
    induction d with
    | zero =>
      intro k hk
      refine hZ _ _ _ ?_
      unfold wp_X2_countStrays_4B
      rw [show k = 16 by omega]
      exact ⟨fun _ => h, fun e => absurd (nI_le (Nat.le_refl 16) (by decide)) e⟩
    | succ d ih =>
      intro k hk
      have ih := ih (k + 1) (by omega)
      rw [show stc V T (k + 1) = stc V T k + (if V 50 (6 + k) ≠ -1 ∧ T k = false then 1 else 0) from rfl] at ih
      refine hZ _ _ _ ?_
      unfold wp_X2_countStrays_4B wp_X2_countStrays_24
      refine ⟨fun e => absurd e (nI_ge (show k < 16 by omega) (by decide)), fun _ => ⟨s.2, c_isStray R (by omega) (t k (by omega)) (fun e => ⟨fun q => absurd q (by decide), fun _ y1 e1 y3 e3 => ?_⟩) (fun e => ⟨fun _ y1 e1 y3 e3 => ?_, fun q => absurd rfl q⟩)⟩⟩
      · rw [if_pos e] at ih; rw [e1, e3, nI_1, nI_1]; exact ih
      · rw [if_neg e] at ih; rw [e1, e3, nI_1, Int32.add_zero]; exact ih
  exact H 16 0 rfl
def clv (V : VV) (T : Nat → Bool) (c : Nat) : VV := fun f k => if f = 50 ∧ 6 ≤ k ∧ k < 54 ∧ (k - 6) % 16 < c ∧ T ((k - 6) % 16) = false then -1 else V f k
theorem clv_0 {V : VV} {T : Nat → Bool} : clv V T 0 = V := by
  funext f k
  unfold clv
  rw [if_neg (by omega)]
theorem clv_f {V : VV} {T : Nat → Bool} {c : Nat} (f k : Nat) (h : f ≠ 50 ∨ k < 6 ∨ c ≤ (k - 6) % 16) : clv V T c f k = V f k := if_neg (by omega)
theorem clv_k {V : VV} {T : Nat → Bool} {c j a : Nat} (hj : j < 16) (ha : a = 6 + j ∨ a = 22 + j ∨ a = 38 + j) : clv V T c 50 a = if j < c ∧ T j = false then -1 else V 50 a := by
  unfold clv
  rw [show (a - 6) % 16 = j by omega]
  by_cases e : j < c ∧ T j = false
  · rw [if_pos e, if_pos ⟨rfl, by omega, by omega, e.1, e.2⟩]
  · rw [if_neg e, if_neg (fun hh => e ⟨hh.2.2.2.1, hh.2.2.2.2⟩)]
theorem clv_t {V : VV} {T : Nat → Bool} {c : Nat} (h : T c = true) : clv V T (c + 1) = clv V T c := by
  funext f k
  unfold clv
  by_cases e : f = 50 ∧ 6 ≤ k ∧ k < 54 ∧ (k - 6) % 16 < c ∧ T ((k - 6) % 16) = false
  · rw [if_pos e, if_pos ⟨e.1, e.2.1, e.2.2.1, by omega, e.2.2.2.2⟩]
  · rw [if_neg e, if_neg (fun hh => e ⟨hh.1, hh.2.1, hh.2.2.1, by
      have : (k - 6) % 16 ≠ c := fun q => by have := hh.2.2.2.2; rw [q, h] at this; cases this
      omega, hh.2.2.2.2⟩)]
theorem clv_s {V : VV} {T : Nat → Bool} {c : Nat} (hc : c < 16) (h : T c = false) : ptV (clv V T c) c (-1) (-1) (-1) = clv V T (c + 1) := by
  funext f k
  by_cases e : f = 50 ∧ (k = 6 + c ∨ k = 22 + c ∨ k = 38 + c)
  · obtain ⟨e1, e2⟩ := e
    subst e1
    have nn := ptV_n (V := clv V T c) (j := c) (x := -1) (y := -1) (z := -1)
    rw [clv_k hc e2, if_pos ⟨by omega, h⟩]
    rcases e2 with e2 | e2 | e2
    · rw [e2]; exact nn.1
    · rw [e2]; exact nn.2.1
    · rw [e2]; exact nn.2.2
  · rw [ptV_f _ _ (by omega)]
    unfold clv
    by_cases e3 : f = 50 ∧ 6 ≤ k ∧ k < 54 ∧ (k - 6) % 16 < c ∧ T ((k - 6) % 16) = false
    · rw [if_pos e3, if_pos ⟨e3.1, e3.2.1, e3.2.2.1, by omega, e3.2.2.2.2⟩]
    · rw [if_neg e3, if_neg (fun hh => e3 ⟨hh.1, hh.2.1, hh.2.2.1, by omega, hh.2.2.2.2⟩)]
theorem clv_e {V : VV} {T : Nat → Bool} {c : Nat} (I : Iv V) (hc : c < 16) (h : V 50 (6 + c) = -1) : clv V T (c + 1) = clv V T c := by
  funext f k
  unfold clv
  have g := I.2.2.2.2.2.2.1 c hc
  by_cases e : f = 50 ∧ 6 ≤ k ∧ k < 54 ∧ (k - 6) % 16 < c ∧ T ((k - 6) % 16) = false
  · rw [if_pos e, if_pos ⟨e.1, e.2.1, e.2.2.1, by omega, e.2.2.2.2⟩]
  · rw [if_neg e]
    by_cases e2 : f = 50 ∧ 6 ≤ k ∧ k < 54 ∧ (k - 6) % 16 < c + 1 ∧ T ((k - 6) % 16) = false
    · rw [if_pos e2]
      have q : (k - 6) % 16 = c := by
        rcases Nat.lt_or_ge ((k - 6) % 16) c with q | q
        · exact absurd ⟨e2.1, e2.2.1, e2.2.2.1, q, e2.2.2.2.2⟩ e
        · omega
      have q2 : k = 6 + c ∨ k = 22 + c ∨ k = 38 + c := by omega
      rw [e2.1]
      rcases q2 with q2 | q2 | q2
      · rw [q2, h]
      · rw [q2, g.1.mp h]
      · rw [q2, g.2.mp h]
    · rw [if_neg e2]
theorem Iv_cl {V : VV} {T : Nat → Bool} {c : Nat} (I : Iv V) : Iv (clv V T c) := by
  refine Iv_50 I (fun f k h _ _ => clv_f f k (.inl h)) (fun k hk => ?_) (fun k hk => ?_)
  · by_cases e : 6 ≤ k ∧ (k - 6) % 16 < c ∧ T ((k - 6) % 16) = false
    · refine .inl (if_pos ⟨rfl, e.1, hk, e.2.1, e.2.2⟩)
    · refine Im_e (I.2.2.2.2.2.1 k hk) (if_neg (fun hh => e ⟨hh.2.1, hh.2.2.2.1, hh.2.2.2.2⟩))
  · rw [clv_k hk (.inl rfl), clv_k hk (.inr (.inl rfl)), clv_k hk (.inr (.inr rfl))]
    by_cases e : k < c ∧ T k = false
    · rw [if_pos e, if_pos e, if_pos e]; exact ⟨Iff.rfl, Iff.rfl⟩
    · rw [if_neg e, if_neg e, if_neg e]; exact I.2.2.2.2.2.2.1 k hk
theorem c_clear {S : xm_S} {V W : VV} {N : Nat} {T : Nat → Bool} {g : xm_S → Prop} (R : RR S V W N) (I : Iv V) (t : ∀ j, j < 16 → st_i S 33 j = bI (T j)) (h : ∀ S', RR S' (clv V T 16) W N → g S') : wp_X2_clearStrays 24 S g := by
  unfold wp_X2_clearStrays wp_X2_clearStrays_2
  intro Z hZ
  have H : ∀ d k S1, k + d = 16 → RR S1 (clv V T k) W N → (∀ j, j < 16 → st_i S1 33 j = bI (T j)) → Z (nI k) S1 := by
    intro d
    induction d with
    | zero =>
      intro k S1 hk R1 t1
      refine hZ _ _ ?_
      unfold wp_X2_clearStrays_2B
      rw [show k = 16 by omega] at R1 ⊢
      exact ⟨fun _ => h S1 R1, fun e => absurd (nI_le (Nat.le_refl 16) (by decide)) e⟩
    | succ d ih =>
      intro k S1 hk R1 t1
      have s := gS_24 R1.1.2.2.1
      have i1 := CR_gI1 R1.1
      have e50 : clv V T k 50 (6 + k) = V 50 (6 + k) := clv_f _ _ (by omega)
      refine hZ _ _ ?_
      unfold wp_X2_clearStrays_2B wp_X2_clearStrays_27
      refine ⟨fun e => absurd e (nI_ge (show k < 16 by omega) (by decide)), fun _ => ⟨s.2, c_isStray R1 (by omega) (t1 k (by omega)) (fun e => ⟨fun q => absurd q (by decide), fun _ => ⟨s.2, 25, i1.1, i1.2.1.1, c_put i1.2.1 (by omega) fun y ey => ?_⟩⟩) (fun e => ⟨fun _ y ey => ?_, fun q => absurd rfl q⟩)⟩⟩
      · rw [ey, nI_1]
        refine ih (k + 1) _ (by omega) ?_ (fun j hj => by rw [st_i_pi_n _ _ _ _ _ _ (by omega), st_i_pi_n _ _ _ _ _ _ (by omega), st_i_pi_n _ _ _ _ _ _ (by omega)]; exact t1 j hj)
        rw [← clv_s (by omega) e.2]
        exact ⟨CR_put (by omega) R1.1 (Iv_cl I), MR_K R1.2.1 (KM_pi (KM_pi (KM_pi (KM_rfl _) (by omega)) (by omega)) (by omega)), R1.2.2⟩
      · rw [ey, nI_1]
        refine ih (k + 1) S1 (by omega) ?_ t1
        rw [e50] at e
        by_cases b : T k = true
        · rw [clv_t b]; exact R1
        · have b' : T k = false := by cases hb : T k; rfl; exact absurd hb b
          rw [clv_e I (by omega) (Classical.byContradiction fun hh => e ⟨hh, b'⟩)]; exact R1
  exact H 16 0 S rfl (by rw [clv_0]; exact R) t
-- one file
def sy (V : VV) (p n : Nat) : Bool := decide (V 47 n ≠ 0) && (decide (V 50 (22 + tg V p (vn V 45 n)) = nI p) && decide (V 50 (6 + tg V p (vn V 45 n)) ≠ V 50 (38 + tg V p (vn V 45 n))))
def asV (V : VV) (p n : Nat) : VV := if sy V p n = true ∧ V 50 (38 + tg V p (vn V 45 n)) ≠ V 46 n then uV V 53 0 (V 53 0 + 1) else V
def lyV (V : VV) (p n : Nat) : VV := ptV (asV V p n) (tg V p (vn V 45 n)) (if sy V p n then V 50 (6 + tg V p (vn V 45 n)) else V 46 n) (nI p) (V 46 n)
theorem asV_f {V : VV} {p n : Nat} (f k : Nat) (h : f ≠ 53) : asV V p n f k = V f k := by
  unfold asV
  split
  · exact uV_n _ _ _ _ _ _ (by omega)
  · rfl
theorem lyV_f {V : VV} {p n : Nat} (f k : Nat) (h : f ≠ 50) (h2 : f ≠ 53) : lyV V p n f k = V f k := (ptV_f _ _ (.inl h)).trans (asV_f _ _ h2)
theorem Iv_as {V : VV} {p n : Nat} (I : Iv V) : Iv (asV V p n) := Iv_free I fun f k _ _ h => asV_f f k h
theorem Iv_ly {V : VV} {p n : Nat} (I : Iv V) (hp : p < 6) (hn : n < 72) : Iv (lyV V p n) := by
  have q := I.2.2.2.1.2.2.2.2.2.2.2 n hn
  have q5 := q.2.1.2
  have q6 := q.2.2.1
  have q62 := q6.2
  have tb := tg_b (p := p) I (show vn V 45 n < 16 by omega)
  have g3 := I.2.2.2.2.2.2.1 _ tb
  have m6 : V 46 n ≠ -1 := by rw [q6.1]; exact nI_m1 (by omega)
  have mp : nI p ≠ -1 := nI_m1 (by omega)
  have h0 : sy V p n = true → V 50 (6 + tg V p (vn V 45 n)) ≠ -1 := fun hs hh => by
    unfold sy at hs
    rw [Bool.and_eq_true, Bool.and_eq_true] at hs
    have := g3.1.mp hh
    rw [of_decide_eq_true hs.2.1] at this
    exact mp this
  unfold lyV
  refine Iv_pt (Iv_as I) tb ?_ (.inr ⟨p, by omega, rfl⟩) (.inr ⟨vn V 46 n, q62, q6.1⟩) ?_ ?_
  · by_cases hs : sy V p n = true
    · rw [if_pos hs]
      rcases I.2.2.2.2.2.1 (6 + tg V p (vn V 45 n)) (by omega) with e | e
      · exact .inl e
      · exact .inr ⟨_, e.2, e.1⟩
    · rw [if_neg hs]; exact .inr ⟨_, q62, q6.1⟩
  · by_cases hs : sy V p n = true
    · rw [if_pos hs]; exact ⟨fun e => absurd e (h0 hs), fun e => absurd e mp⟩
    · rw [if_neg hs]; exact ⟨fun e => absurd e m6, fun e => absurd e mp⟩
  · by_cases hs : sy V p n = true
    · rw [if_pos hs]; exact ⟨fun e => absurd e (h0 hs), fun e => absurd e m6⟩
    · rw [if_neg hs]
