-- what always holds, when the tape alone is changed; the law's cases of wipe and fault
def eTs (V V' : VV) (q : Nat) : Prop := V' 25 q = V 25 q ∧ ∀ s, s < 40 → V' 24 (40 * q + s) = V 24 (40 * q + s)
theorem eTs_T {V V' : VV} {q : Nat} (h : VT V q) (e : eTs V V' q) : eT V V' q := by
  have e1 : tL V' q = tL V q := vn_e e.1
  have hL := h.2.1.1
  refine ⟨e1, fun s => ?_⟩
  unfold tT
  rw [e1]
  split
  · rw [vn_e (e.2 s (by omega))]
  · rfl
theorem VT_e {V V' : VV} {q : Nat} (h : VT V q) (e : eTs V V' q) : VT V' q := by
  have t := eTs_T h e
  have hL := h.2.1.1
  unfold VT
  rw [t.1, eT_T t, e.1]
  exact ⟨h.1, h.2.1, fun s hs => by rw [e.2 s (by omega)]; exact h.2.2 s hs⟩
theorem VR_e {V V' : VV} {q : Nat} (h : VR V q) (e : eTs V V' q) : VR V' q := by
  have t := eTs_T h.1 e
  refine ⟨VT_e h.1 e, ?_⟩
  rw [t.1, eT_T t]
  exact h.2
theorem In_e {V V' : VV} {f k b : Nat} (h : In V f k b) (e : V' f k = V f k) : In V' f k b := by
  unfold In
  rw [vn_e e, e]
  exact h
theorem Im_e {V V' : VV} {f k b : Nat} (h : Im V f k b) (e : V' f k = V f k) : Im V' f k b := by
  rcases h with h | h
  · exact .inl (e.trans h)
  · exact .inr (In_e h e)
theorem Iv1_e {V V' : VV} (h : Iv1 V) (e : ∀ f k, (1 ≤ f ∧ f ≤ 8 ∨ f = 13 ∨ f = 15 ∨ f = 40 ∨ f = 42 ∨ f = 44) → V' f k = V f k) : Iv1 V' := by
  obtain ⟨h1, h2, h3, h4⟩ := h
  refine ⟨fun p hp => ⟨In_e (h1 p hp).1 (e _ _ (by omega)), In_e (h1 p hp).2 (e _ _ (by omega))⟩, fun a ha => ?_, fun a ha => ?_, fun a ha hu => ?_⟩
  · obtain ⟨g1, g2, g3, g4, g5, g6⟩ := h2 a ha
    exact ⟨In_e g1 (e _ _ (by omega)), In_e g2 (e _ _ (by omega)), In_e g3 (e _ _ (by omega)), In_e g4 (e _ _ (by omega)), In_e g5 (e _ _ (by omega)), In_e g6 (e _ _ (by omega))⟩
  · obtain ⟨g1, g2, g3, g4⟩ := h3 a ha
    exact ⟨In_e g1 (e _ _ (by omega)), In_e g2 (e _ _ (by omega)), In_e g3 (e _ _ (by omega)), In_e g4 (e _ _ (by omega))⟩
  · have hu' : ¬ used V a := by unfold used at hu ⊢; rw [vn_e (e 2 _ (by omega))] at hu; exact hu
    obtain ⟨q1, q2, q3, q4, q5, q6, q7⟩ := h4 a ha hu'
    rw [vn_e (e 8 _ (by omega)), vn_e (e 13 _ (by omega)), vn_e (e 15 _ (by omega)), vn_e (e 44 _ (by omega)), e 7 _ (by omega), e 42 _ (by omega)]
    exact ⟨q1, q2, q3, q4, q5, q6, fun j hj => by rw [e 40 _ (by omega)]; exact q7 j hj⟩
theorem Iv2_e {V V' : VV} (h1 : Iv1 V) (h : Iv2 V) (e : ∀ f k, (8 ≤ f ∧ f ≤ 17) → V' f k = V f k) (et : ∀ q, q < 144 → VR V q → eTs V V' q) : Iv2 V' := by
  obtain ⟨g1, g2, g3⟩ := h
  refine ⟨fun k hk => ?_, fun k hk => ?_, fun a ha => ?_⟩
  · obtain ⟨a, b, c, d⟩ := g1 k hk
    exact ⟨In_e a (e _ _ (by omega)), In_e b (e _ _ (by omega)), In_e c (e _ _ (by omega)), Im_e d (e _ _ (by omega))⟩
  · obtain ⟨a, b, c⟩ := g2 k hk
    exact ⟨In_e a (e _ _ (by omega)), In_e b (e _ _ (by omega)), In_e c (e _ _ (by omega))⟩
  · obtain ⟨a1, a2, a3⟩ := g3 a ha
    have b8 := (h1.2.2.1 a ha).1.2
    have b13 := (h1.2.2.1 a ha).2.1.2
    rw [vn_e (e 8 _ (by omega)), vn_e (e 13 _ (by omega)), vn_e (e 15 _ (by omega))]
    refine ⟨fun j hj => VR_e (a1 j hj) (et _ (by omega) (a1 j hj)), fun j hj => ⟨VR_e (a2 j hj).1 (et _ (by omega) (a2 j hj).1), ?_⟩, fun j hj => ?_⟩
    · rw [vn_e (e 14 _ (by omega))]; exact (a2 j hj).2
    · rw [vn_e (e 16 _ (by omega))]; exact a3 j hj
theorem Iv3_e {V V' : VV} (h : Iv3 V) (e : ∀ f k, (18 ≤ f ∧ f ≤ 23) → V' f k = V f k) (et : ∀ q, q < 154 → VR V q → eTs V V' q) (ht : ∀ q, q < 155 → VT V' q) : Iv3 V' := by
  obtain ⟨g1, g2, g3, g4, g5, g6, g7⟩ := h
  have b1 := g1.2
  have b4 := g4.2
  refine ⟨In_e g1 (e _ _ (by omega)), fun k hk => ⟨In_e (g2 k hk).1 (e _ _ (by omega)), In_e (g2 k hk).2 (e _ _ (by omega))⟩, fun k hk => ?_, In_e g4 (e _ _ (by omega)), fun k hk => ⟨In_e (g5 k hk).1 (e _ _ (by omega)), In_e (g5 k hk).2 (e _ _ (by omega))⟩, fun k hk => ?_, ht⟩
  · rw [vn_e (e 18 _ (by omega))] at hk
    exact VR_e (g3 k hk) (et _ (by omega) (g3 k hk))
  · rw [vn_e (e 21 _ (by omega))] at hk
    exact VR_e (g6 k hk) (et _ (by omega) (g6 k hk))
theorem vLk_e {V V' : VV} {f k : Nat} (h : vLk V f k) (e : V' f k = V f k) (e2 : V' 2 (k % 6) = V 2 (k % 6)) : vLk V' f k := by
  unfold vLk
  rw [vn_e e, e, vn_e e2]
  exact h
theorem Iv4_e {V V' : VV} (h : Iv4 V) (e : ∀ f k, (f = 2 ∨ 26 ≤ f ∧ f ≤ 29 ∨ 36 ≤ f ∧ f ≤ 41 ∨ 45 ≤ f ∧ f ≤ 47) → V' f k = V f k) : Iv4 V' := by
  obtain ⟨g1, g2, g3, g4, g5, g6, g7, g8⟩ := h
  refine ⟨In_e g1 (e _ _ (by omega)), fun k hk => ⟨vLk_e (g2 k hk).1 (e _ _ (by omega)) (e _ _ (by omega)), vLk_e (g2 k hk).2 (e _ _ (by omega)) (e _ _ (by omega))⟩, fun k hk => ⟨In_e (g3 k hk).1 (e _ _ (by omega)), In_e (g3 k hk).2 (e _ _ (by omega))⟩, In_e g4 (e _ _ (by omega)), In_e g5 (e _ _ (by omega)), In_e g6 (e _ _ (by omega)), In_e g7 (e _ _ (by omega)), fun k hk => ?_⟩
  obtain ⟨a, b, c, d⟩ := g8 k hk
  exact ⟨Im_e a (e _ _ (by omega)), In_e b (e _ _ (by omega)), In_e c (e _ _ (by omega)), In_e d (e _ _ (by omega))⟩
theorem Iv5_e {V V' : VV} (h : Iv5 V) (e : ∀ f k, (48 ≤ f ∧ f ≤ 51 ∨ 54 ≤ f ∧ f ≤ 59) → V' f k = V f k) : Iv5 V' := by
  obtain ⟨g1, g2, g3, g4, g5, g6, g7, g8⟩ := h
  refine ⟨fun k hk => ⟨Im_e (g1 k hk).1 (e _ _ (by omega)), In_e (g1 k hk).2 (e _ _ (by omega))⟩, fun k hk => Im_e (g2 k hk) (e _ _ (by omega)), fun k hk => ?_, In_e g4 (e _ _ (by omega)), Im_e g5 (e _ _ (by omega)), In_e g6 (e _ _ (by omega)), fun k hk => ?_, fun i j hi hj => ?_⟩
  · rw [e 50 _ (by omega), e 50 _ (by omega), e 50 _ (by omega)]; exact g3 k hk
  · rw [vn_e (e 56 _ (by omega))] at hk
    obtain ⟨a, b, c, d, f⟩ := g7 k hk
    refine ⟨In_e a (e _ _ (by omega)), by rw [vn_e (e 57 _ (by omega)), vn_e (e 54 _ (by omega))]; exact b, In_e c (e _ _ (by omega)), fun j hj => Im_e (d j hj) (e _ _ (by omega)), fun j hj => ?_⟩
    rw [e 59 _ (by omega), e 59 _ (by omega), e 59 _ (by omega)]
    exact f j hj
  · rw [vn_e (e 56 _ (by omega))] at hj
    rw [vn_e (e 57 _ (by omega)), vn_e (e 57 _ (by omega))]
    exact g8 i j hi hj
theorem Iv_w {V : VV} (I : Iv V) : Iv (uV V 25 154 0) := by
  have e : ∀ f k, f ≠ 25 → uV V 25 154 0 f k = V f k := fun f k h => uV_n _ _ _ _ _ _ (by omega)
  have et : ∀ q, q < 154 → eTs V (uV V 25 154 0) q := fun q hq => ⟨uV_n _ _ _ _ _ _ (by omega), fun s hs => e _ _ (by omega)⟩
  refine ⟨Iv1_e I.1 fun f k h => e f k (by omega), Iv2_e I.1 I.2.1 (fun f k h => e f k (by omega)) fun q hq _ => et q (by omega), Iv3_e I.2.2.1 (fun f k h => e f k (by omega)) (fun q hq _ => et q hq) (fun q hq => ?_), Iv4_e I.2.2.2.1 fun f k h => e f k (by omega), Iv5_e I.2.2.2.2 fun f k h => e f k (by omega)⟩
  by_cases h : q < 154
  · exact VT_e (I.2.2.1.2.2.2.2.2.2 q hq) (et q h)
  · have hq : q = 154 := by omega
    subst hq
    have tl : tL (uV V 25 154 0) 154 = 0 := vn_s (n := 0) (by decide)
    unfold VT
    rw [tT_0 tl, tl]
    exact ⟨uV_s _ _ _ _, TX_0, fun s hs => absurd hs (Nat.not_lt_zero s)⟩
/-- what the machine of generations makes in one call: at most one -/
theorem md {V V' : VV} {m : Nat} (e : V' 54 0 = V 54 0) (h : vn V 54 0 ≤ m) : vn V' 54 0 ≤ m + 1 := by rw [vn_e e]; omega
/-- a case of the law leads to the next call -/
def NX (m b len : Nat) (xs : Nat → Int32) (x4 : Int32) (kc ks : Nat) (g : Int32 → xm_S → Prop) (Z : Option Nat → Option Nat → Option Nat → Int32 → xm_S → Nat → Nat → Prop) : Prop := kc + 1000 ≤ 601024 ∧ ks + 10000 ≤ 7293034 ∧ ∀ S' V' N' kc' ks', RR S' V' V' N' → Iv V' → vn V' 54 0 ≤ m + 1 → kc' ≤ kc + 1000 → ks' ≤ ks + 10000 → wp_L_law_2965 b len xs (some 1) (some 1000) (some 1200) x4 S' kc' ks' g Z
theorem lc_wipe {m b len kc ks N : Nat} {xs : Nat → Int32} {x4 : Int32} {S : xm_S} {V : VV} {g : Int32 → xm_S → Prop} {Z : Option Nat → Option Nat → Option Nat → Int32 → xm_S → Nat → Nat → Prop} (R : RR S V V N) (I : Iv V) (hm : vn V 54 0 ≤ m) (nx : NX m b len xs x4 kc ks g Z) : wp_L_law_328 b len xs (some 1) (some 1000) (some 1200) x4 S kc ks g Z := by
  obtain ⟨k1, k2, nx⟩ := nx
  unfold wp_L_law_328
  refine ⟨1, rfl, R.1.2.2.1.1, by omega, by omega, cl_wipe R I fun S1 R1 => ⟨1000, rfl, R1.2.1.1.1, by omega, by omega, ml_wipe R1 (Iv_w I) fun S2 R2 => ⟨fun _ => nx _ _ _ _ _ R2 (Iv_w I) (md (uV_n _ _ _ _ _ _ (by omega)) hm) (by omega) (by omega), fun e => absurd rfl e⟩⟩⟩
theorem lc_fault {m b len kc ks N : Nat} {xs : Nat → Int32} {x4 : Int32} {S : xm_S} {V : VV} {g : Int32 → xm_S → Prop} {Z : Option Nat → Option Nat → Option Nat → Int32 → xm_S → Nat → Nat → Prop} (R : RR S V V N) (I : Iv V) (hm : vn V 54 0 ≤ m) (nx : NX m b len xs x4 kc ks g Z) : wp_L_law_341 b len xs (some 1) (some 1000) (some 1200) x4 S kc ks g Z := by
  obtain ⟨k1, k2, nx⟩ := nx
  unfold wp_L_law_341
  refine ⟨1, rfl, R.1.2.2.1.1, by omega, by omega, cl_fault R I fun S1 N1 R1 => ⟨1000, rfl, R1.2.1.1.1, by omega, by omega, ml_fault R1 I (I.2.2.1.2.2.2.2.2.2 154 (by decide)) fun S2 R2 => ⟨fun _ => nx _ _ _ _ _ R2 I (md rfl hm) (by omega) (by omega), fun e => absurd rfl e⟩⟩⟩
