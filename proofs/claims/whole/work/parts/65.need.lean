-- need: the new state, what always holds of it, the class's memory
def vN1 (V : VV) (n : Nat) (pk ft pf ow : Int32) : VV := uV (uV (uV (uV V 9 n pk) 10 n ft) 11 n pf) 12 n ow
def vN (V : VV) (a c : Nat) (pk ft pf ow : Int32) : VV := uV (kpV (vN1 V (4 * a + c) pk ft pf ow) (4 * a + c)) 8 a (nI (c + 1))
theorem vN1_f {V : VV} {n : Nat} {pk ft pf ow : Int32} (f k : Nat) (h : f < 9 ∨ 12 < f ∨ k ≠ n) : vN1 V n pk ft pf ow f k = V f k := (uV_n _ _ _ _ _ _ (by omega)).trans ((uV_n _ _ _ _ _ _ (by omega)).trans ((uV_n _ _ _ _ _ _ (by omega)).trans (uV_n _ _ _ _ _ _ (by omega))))
theorem vN_f {V : VV} {a c : Nat} {pk ft pf ow : Int32} (f k : Nat) (h1 : f ≠ 24) (h2 : f ≠ 25) (h3 : f ≠ 8) (h : f < 9 ∨ 12 < f ∨ k ≠ 4 * a + c) : vN V a c pk ft pf ow f k = V f k := (uV_n _ _ _ _ _ _ (by omega)).trans ((kp_ev f k h1 h2).trans (vN1_f f k h))
theorem vN_8 {V : VV} {a c : Nat} {pk ft pf ow : Int32} (k : Nat) (h : k ≠ a) : vN V a c pk ft pf ow 8 k = V 8 k := (uV_n _ _ _ _ _ _ (by omega)).trans ((kp_ev 8 k (by decide) (by decide)).trans (vN1_f 8 k (by omega)))
theorem vN_8a {V : VV} {a c : Nat} {pk ft pf ow : Int32} (hc : c < 4) : vN V a c pk ft pf ow 8 a = nI (c + 1) ∧ vn (vN V a c pk ft pf ow) 8 a = c + 1 := ⟨uV_s _ _ _ _, vn_s (n := c + 1) (by omega)⟩
theorem vN_n {V : VV} {a c : Nat} {pk ft pf ow : Int32} : vN V a c pk ft pf ow 9 (4 * a + c) = pk ∧ vN V a c pk ft pf ow 10 (4 * a + c) = ft ∧ vN V a c pk ft pf ow 11 (4 * a + c) = pf ∧ vN V a c pk ft pf ow 12 (4 * a + c) = ow := by
  refine ⟨?_, ?_, ?_, ?_⟩
  · exact (uV_n _ _ _ _ _ _ (by omega)).trans ((kp_ev 9 _ (by decide) (by decide)).trans ((uV_n _ _ _ _ _ _ (by omega)).trans ((uV_n _ _ _ _ _ _ (by omega)).trans ((uV_n _ _ _ _ _ _ (by omega)).trans (uV_s _ _ _ _)))))
  · exact (uV_n _ _ _ _ _ _ (by omega)).trans ((kp_ev 10 _ (by decide) (by decide)).trans ((uV_n _ _ _ _ _ _ (by omega)).trans ((uV_n _ _ _ _ _ _ (by omega)).trans (uV_s _ _ _ _))))
  · exact (uV_n _ _ _ _ _ _ (by omega)).trans ((kp_ev 11 _ (by decide) (by decide)).trans ((uV_n _ _ _ _ _ _ (by omega)).trans (uV_s _ _ _ _)))
  · exact (uV_n _ _ _ _ _ _ (by omega)).trans ((kp_ev 12 _ (by decide) (by decide)).trans (uV_s _ _ _ _))
theorem vN_KP {V : VV} {a c : Nat} {pk ft pf ow : Int32} (hn : 4 * a + c < 96) : KP V (vN V a c pk ft pf ow) (4 * a + c) := fun f k h => (uV_n _ _ _ _ _ _ (by omega)).trans (kp_cong (by omega) (fun f k h => vN1_f f k (by omega)) f k h)
theorem Iv_vN {V : VV} {a c : Nat} {pk ft pf ow : Int32} (I : Iv V) (ha : a < 24) (u : used V a) (hc : vn V 8 a = c) (c4 : c < 4) (ok : okT V = true) (h9 : ∃ n, n ≤ 5 ∧ pk = nI n) (h10 : ∃ n, n ≤ 15 ∧ ft = nI n) (h11 : ∃ n, n ≤ 7 ∧ pf = nI n) (h12 : ow = -1 ∨ ∃ n, n ≤ 15 ∧ ow = nI n) : Iv (vN V a c pk ft pf ow) := by
  have hA := I.2.2.1.2.2.2.2.2.2
  have h40 := (hA 154 (by decide)).2.1.1
  have kp : KP V (vN V a c pk ft pf ow) (4 * a + c) := vN_KP (by omega)
  have ev : ∀ f k, (f < 8 ∨ 12 < f) → f ≠ 24 → f ≠ 25 → vN V a c pk ft pf ow f k = V f k := fun f k h h1 h2 => vN_f f k h1 h2 (by omega) (by omega)
  have eo : ∀ q, q < 154 → q ≠ 4 * a + c → eTs V (vN V a c pk ft pf ow) q := fun q hq hne => KP_o kp h40 hq hne
  obtain ⟨n9, n10, n11, n12⟩ := vN_n (V := V) (a := a) (c := c) (pk := pk) (ft := ft) (pf := pf) (ow := ow)
  have n8 := vN_8a (V := V) (a := a) (pk := pk) (ft := ft) (pf := pf) (ow := ow) c4
  refine ⟨?_, ?_, Iv3_g I.2.2.1 (fun f k h => ev f k (by omega) (by omega) (by omega)) (fun q h1 h2 => eo q (by omega) (by omega)) (KP_all kp hA (by omega)), Iv4_e I.2.2.2.1 fun f k h => ev f k (by omega) (by omega) (by omega), Iv5_e I.2.2.2.2 fun f k h => ev f k (by omega) (by omega) (by omega)⟩
  · obtain ⟨g1, g2, g3, g4⟩ := I.1
    refine ⟨fun k hk => ⟨In_e (g1 k hk).1 (ev _ _ (by omega) (by omega) (by omega)), In_e (g1 k hk).2 (ev _ _ (by omega) (by omega) (by omega))⟩, fun b hb => ?_, fun b hb => ?_, fun b hb hu => ?_⟩
    · obtain ⟨q1, q2, q3, q4, q5, q6⟩ := g2 b hb
      exact ⟨In_e q1 (ev _ _ (by omega) (by omega) (by omega)), In_e q2 (ev _ _ (by omega) (by omega) (by omega)), In_e q3 (ev _ _ (by omega) (by omega) (by omega)), In_e q4 (ev _ _ (by omega) (by omega) (by omega)), In_e q5 (ev _ _ (by omega) (by omega) (by omega)), In_e q6 (ev _ _ (by omega) (by omega) (by omega))⟩
    · obtain ⟨q1, q2, q3, q4⟩ := g3 b hb
      refine ⟨?_, In_e q2 (ev _ _ (by omega) (by omega) (by omega)), In_e q3 (ev _ _ (by omega) (by omega) (by omega)), In_e q4 (ev _ _ (by omega) (by omega) (by omega))⟩
      by_cases e : b = a
      · rw [e]; exact (In_nI (n := c + 1) n8.1 (by omega) (by omega)).1
      · exact In_e q1 (vN_8 b e)
    · have hu' : ¬ used V b := by unfold used at hu ⊢; rw [vn_e (ev 2 _ (by omega) (by omega) (by omega))] at hu; exact hu
      have hne : b ≠ a := fun e => hu' (by rw [e]; exact u)
      obtain ⟨q1, q2, q3, q4, q5, q6, q7⟩ := g4 b hb hu'
      rw [vn_e (vN_8 b hne), vn_e (ev 13 _ (by omega) (by omega) (by omega)), vn_e (ev 15 _ (by omega) (by omega) (by omega)), vn_e (ev 44 _ (by omega) (by omega) (by omega)), ev 7 _ (by omega) (by omega) (by omega), ev 42 _ (by omega) (by omega) (by omega)]
      exact ⟨q1, q2, q3, q4, q5, q6, fun j hj => by rw [ev 40 _ (by omega) (by omega) (by omega)]; exact q7 j hj⟩
  · obtain ⟨g1, g2, g3⟩ := I.2.1
    refine ⟨fun k hk => ?_, fun k hk => ⟨In_e (g2 k hk).1 (ev _ _ (by omega) (by omega) (by omega)), In_e (g2 k hk).2.1 (ev _ _ (by omega) (by omega) (by omega)), In_e (g2 k hk).2.2 (ev _ _ (by omega) (by omega) (by omega))⟩, fun b hb => ?_⟩
    · by_cases e : k = 4 * a + c
      · obtain ⟨m9, l9, e9⟩ := h9
        obtain ⟨m10, l10, e10⟩ := h10
        obtain ⟨m11, l11, e11⟩ := h11
        rw [e]
        refine ⟨(In_nI (n := m9) (n9.trans e9) l9 (by omega)).1, (In_nI (n := m10) (n10.trans e10) l10 (by omega)).1, (In_nI (n := m11) (n11.trans e11) l11 (by omega)).1, ?_⟩
        rcases h12 with h | ⟨m, l, h⟩
        · exact .inl (n12.trans h)
        · exact .inr (In_nI (n := m) (n12.trans h) l (by omega)).1
      · obtain ⟨q1, q2, q3, q4⟩ := g1 k hk
        have x : ∀ f, 9 ≤ f → f ≤ 12 → vN V a c pk ft pf ow f k = V f k := fun f h1 h2 => vN_f f k (by omega) (by omega) (by omega) (by omega)
        exact ⟨In_e q1 (x _ (by omega) (by omega)), In_e q2 (x _ (by omega) (by omega)), In_e q3 (x _ (by omega) (by omega)), Im_e q4 (x _ (by omega) (by omega))⟩
    · obtain ⟨a1, a2, a3⟩ := g3 b hb
      have b8 := (I.1.2.2.1 b hb).1.2
      have b13 := (I.1.2.2.1 b hb).2.1.2
      rw [vn_e (ev 13 _ (by omega) (by omega) (by omega)), vn_e (ev 15 _ (by omega) (by omega) (by omega))]
      refine ⟨fun j hj => ?_, fun j hj => ⟨VR_e (a2 j hj).1 (eo _ (by omega) (by omega)), ?_⟩, fun j hj => ?_⟩
      · by_cases e : b = a
        · subst e
          rw [n8.2] at hj
          by_cases e2 : j = c
          · rw [e2]; exact KP_R kp (hA 154 (by decide)) (by omega) ok
          · exact VR_e (a1 j (by omega)) (eo _ (by omega) (by omega))
        · rw [vn_e (vN_8 b e)] at hj
          exact VR_e (a1 j hj) (eo _ (by omega) (by omega))
      · rw [vn_e (ev 14 _ (by omega) (by omega) (by omega))]; exact (a2 j hj).2
      · rw [vn_e (ev 16 _ (by omega) (by omega) (by omega))]; exact a3 j hj
def ERn (x y nm n k : Nat) : Bool := (n == x && k == y) || n == nm
def EIn (x y nm n k : Nat) : Bool := (n == x && k == y) || (n == 2 && k == 1) || n == nm
theorem ERn_f {x y nm n k : Nat} (h : ¬ (n = x ∧ k = y) ∧ n ≠ nm) : ERn x y nm n k = false := by
  unfold ERn
  rw [beq_eq_false_iff_ne.mpr h.2, Bool.or_false]
  exact E1_f h.1
theorem EIn_f {x y nm n k : Nat} (h : ¬ (n = x ∧ k = y) ∧ ¬ (n = 2 ∧ k = 1) ∧ n ≠ nm) : EIn x y nm n k = false := by
  unfold EIn
  rw [beq_eq_false_iff_ne.mpr h.2.2, Bool.or_false, show (n == x && k == y) = false from E1_f h.1, show (n == 2 && k == 1) = false from E1_f h.2.1]; rfl
theorem ERn_t {x y nm n k : Nat} (h : n = x ∧ k = y ∨ n = nm) : ERn x y nm n k = true := by
  unfold ERn
  rcases h with ⟨h1, h2⟩ | h
  · subst h1 h2; simp
  · subst h; simp
theorem EIn_t {x y nm n k : Nat} (h : n = x ∧ k = y ∨ n = 2 ∧ k = 1 ∨ n = nm) : EIn x y nm n k = true := by
  unfold EIn
  rcases h with ⟨h1, h2⟩ | ⟨h1, h2⟩ | h
  · subst h1 h2; simp
  · subst h1 h2; simp
  · subst h; simp
theorem CR_vN {S S' : xm_S} {V : VV} {N a c r : Nat} {l : List xit} {pk ft pf ow : Int32} (ha : a < 24) (u : used V a) (hc : vn V 8 a = c) (c4 : c < 4) (C : CR S V N) (I : Iv V) (K : KX (ERn (200 + 20 * a + 1) c (200 + 20 * a + 9 + c)) (EIn (200 + 20 * a) 7 (200 + 20 * a + 9 + c)) N S S') (hf : frs N S') (hl : tOf (tT V 154) (tL V 154) l) (ro : RO S r l N) (nb : NB S' (200 + 20 * a + 9 + c) pk (some r) ft pf ow) (x1 : st_r S' (200 + 20 * a + 1) c = some (200 + 20 * a + 9 + c)) (x2 : st_i S' (200 + 20 * a) 7 = nI (c + 1)) (x3 : st_i S' 2 1 = 0) : CR S' (vN V a c pk ft pf ow) N := by
  have hA := I.2.2.1.2.2.2.2.2.2
  have h40 := (hA 154 (by decide)).2.1.1
  have kp : KP V (vN V a c pk ft pf ow) (4 * a + c) := vN_KP (by omega)
  have ev : ∀ f k, (f < 8 ∨ 12 < f) → f ≠ 24 → f ≠ 25 → vN V a c pk ft pf ow f k = V f k := fun f k h h1 h2 => vN_f f k h1 h2 (by omega) (by omega)
  have eo : ∀ q, q < 154 → q ≠ 4 * a + c → eT V (vN V a c pk ft pf ow) q := fun q hq hne => eTs_T (hA q (by omega)) (KP_o kp h40 hq hne)
  have n9 := vN_n (V := V) (a := a) (c := c) (pk := pk) (ft := ft) (pf := pf) (ow := ow)
  have n8 := vN_8a (V := V) (a := a) (pk := pk) (ft := ft) (pf := pf) (ow := ow) c4
  have b18 := I.2.2.1.1.2
  have b21 := I.2.2.1.2.2.2.1.2
  obtain ⟨hN, -, c1, c2, c3, c4, c5, c6, c7, c8, c9, c10, c11, c12, c13⟩ := C
  refine ⟨by omega, hf, gS_X c1 K hN (fun k => by exact ERn_f (by omega)), gX_X c2 c1 K hN (fun k => by exact EIn_f (by omega)) (fun f hf9 => by exact ev _ _ (by omega) (by omega) (by omega)), gO_X c3 K hN (fun k hk => by exact ERn_f (by omega)), ?_, gP_X c5 K hN (fun n k hn => by exact ERn_f (by omega)) (fun n k g1 g2 => by exact EIn_f (by omega)) (fun k hk => ⟨by exact ev _ _ (by omega) (by omega) (by omega), by exact ev _ _ (by omega) (by omega) (by omega)⟩), ?_, gW_X c7 K hN (Nat.le_refl _) (fun n k hn => by exact ERn_f (by omega)) (fun n k hn => by exact EIn_f (by omega)) (by exact ev _ _ (by omega) (by omega) (by omega)) (fun j hj => ⟨by exact eo _ (by omega) (by omega), by exact ev _ _ (by omega) (by omega) (by omega), by exact ev _ _ (by omega) (by omega) (by omega)⟩), gA_X c8 K hN (Nat.le_refl _) (fun n k hn => by exact ERn_f (by omega)) (fun n k hn => by exact EIn_f (by omega)) (by exact ev _ _ (by omega) (by omega) (by omega)) (fun j hj => ⟨by exact eo _ (by omega) (by omega), by exact ev _ _ (by omega) (by omega) (by omega), by exact ev _ _ (by omega) (by omega) (by omega)⟩), gL_X c9 c1 K hN (fun n k hn => by exact ERn_f (by omega)) (fun n k hn => by exact EIn_f (by omega)) (fun f k hf9 => by exact ev _ _ (by omega) (by omega) (by omega)), gM_X c10 K hN (fun n k hn => by exact EIn_f (by omega)) (fun f k hf9 hk9 => by exact ev _ _ (by omega) (by omega) (by omega)), gI1_X c11 K hN (fun n k hn => by exact ERn_f (by omega)), gI2_X c12 c11 c1 K hN (fun n k hn => by exact EIn_f (by omega)) (fun f k hf9 => by exact ev _ _ (by omega) (by omega) (by omega)), gI3_X c13 c11 K hN (fun k => by exact ERn_f (by omega)) (fun n k hn => by exact EIn_f (by omega)) I.2.2.2.2.2.2.2.2.2.1.2 (fun f k hf9 => by exact ev _ _ (by omega) (by omega) (by omega))⟩
  · obtain ⟨t1, t2, t3, t4, t5, t6⟩ := c4
    unfold gT
    rw [tT_0 (KP_0 kp), KP_0 kp]
    exact ⟨KX_t K (by omega) t1, ((K _ (by omega)).2.1 _ (ERn_f (by omega))).trans t2, KX_t K (by omega) t3, TX_0, x3, fun s hs => absurd hs (Nat.not_lt_zero s)⟩
  have bb := I.1.2.2.1 a ha
  refine gV_A ha I c6 K hN (Nat.le_refl _) (fun n k h1 h2 => ERn_f (by omega)) (fun n k h1 h2 => EIn_f (by omega)) (fun k => ev _ _ (by omega) (by omega) (by omega)) (fun f a' h1 h2 => ?_) (fun a' _ _ j _ => ev _ _ (by omega) (by omega) (by omega)) (fun a' _ j _ => ⟨ev _ _ (by omega) (by omega) (by omega), ev _ _ (by omega) (by omega) (by omega)⟩) (fun a' _ j _ => ⟨ev _ _ (by omega) (by omega) (by omega), ev _ _ (by omega) (by omega) (by omega), ev _ _ (by omega) (by omega) (by omega)⟩) (fun a' h1 h2 j h3 => ⟨eo _ (by omega) (by omega), fun f hf => vN_f _ _ (by omega) (by omega) (by omega) (by omega)⟩) (fun a' _ _ j _ => ⟨eo _ (by omega) (by omega), ev _ _ (by omega) (by omega) (by omega)⟩) u fun g1 g2 g3 g4 => ⟨gV1_X g1 K (by omega) (fun k => ERn_f (by omega)), ?_, gV3_X g3 g1 K (by omega) (fun n k h1 h2 => EIn_f (by omega)) (fun f hf => ev _ _ (by omega) (by omega) (by omega)) (fun j _ => ev _ _ (by omega) (by omega) (by omega)) (fun j _ => ⟨ev _ _ (by omega) (by omega) (by omega), ev _ _ (by omega) (by omega) (by omega)⟩) (fun j _ => ⟨ev _ _ (by omega) (by omega) (by omega), ev _ _ (by omega) (by omega) (by omega), ev _ _ (by omega) (by omega) (by omega)⟩), ?_⟩
  · by_cases e : f = 8
    · subst e; exact vN_8 _ h1
    · exact ev _ _ (by omega) (by omega) (by omega)
  · have r : ∀ k, k ≠ 7 → st_i S' (200 + 20 * a) k = st_i S (200 + 20 * a) k := fun k hk => KX_i K (by omega) (EIn_f (by omega)) (fun hh => by rw [g1.1] at hh; exact absurd hh.2 (by decide))
    obtain ⟨h1, h2, h3, h4, h5, h6, h7, h8, h9, h10⟩ := g2
    unfold gV2
    rw [vn_e (ev 3 a (by omega) (by omega) (by omega)), ev 4 _ (by omega) (by omega) (by omega), ev 5 _ (by omega) (by omega) (by omega), ev 6 _ (by omega) (by omega) (by omega), ev 7 _ (by omega) (by omega) (by omega), ev 42 _ (by omega) (by omega) (by omega), ev 13 _ (by omega) (by omega) (by omega), ev 15 _ (by omega) (by omega) (by omega), ev 44 _ (by omega) (by omega) (by omega)]
    exact ⟨(r _ (by decide)).trans h1, (r _ (by decide)).trans h2, (r _ (by decide)).trans h3, (r _ (by decide)).trans h4, (r _ (by decide)).trans h5, (r _ (by decide)).trans h6, x2.trans n8.1.symm, (r _ (by decide)).trans h8, (r _ (by decide)).trans h9, (r _ (by decide)).trans h10⟩
  · obtain ⟨q1, q2, q3, q4⟩ := g4
    unfold gN
    rw [n8.2, vn_e (ev 13 _ (by omega) (by omega) (by omega))]
    refine ⟨fun j hj => ?_, fun j hj => ?_, fun j h1 h2 => KX_no K (by omega) (ERn_f (by omega)) (q3 j (by omega) h2), fun j h1 h2 => KX_no K (by omega) (ERn_f (by omega)) (q4 j h1 h2)⟩
    · by_cases e : j = c
      · rw [e, n9.1, n9.2.1, n9.2.2.1, n9.2.2.2]
        refine ⟨x1, nb.1, nb.2.1, nb.2.2.2.1, nb.2.2.2.2.1, nb.2.2.2.2.2, r, nb.2.2.1, l, ?_, RO_X ro K (fun n k hn => ERn_f (by omega)) (fun n k hn => EIn_f (by omega)) (Nat.le_refl _)⟩
        rw [KP_T kp (by omega), KP_L kp (by omega)]
        exact hl
      · have x : ∀ f, 9 ≤ f → f ≤ 12 → vN V a c pk ft pf ow f (4 * a + j) = V f (4 * a + j) := fun f h1 h2 => vN_f f _ (by omega) (by omega) (by omega) (by omega)
        rw [x 9 (by omega) (by omega), x 10 (by omega) (by omega), x 11 (by omega) (by omega), x 12 (by omega) (by omega)]
        have w := q1 j (by omega)
        exact ⟨((K _ (by omega)).2.1 _ (ERn_f (by omega))).trans w.1, NO_X w.2 K (by omega) (fun n k hn => ERn_f (by omega)) (fun n k hn => EIn_f (by omega)) (fun k => ERn_f (by omega)) (fun k => EIn_f (by omega)) (Nat.le_refl _) (eo _ (by omega) (by omega))⟩
    · rw [ev 14 _ (by omega) (by omega) (by omega)]
      have w := q2 j hj
      have b13 := bb.2.1.2
      exact ⟨((K _ (by omega)).2.1 _ (ERn_f (by omega))).trans w.1, NO_X w.2 K (by omega) (fun n k hn => ERn_f (by omega)) (fun n k hn => EIn_f (by omega)) (fun k => ERn_f (by omega)) (fun k => EIn_f (by omega)) (Nat.le_refl _) (eo _ (by omega) (by omega))⟩
