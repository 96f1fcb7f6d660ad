-- conflict
def vC1 (V : VV) (n : Nat) (pk : Int32) : VV := uV V 14 n pk
def vC (V : VV) (a c : Nat) (pk : Int32) : VV := uV (kpV (vC1 V (2 * a + c) pk) (96 + (2 * a + c))) 13 a (nI (c + 1))
theorem vC1_f {V : VV} {n : Nat} {pk : Int32} (f k : Nat) (h : f ≠ 14 ∨ k ≠ n) : vC1 V n pk f k = V f k := uV_n _ _ _ _ _ _ (by omega)
theorem vC_f {V : VV} {a c : Nat} {pk : Int32} (f k : Nat) (h1 : f ≠ 24) (h2 : f ≠ 25) (h3 : f ≠ 13 ∨ k ≠ a) (h : f ≠ 14 ∨ k ≠ 2 * a + c) : vC V a c pk f k = V f k := (uV_n _ _ _ _ _ _ (by omega)).trans ((kp_ev f k h1 h2).trans (vC1_f f k h))
theorem vC_13 {V : VV} {a c : Nat} {pk : Int32} (hc : c < 2) : vC V a c pk 13 a = nI (c + 1) ∧ vn (vC V a c pk) 13 a = c + 1 := ⟨uV_s _ _ _ _, vn_s (n := c + 1) (by omega)⟩
theorem vC_14 {V : VV} {a c : Nat} {pk : Int32} : vC V a c pk 14 (2 * a + c) = pk := (uV_n _ _ _ _ _ _ (by omega)).trans ((kp_ev 14 _ (by decide) (by decide)).trans (uV_s _ _ _ _))
theorem vC_KP {V : VV} {a c : Nat} {pk : Int32} (hn : 2 * a + c < 48) : KP V (vC V a c pk) (96 + (2 * a + c)) := fun f k h => (uV_n _ _ _ _ _ _ (by omega)).trans (kp_cong (by omega) (fun f k h => vC1_f f k (by omega)) f k h)
theorem Iv_vC {V : VV} {a c : Nat} {pk : Int32} (I : Iv V) (ha : a < 24) (u : used V a) (hc : vn V 13 a = c) (c4 : c < 2) (ok : okT V = true) (h14 : ∃ n, n ≤ 5 ∧ pk = nI n ∧ n ≠ a / 4) : Iv (vC V a c pk) := by
  have hA := I.2.2.1.2.2.2.2.2.2
  have h40 := (hA 154 (by decide)).2.1.1
  have kp : KP V (vC V a c pk) (96 + (2 * a + c)) := vC_KP (by omega)
  have ev : ∀ f k, f ≠ 13 → f ≠ 14 → f ≠ 24 → f ≠ 25 → vC V a c pk f k = V f k := fun f k h h' h1 h2 => vC_f f k h1 h2 (by omega) (by omega)
  have eo : ∀ q, q < 154 → q ≠ 96 + (2 * a + c) → eTs V (vC V a c pk) q := fun q hq hne => KP_o kp h40 hq hne
  have n14 := vC_14 (V := V) (a := a) (c := c) (pk := pk)
  have n13 := vC_13 (V := V) (a := a) (pk := pk) c4
  obtain ⟨m, l, e, ne⟩ := h14
  refine ⟨?_, ?_, Iv3_g I.2.2.1 (fun f k h => ev f k (by omega) (by omega) (by omega) (by omega)) (fun q h1 h2 => eo q (by omega) (by omega)) (KP_all kp hA (by omega)), Iv4_e I.2.2.2.1 fun f k h => ev f k (by omega) (by omega) (by omega) (by omega), Iv5_e I.2.2.2.2 fun f k h => ev f k (by omega) (by omega) (by omega) (by omega)⟩
  · obtain ⟨g1, g2, g3, g4⟩ := I.1
    refine ⟨fun k hk => ⟨In_e (g1 k hk).1 (ev _ _ (by omega) (by omega) (by omega) (by omega)), In_e (g1 k hk).2 (ev _ _ (by omega) (by omega) (by omega) (by omega))⟩, fun b hb => ?_, fun b hb => ?_, fun b hb hu => ?_⟩
    · obtain ⟨q1, q2, q3, q4, q5, q6⟩ := g2 b hb
      exact ⟨In_e q1 (ev _ _ (by omega) (by omega) (by omega) (by omega)), In_e q2 (ev _ _ (by omega) (by omega) (by omega) (by omega)), In_e q3 (ev _ _ (by omega) (by omega) (by omega) (by omega)), In_e q4 (ev _ _ (by omega) (by omega) (by omega) (by omega)), In_e q5 (ev _ _ (by omega) (by omega) (by omega) (by omega)), In_e q6 (ev _ _ (by omega) (by omega) (by omega) (by omega))⟩
    · obtain ⟨q1, q2, q3, q4⟩ := g3 b hb
      refine ⟨In_e q1 (ev _ _ (by omega) (by omega) (by omega) (by omega)), ?_, In_e q3 (ev _ _ (by omega) (by omega) (by omega) (by omega)), In_e q4 (ev _ _ (by omega) (by omega) (by omega) (by omega))⟩
      by_cases e : b = a
      · rw [e]; exact (In_nI (n := c + 1) n13.1 (by omega) (by omega)).1
      · exact In_e q2 (vC_f _ _ (by omega) (by omega) (by omega) (by omega))
    · have hu' : ¬ used V b := by unfold used at hu ⊢; rw [vn_e (ev 2 _ (by omega) (by omega) (by omega) (by omega))] at hu; exact hu
      have hne : b ≠ a := fun e => hu' (by rw [e]; exact u)
      obtain ⟨q1, q2, q3, q4, q5, q6, q7⟩ := g4 b hb hu'
      rw [vn_e (ev 8 _ (by omega) (by omega) (by omega) (by omega)), vn_e (vC_f 13 b (by omega) (by omega) (by omega) (by omega)), vn_e (ev 15 _ (by omega) (by omega) (by omega) (by omega)), vn_e (ev 44 _ (by omega) (by omega) (by omega) (by omega)), ev 7 _ (by omega) (by omega) (by omega) (by omega), ev 42 _ (by omega) (by omega) (by omega) (by omega)]
      exact ⟨q1, q2, q3, q4, q5, q6, fun j hj => by rw [ev 40 _ (by omega) (by omega) (by omega) (by omega)]; exact q7 j hj⟩
  · obtain ⟨g1, g2, g3⟩ := I.2.1
    refine ⟨fun k hk => ?_, fun k hk => ⟨?_, In_e (g2 k hk).2.1 (ev _ _ (by omega) (by omega) (by omega) (by omega)), In_e (g2 k hk).2.2 (ev _ _ (by omega) (by omega) (by omega) (by omega))⟩, fun b hb => ?_⟩
    · obtain ⟨q1, q2, q3, q4⟩ := g1 k hk
      exact ⟨In_e q1 (ev _ _ (by omega) (by omega) (by omega) (by omega)), In_e q2 (ev _ _ (by omega) (by omega) (by omega) (by omega)), In_e q3 (ev _ _ (by omega) (by omega) (by omega) (by omega)), Im_e q4 (ev _ _ (by omega) (by omega) (by omega) (by omega))⟩
    · by_cases e2 : k = 2 * a + c
      · rw [e2]; exact (In_nI (n := m) (n14.trans e) l (by omega)).1
      · exact In_e (g2 k hk).1 (vC_f _ _ (by omega) (by omega) (by omega) (by omega))
    · obtain ⟨a1, a2, a3⟩ := g3 b hb
      have b8 := (I.1.2.2.1 b hb).1.2
      have b13 := (I.1.2.2.1 b hb).2.1.2
      rw [vn_e (ev 8 _ (by omega) (by omega) (by omega) (by omega)), vn_e (ev 15 _ (by omega) (by omega) (by omega) (by omega))]
      refine ⟨fun j hj => VR_e (a1 j hj) (eo _ (by omega) (by omega)), fun j hj => ?_, fun j hj => ?_⟩
      · by_cases e3 : b = a
        · subst e3
          rw [n13.2] at hj
          by_cases e2 : j = c
          · rw [e2]
            refine ⟨KP_R kp (hA 154 (by decide)) (by omega) ok, ?_⟩
            unfold vn
            rw [n14, e, nI_clamp (by omega)]
            exact ne
          · rw [vn_e (vC_f 14 _ (by omega) (by omega) (by omega) (by omega))]
            exact ⟨VR_e (a2 j (by omega)).1 (eo _ (by omega) (by omega)), (a2 j (by omega)).2⟩
        · rw [vn_e (vC_f 13 b (by omega) (by omega) (by omega) (by omega))] at hj
          rw [vn_e (vC_f 14 _ (by omega) (by omega) (by omega) (by omega))]
          exact ⟨VR_e (a2 j hj).1 (eo _ (by omega) (by omega)), (a2 j hj).2⟩
      · rw [vn_e (ev 16 _ (by omega) (by omega) (by omega) (by omega))]; exact a3 j hj
theorem CR_vC {S S' : xm_S} {V : VV} {N a c r : Nat} {l : List xit} {pk : Int32} (ha : a < 24) (u : used V a) (hc : vn V 13 a = c) (c4 : c < 2) (C : CR S V N) (I : Iv V) (K : KX (ERn (200 + 20 * a + 2) c (200 + 20 * a + 13 + c)) (EIn (200 + 20 * a) 9 (200 + 20 * a + 13 + c)) N S S') (hf : frs N S') (hl : tOf (tT V 154) (tL V 154) l) (ro : RO S r l N) (nb : NB S' (200 + 20 * a + 13 + c) pk (some r) 0 (nI 7) (-1)) (x1 : st_r S' (200 + 20 * a + 2) c = some (200 + 20 * a + 13 + c)) (x2 : st_i S' (200 + 20 * a) 9 = nI (c + 1)) (x3 : st_i S' 2 1 = 0) : CR S' (vC V a c pk) N := by
  have hA := I.2.2.1.2.2.2.2.2.2
  have h40 := (hA 154 (by decide)).2.1.1
  have kp : KP V (vC V a c pk) (96 + (2 * a + c)) := vC_KP (by omega)
  have ev : ∀ f k, f ≠ 13 → f ≠ 14 → f ≠ 24 → f ≠ 25 → vC V a c pk f k = V f k := fun f k h h' h1 h2 => vC_f f k h1 h2 (by omega) (by omega)
  have eo : ∀ q, q < 154 → q ≠ 96 + (2 * a + c) → eT V (vC V a c pk) q := fun q hq hne => eTs_T (hA q (by omega)) (KP_o kp h40 hq hne)
  have n14 := vC_14 (V := V) (a := a) (c := c) (pk := pk)
  have n13 := vC_13 (V := V) (a := a) (pk := pk) c4
  have b18 := I.2.2.1.1.2
  have b21 := I.2.2.1.2.2.2.1.2
  obtain ⟨hN, -, c1, c2, c3, c4, c5, c6, c7, c8, c9, c10, c11, c12, c13⟩ := C
  refine ⟨by omega, hf, gS_X c1 K hN (fun k => by exact ERn_f (by omega)), gX_X c2 c1 K hN (fun k => by exact EIn_f (by omega)) (fun f hf9 => by exact ev _ _ (by omega) (by omega) (by omega) (by omega)), gO_X c3 K hN (fun k hk => by exact ERn_f (by omega)), ?_, gP_X c5 K hN (fun n k hn => by exact ERn_f (by omega)) (fun n k g1 g2 => by exact EIn_f (by omega)) (fun k hk => ⟨by exact ev _ _ (by omega) (by omega) (by omega) (by omega), by exact ev _ _ (by omega) (by omega) (by omega) (by omega)⟩), ?_, gW_X c7 K hN (Nat.le_refl _) (fun n k hn => by exact ERn_f (by omega)) (fun n k hn => by exact EIn_f (by omega)) (by exact ev _ _ (by omega) (by omega) (by omega) (by omega)) (fun j hj => ⟨by exact eo _ (by omega) (by omega), by exact ev _ _ (by omega) (by omega) (by omega) (by omega), by exact ev _ _ (by omega) (by omega) (by omega) (by omega)⟩), gA_X c8 K hN (Nat.le_refl _) (fun n k hn => by exact ERn_f (by omega)) (fun n k hn => by exact EIn_f (by omega)) (by exact ev _ _ (by omega) (by omega) (by omega) (by omega)) (fun j hj => ⟨by exact eo _ (by omega) (by omega), by exact ev _ _ (by omega) (by omega) (by omega) (by omega), by exact ev _ _ (by omega) (by omega) (by omega) (by omega)⟩), gL_X c9 c1 K hN (fun n k hn => by exact ERn_f (by omega)) (fun n k hn => by exact EIn_f (by omega)) (fun f k hf9 => by exact ev _ _ (by omega) (by omega) (by omega) (by omega)), gM_X c10 K hN (fun n k hn => by exact EIn_f (by omega)) (fun f k hf9 hk9 => by exact ev _ _ (by omega) (by omega) (by omega) (by omega)), gI1_X c11 K hN (fun n k hn => by exact ERn_f (by omega)), gI2_X c12 c11 c1 K hN (fun n k hn => by exact EIn_f (by omega)) (fun f k hf9 => by exact ev _ _ (by omega) (by omega) (by omega) (by omega)), gI3_X c13 c11 K hN (fun k => by exact ERn_f (by omega)) (fun n k hn => by exact EIn_f (by omega)) I.2.2.2.2.2.2.2.2.2.1.2 (fun f k hf9 => by exact ev _ _ (by omega) (by omega) (by omega) (by omega))⟩
  · obtain ⟨t1, t2, t3, t4, t5, t6⟩ := c4
    unfold gT
    rw [tT_0 (KP_0 kp), KP_0 kp]
    exact ⟨KX_t K (by omega) t1, ((K _ (by omega)).2.1 _ (ERn_f (by omega))).trans t2, KX_t K (by omega) t3, TX_0, x3, fun s hs => absurd hs (Nat.not_lt_zero s)⟩
  have bb := I.1.2.2.1 a ha
  have b8 := bb.1.2
  refine gV_A ha I c6 K hN (Nat.le_refl _) (fun n k h1 h2 => ERn_f (by omega)) (fun n k h1 h2 => EIn_f (by omega)) (fun k => ev _ _ (by omega) (by omega) (by omega) (by omega)) (fun f a' h1 h2 => ?_) (fun a' _ _ j _ => ev _ _ (by omega) (by omega) (by omega) (by omega)) (fun a' _ j _ => ⟨ev _ _ (by omega) (by omega) (by omega) (by omega), ev _ _ (by omega) (by omega) (by omega) (by omega)⟩) (fun a' _ j _ => ⟨ev _ _ (by omega) (by omega) (by omega) (by omega), ev _ _ (by omega) (by omega) (by omega) (by omega), ev _ _ (by omega) (by omega) (by omega) (by omega)⟩) (fun a' h1 h2 j h3 => ⟨eo _ (by omega) (by omega), fun f hf => ev _ _ (by omega) (by omega) (by omega) (by omega)⟩) (fun a' _ _ j _ => ⟨eo _ (by omega) (by omega), vC_f _ _ (by omega) (by omega) (by omega) (by omega)⟩) u fun g1 g2 g3 g4 => ⟨gV1_X g1 K (by omega) (fun k => ERn_f (by omega)), ?_, gV3_X g3 g1 K (by omega) (fun n k h1 h2 => EIn_f (by omega)) (fun f hf => ev _ _ (by omega) (by omega) (by omega) (by omega)) (fun j _ => ev _ _ (by omega) (by omega) (by omega) (by omega)) (fun j _ => ⟨ev _ _ (by omega) (by omega) (by omega) (by omega), ev _ _ (by omega) (by omega) (by omega) (by omega)⟩) (fun j _ => ⟨ev _ _ (by omega) (by omega) (by omega) (by omega), ev _ _ (by omega) (by omega) (by omega) (by omega), ev _ _ (by omega) (by omega) (by omega) (by omega)⟩), ?_⟩
  · exact vC_f _ _ (by omega) (by omega) (by omega) (by omega)
  · have r : ∀ k, k ≠ 9 → st_i S' (200 + 20 * a) k = st_i S (200 + 20 * a) k := fun k hk => KX_i K (by omega) (EIn_f (by omega)) (fun hh => by rw [g1.1] at hh; exact absurd hh.2 (by decide))
    obtain ⟨h1, h2, h3, h4, h5, h6, h7, h8, h9, h10⟩ := g2
    unfold gV2
    rw [vn_e (ev 3 a (by omega) (by omega) (by omega) (by omega)), ev 4 _ (by omega) (by omega) (by omega) (by omega), ev 5 _ (by omega) (by omega) (by omega) (by omega), ev 6 _ (by omega) (by omega) (by omega) (by omega), ev 7 _ (by omega) (by omega) (by omega) (by omega), ev 42 _ (by omega) (by omega) (by omega) (by omega), ev 8 _ (by omega) (by omega) (by omega) (by omega), ev 15 _ (by omega) (by omega) (by omega) (by omega), ev 44 _ (by omega) (by omega) (by omega) (by omega)]
    exact ⟨(r _ (by decide)).trans h1, (r _ (by decide)).trans h2, (r _ (by decide)).trans h3, (r _ (by decide)).trans h4, (r _ (by decide)).trans h5, (r _ (by decide)).trans h6, (r _ (by decide)).trans h7, x2.trans n13.1.symm, (r _ (by decide)).trans h9, (r _ (by decide)).trans h10⟩
  · obtain ⟨q1, q2, q3, q4⟩ := g4
    unfold gN
    rw [n13.2, vn_e (ev 8 _ (by omega) (by omega) (by omega) (by omega))]
    refine ⟨fun j hj => ?_, fun j hj => ?_, fun j h1 h2 => KX_no K (by omega) (ERn_f (by omega)) (q3 j h1 h2), fun j h1 h2 => KX_no K (by omega) (ERn_f (by omega)) (q4 j (by omega) h2)⟩
    · rw [ev 9 _ (by omega) (by omega) (by omega) (by omega), ev 10 _ (by omega) (by omega) (by omega) (by omega), ev 11 _ (by omega) (by omega) (by omega) (by omega), ev 12 _ (by omega) (by omega) (by omega) (by omega)]
      have w := q1 j hj
      exact ⟨((K _ (by omega)).2.1 _ (ERn_f (by omega))).trans w.1, NO_X w.2 K (by omega) (fun n k hn => ERn_f (by omega)) (fun n k hn => EIn_f (by omega)) (fun k => ERn_f (by omega)) (fun k => EIn_f (by omega)) (Nat.le_refl _) (eo _ (by omega) (by omega))⟩
    · by_cases e : j = c
      · rw [e, n14]
        refine ⟨x1, nb.1, nb.2.1, nb.2.2.2.1, nb.2.2.2.2.1, nb.2.2.2.2.2, r, nb.2.2.1, l, ?_, RO_X ro K (fun n k hn => ERn_f (by omega)) (fun n k hn => EIn_f (by omega)) (Nat.le_refl _)⟩
        rw [KP_T kp (by omega), KP_L kp (by omega)]
        exact hl
      · rw [vC_f 14 _ (by omega) (by omega) (by omega) (by omega)]
        have w := q2 j (by omega)
        exact ⟨((K _ (by omega)).2.1 _ (ERn_f (by omega))).trans w.1, NO_X w.2 K (by omega) (fun n k hn => ERn_f (by omega)) (fun n k hn => EIn_f (by omega)) (fun k => ERn_f (by omega)) (fun k => EIn_f (by omega)) (Nat.le_refl _) (eo _ (by omega) (by omega))⟩
def cf_2 (V : VV) (p o : Int32) : Bool := decide (¬ p = o) && okT V
def t_conflict (V : VV) (p v o : Int32) : Nat := if nd_1 V p v o then (if cf_2 V p o then (if V 13 (at_ p v) < nI 2 then 0 else 3) else 2) else 1
def v_conflict (V : VV) (p v o : Int32) : VV := if t_conflict V p v o = 0 then vC V (at_ p v) (vn V 13 (at_ p v)) o else V
def r_conflict (V : VV) (p v : Int32) : Int32 := nI (vn V 13 (at_ p v) + 1)
theorem v_conflict_54 {V : VV} {p v o : Int32} : v_conflict V p v o 54 0 = V 54 0 := by
  unfold v_conflict
  split
  · exact vC_f _ _ (by omega) (by omega) (by omega) (by omega)
  · rfl
theorem cf_x {V : VV} {p v o : Int32} (I : Iv V) (h : t_conflict V p v o = 0) : ∃ i j, i < 6 ∧ j < vn V 2 i ∧ vn V 2 i ≤ 4 ∧ p = nI i ∧ v = nI j ∧ vn V 13 (4 * i + j) < 2 ∧ okT V = true ∧ ∃ n, n ≤ 5 ∧ o = nI n ∧ n ≠ (4 * i + j) / 4 := by
  unfold t_conflict at h
  by_cases h1 : nd_1 V p v o = true
  · rw [if_pos h1] at h
    by_cases h2 : cf_2 V p o = true
    · rw [if_pos h2] at h
      by_cases h3 : V 13 (at_ p v) < nI 2
      · unfold nd_1 at h1
        rw [Bool.and_eq_true] at h1
        unfold cf_2 at h2
        rw [Bool.and_eq_true] at h2
        have hne := of_decide_eq_true h2.1
        obtain ⟨i, j, hi, hj, hc, ei, ej⟩ := isV_nI I h1.1
        obtain ⟨m, l, e⟩ := inB_nI h1.2 (by decide)
        refine ⟨i, j, hi, hj, hc, ei, ej, ?_, h2.2, m, l, e, fun hh => hne ?_⟩
        · unfold at_ at h3
          rw [ei, ej, nI_clamp (by omega), nI_clamp (by omega)] at h3
          have q := (I.1.2.2.1 (4 * i + j) (by omega)).2.1
          have q2 := q.2
          rw [q.1, nI_ltI (by omega) (by decide)] at h3
          exact h3
        · rw [ei, e, hh, show (4 * i + j) / 4 = i by omega]
      · rw [if_neg h3] at h; exact absurd h (by decide)
    · rw [if_neg h2] at h; exact absurd h (by decide)
  · rw [if_neg h1] at h; exact absurd h (by decide)
theorem Iv_conflict {V : VV} {p v o : Int32} (I : Iv V) : Iv (v_conflict V p v o) := by
  unfold v_conflict
  split
  next h =>
    obtain ⟨i, j, hi, hj, hc, ei, ej, c4, ok, h14⟩ := cf_x I h
    unfold at_
    rw [ei, ej, nI_clamp (by omega), nI_clamp (by omega)]
    exact Iv_vC I (by omega) (used_of hj hc) rfl c4 ok h14
  · exact I
theorem w_conflict {S : xm_S} {V W : VV} {N : Nat} {p v o : Int32} {g : Int32 → xm_S → Prop} (R : RR S V W N) (I : Iv V) (h : ∀ S' N', RR S' (v_conflict V p v o) W N' → (t_conflict V p v o = 0 → st_l S' 1200 0 = (r_conflict V p v).toInt64) → g (nI (t_conflict V p v o)) S') : wp_L_conflict (some 1) p v o (some 1200) S g := by
  have I' := Iv_conflict (p := p) (v := v) (o := o) I
  have c1 := R.1.2.2.1
  have T1 : nd_1 V p v o = false → g 1 S := fun q => by
    have t : t_conflict V p v o = 1 := by unfold t_conflict; rw [if_neg (by rw [q]; decide)]
    have w : v_conflict V p v o = V := by unfold v_conflict; rw [if_neg (by rw [t]; decide)]
    rw [t, w] at h
    exact h S N R (fun e => absurd e (by decide))
  unfold wp_L_conflict wp_X11_conflict
  refine ⟨1, rfl, c1.1, c1.1, q_ver R.1 (fun a => q_pack (fun b => ?_) (fun b => .inl ⟨rfl, T1 (by unfold nd_1; rw [b, Bool.and_false])⟩)) (fun a => .inl ⟨rfl, T1 (by unfold nd_1; rw [a, Bool.false_and])⟩)⟩
  have n1 : nd_1 V p v o = true := by unfold nd_1; rw [a, b]; rfl
  have T2 : cf_2 V p o = false → ∀ S' N', RR S' V W N' → g 2 S' := fun q S' N' R' => by
    have t : t_conflict V p v o = 2 := by unfold t_conflict; rw [if_pos n1, if_neg (by rw [q]; decide)]
    have w : v_conflict V p v o = V := by unfold v_conflict; rw [if_neg (by rw [t]; decide)]
    rw [t, w] at h
    exact h S' N' R' (fun e => absurd e (by decide))
  refine q_other (fun f => ⟨c1.1, q_tape R I (fun ok l hl S1 N1 R1 hN ro G => ?_) (fun ok S1 N1 R1 => .inr (.inl ⟨rfl, T2 ?_ S1 N1 R1⟩))⟩) (fun f => .inr (.inl ⟨rfl, T2 ?_ S N R⟩))
  · have n2 : cf_2 V p o = true := by unfold cf_2; rw [ok, decide_eq_true f]; rfl
    obtain ⟨i, j, hi, hj, hc, ei, ej⟩ := isV_nI I a
    subst ei ej
    have ci : (nI i).toNatClampNeg = i := nI_clamp (by omega)
    have cj : (nI j).toNatClampNeg = j := nI_clamp (by omega)
    have ea : at_ (nI i) (nI j) = 4 * i + j := by unfold at_; rw [ci, cj]
    have T : t_conflict V (nI i) (nI j) o = if V 13 (4 * i + j) < nI 2 then 0 else 3 := by unfold t_conflict; rw [if_pos n1, if_pos n2, ea]
    have d1 := R1.1.2.2.1
    have d4 := gS_4 d1
    have P := CR_gP R1.1 i hi
    have vj := CR_ver R1.1 I hi hj
    have q8 := (I.1.2.2.1 (4 * i + j) (by omega)).2.1
    have q82 := q8.2
    rw [ci, cj]
    refine ⟨d1.1, 4, d4.1, _, d4.2, vp_in_nI (show i < 6 by omega) (by decide), _, P.2.1, P.1, _, P.2.2.1, _, P.2.2.2.1, vp_in_nI (show j < 4 by omega) (by decide), _, vj.1, vj.2.1.1, ?_⟩
    rw [vj.2.2.1.2.2.2.2.2.2.2.1]
    refine q_room (fun h8 => ?_) (fun h8 => .inr (.inr ⟨rfl, ?_⟩))
    · have t : t_conflict V (nI i) (nI j) o = 0 := by rw [T, if_pos h8]
      have w : v_conflict V (nI i) (nI j) o = vC V (4 * i + j) (vn V 13 (4 * i + j)) o := by unfold v_conflict; rw [if_pos t, ea]
      rw [t, w] at h
      rw [w] at I'
      unfold r_conflict at h
      rw [ea] at h
      have h8' : vn V 13 (4 * i + j) < 2 := by rw [q8.1, nI_ltI (by omega) (by decide)] at h8; exact h8
      have gN := vj.2.2.2.2
      have hno := gN.2.2.2 (vn V 13 (4 * i + j)) (Nat.le_refl _) h8'
      have t1 := vj.2.1
      refine ⟨_, vj.1, vj.2.1.1, _, vj.1, vj.2.1.1, 200 + 20 * (4 * i + j) + 13 + vn V 13 (4 * i + j), hno, c_newNeed fun S46 nw nb => ?_⟩
      have ty : ∀ n x, n ≠ 200 + 20 * (4 * i + j) + 13 + vn V 13 (4 * i + j) → st_t S1 n = some x → st_t S46 n = some x := fun n x hn hx => (nw n hn).1.trans hx
      rw [vj.2.2.1.2.2.2.2.2.2.2.1, q8.1, nI_clamp (show vn V 13 (4 * i + j) < 2 ^ 31 by omega), vj.1]
      refine ⟨_, t1.2.2.2.1, _, ty _ _ (by omega) t1.2.2.2.2.1, vp_in_nI h8' (by decide), fun v9 hv => by rw [← Option.some.inj hv]; exact nb.1, fun S54 e54 => ⟨_, rfl, ?_, _, rfl, ?_, fun S62 e62 => ?_⟩⟩
      · rw [e54]; exact ty _ _ (by omega) t1.1
      · rw [e54]; exact ty _ _ (by omega) t1.1
      rw [show st_i S54 (200 + 20 * (4 * i + j)) 9 = nI (vn V 13 (4 * i + j)) by rw [e54, st_i_pr, (nw _ (by omega)).2.2.2, vj.2.2.1.2.2.2.2.2.2.2.1, q8.1], nI_1] at e62
      have K : KX (ERn (200 + 20 * (4 * i + j) + 2) (vn V 13 (4 * i + j)) (200 + 20 * (4 * i + j) + 13 + vn V 13 (4 * i + j))) (EIn (200 + 20 * (4 * i + j)) 9 (200 + 20 * (4 * i + j) + 13 + vn V 13 (4 * i + j))) N1 S1 S62 := by
        rw [e62, e54]
        exact KX_pi (KX_pr (NW_KX nw hno (fun k => ERn_t (.inr rfl)) (fun k => EIn_t (.inr (.inr rfl)))) (ERn_t (.inl ⟨rfl, rfl⟩))) (EIn_t (.inl ⟨rfl, rfl⟩))
      have M62 : KM S1 S62 := by rw [e62, e54]; exact KM_pi (KM_pr (NW_KM nw (by omega)) (by omega)) (by omega)
      have tp := R1.1.2.2.2.2.2.1
      have hN1 := R1.1.1
      refine ⟨KX_t K (by omega) d1.1, 2, ((K 1 (by omega)).2.1 _ (ERn_f (by omega))).trans d1.2.1, KX_t K (by omega) tp.1, ?_⟩
      unfold wp_X8_clear
      refine ⟨KX_t K (by omega) tp.1, fun S68 e68 => ?_⟩
      have R68 : RR S68 (vC V (4 * i + j) (vn V 13 (4 * i + j)) o) W N1 := by
        have K2 := KX_pi (n := 2) (k := 1) (v := 0) K (EIn_t (.inr (.inl ⟨rfl, rfl⟩)))
        rw [← e68] at K2
        refine ⟨CR_vC (by omega) (used_of hj hc) rfl h8' R1.1 I K2 ?_ hl (RO_X ro (KX_rfl fA0 fA0 N1 S1) (fun _ _ _ => rfl) (fun _ _ _ => rfl) (Nat.le_refl _)) ?_ ?_ ?_ ?_, MR_K R1.2.1 (KM_tr M62 (by rw [e68]; exact KM_pi (KM_rfl _) (by omega))), KX_t K2 (by omega) R1.2.2⟩
        · have fr := fr_NW R1.1.2.1 nw (by omega)
          rw [e68, e62, e54]; exact fun n hn => fr n hn
        · rw [e68, e62, e54]
          refine ⟨nb.1, ?_, ?_, ?_, ?_, ?_⟩
          · rw [st_i_pi_n _ _ _ _ _ _ (by omega), st_i_pi_n _ _ _ _ _ _ (by omega), st_i_pr]; exact nb.2.1
          · rw [st_r_pi, st_r_pi, st_r_pr_n _ _ _ _ _ _ (by omega)]; exact nb.2.2.1
          · rw [st_i_pi_n _ _ _ _ _ _ (by omega), st_i_pi_n _ _ _ _ _ _ (by omega), st_i_pr]; exact nb.2.2.2.1
          · rw [st_i_pi_n _ _ _ _ _ _ (by omega), st_i_pi_n _ _ _ _ _ _ (by omega), st_i_pr]; exact nb.2.2.2.2.1
          · rw [st_i_pi_n _ _ _ _ _ _ (by omega), st_i_pi_n _ _ _ _ _ _ (by omega), st_i_pr]; exact nb.2.2.2.2.2
        · rw [e68, e62, e54, st_r_pi, st_r_pi, st_r_pr_s]
        · rw [e68, st_i_pi_n _ _ _ _ _ _ (by omega), e62, st_i_pi_s]
        · rw [e68, st_i_pi_s]
      refine ⟨_, rfl, by rw [e68, st_t_pi]; exact KX_t K (by omega) t1.1, ?_⟩
      rw [show st_i S68 (200 + 20 * (4 * i + j)) 9 = nI (vn V 13 (4 * i + j) + 1) by rw [e68, st_i_pi_n _ _ _ _ _ _ (by omega), e62, st_i_pi_s]]
      exact w_out R68 I' fun S' R' hl => h S' N1 R' (fun _ => hl)
    · have t : t_conflict V (nI i) (nI j) o = 3 := by rw [T, if_neg h8]
      have w : v_conflict V (nI i) (nI j) o = V := by unfold v_conflict; rw [if_neg (by rw [t]; decide)]
      rw [t, w] at h
      exact h S1 N1 R1 (fun e => absurd e (by decide))
  · unfold cf_2; rw [ok]; simp
  · unfold cf_2; rw [decide_eq_false (fun hh => hh f)]; simp
theorem ml_conflict {S : xm_S} {V W : VV} {N : Nat} {p v o : Int32} {g : Int32 → xm_S → Prop} (R : RR S V W N) (I : Iv V) (IW : Iv W) (h : ∀ S' b, RR S' V (v_conflict W p v o) N → st_i S' 1000 0 = nI (t_conflict W p v o) → (t_conflict W p v o = 0 → b = r_conflict W p v) → st_l S' 1200 0 = st_l S 1200 0 → g b S') : wp_X12_conflict 1000 p v o S g := by
  have hT := IW.2.2.1.2.2.2.2.2.2 154 (by decide)
  -- what throws
  have X : ∀ S1 (t : Nat) x9, RR S1 V W N → KC S S1 → t_conflict W p v o = t → t ≠ 0 → t < 100 → wp_X12_conflict_98 1000 o x9 (nI t) (some 1000) S1 g := fun S1 t x9 R1 K1 et h0 ht => by
    have w : v_conflict W p v o = W := by unfold v_conflict; rw [if_neg (by rw [et]; exact h0)]
    rw [w, et] at h
    unfold wp_X12_conflict_98
    refine ⟨1000, rfl, R1.2.1.1.1, m_may (t := t) R1 I rfl ht fun S4 R4 k4 e4 => ⟨fun e => absurd e ?_, fun _ => ?_⟩⟩
    · rw [decide_eq_false h0]; exact fun e => e rfl
    · exact h S4 _ R4 e4 (fun e => absurd e h0) ((KC_tr K1 k4 1200 (by omega)).2.2.1 0)
  have X1 : nd_1 W p v o = false → wp_X12_conflict_20 1000 p v o S g := fun q => by
    have t : t_conflict W p v o = 1 := by unfold t_conflict; rw [if_neg (by rw [q]; decide)]
    unfold wp_X12_conflict_20 wp_X12_conflict_21 wp_X12_conflict_44 wp_X12_conflict_45 wp_X12_conflict_61
    exact ⟨fun _ => ⟨fun _ => ⟨fun e => absurd rfl e, fun _ => X S 1 _ R (KC_rfl _) t (by decide) (by decide)⟩, fun e => absurd rfl e⟩, fun e => absurd rfl e⟩
  unfold wp_X12_conflict
  refine ⟨R.2.1.1.1, m_ver R.2.1 IW (bI_c (fun a => m_pack (bI_c (fun b => ?_) (fun b => X1 (by unfold nd_1; rw [b, Bool.and_false])))) (fun a => X1 (by unfold nd_1; rw [a, Bool.false_and])))⟩
  have n1 : nd_1 W p v o = true := by unfold nd_1; rw [a, b]; rfl
  obtain ⟨i, j, hi, hj, hc, ei, ej⟩ := isV_nI IW a
  subst ei ej
  have ci : (nI i).toNatClampNeg = i := nI_clamp (by omega)
  have cj : (nI j).toNatClampNeg = j := nI_clamp (by omega)
  have ea : at_ (nI i) (nI j) = 4 * i + j := by unfold at_; rw [ci, cj]
  have q8 := (IW.1.2.2.1 (4 * i + j) (by omega)).2.1
  have q82 := q8.2
  have X2 : cf_2 W (nI i) o = false → ∀ S1, RR S1 V W N → KC S S1 → wp_X12_conflict_44 1000 (nI i) (nI j) o 1 S1 g := fun q S1 R1 K1 => by
    have t : t_conflict W (nI i) (nI j) o = 2 := by unfold t_conflict; rw [if_pos n1, if_neg (by rw [q]; decide)]
    unfold wp_X12_conflict_44 wp_X12_conflict_45 wp_X12_conflict_61
    exact ⟨fun e => absurd e (by decide), fun _ => ⟨fun _ => ⟨fun e => absurd rfl e, fun _ => X S1 2 _ R1 K1 t (by decide) (by decide)⟩, fun e => absurd e (by decide)⟩⟩
  unfold wp_X12_conflict_21
  refine ⟨fun e => absurd e (by decide), fun _ => ⟨fun f => X2 (by unfold cf_2; rw [decide_eq_false (fun hh => hh f.symm)]; simp) S R (KC_rfl _), fun f => ⟨R.2.1.1.1, m_typed R I IW fun S1 R1 K1 => bI_c (fun ok => ?_) (fun ok => X2 (by unfold cf_2; rw [ok]; simp) S1 R1 K1)⟩⟩⟩
  have n2 : cf_2 W (nI i) o = true := by unfold cf_2; rw [ok, decide_eq_true (show ¬ nI i = o from fun hh => f hh.symm)]; rfl
  have T : t_conflict W (nI i) (nI j) o = if W 13 (4 * i + j) < nI 2 then 0 else 3 := by unfold t_conflict; rw [if_pos n1, if_pos n2, ea]
  have M1 := R1.2.1
  unfold wp_X12_conflict_45 wp_X12_conflict_61
  rw [pk_mul, nI_add, nI_clamp (show 4 * i + j < 2 ^ 31 by omega)]
  refine ⟨fun e => absurd e (by decide), fun _ => ⟨fun _ => ⟨fun _ => ⟨M1.1.1, _, MS_r M1.1 13, _, MS_t M1.1 13, vp_in_nI (show 4 * i + j < 24 by omega) (by decide), ?_⟩, fun e => absurd e (by decide)⟩, fun e => absurd e (by decide)⟩⟩
  rw [show st_i S1 (1001 + 13) (4 * i + j) = W 13 (4 * i + j) from M1.2.2 13 _ rfl, q8.1, nI_eq (by omega) (by decide)]
  have lt : W 13 (4 * i + j) < nI 2 ↔ vn W 13 (4 * i + j) < 2 := by rw [q8.1, nI_ltI (by omega) (by decide)]
  refine ⟨fun h8 => ?_, fun h8 => X S1 3 _ R1 K1 (by rw [T, if_neg (fun hh => by have := lt.mp hh; omega)]) (by decide) (by decide)⟩
  have h8' : vn W 13 (4 * i + j) < 2 := by omega
  have t : t_conflict W (nI i) (nI j) o = 0 := by rw [T, if_pos (lt.mpr h8')]
  have w : v_conflict W (nI i) (nI j) o = vC W (4 * i + j) (vn W 13 (4 * i + j)) o := by unfold v_conflict; rw [if_pos t, ea]
  rw [t, w] at h
  unfold r_conflict at h
  rw [ea] at h
  unfold wp_X12_conflict_98
  refine ⟨1000, rfl, M1.1.1, m_may (t := 0) R1 I rfl (by decide) fun S4 R4 k4 e4 => ⟨fun _ => ?_, fun e => absurd e (by decide)⟩⟩
  have M4 := R4.2.1
  rw [nI_clamp (show 4 * i + j < 2 ^ 31 by omega)]
  refine ⟨M4.1.1, _, MS_r M4.1 13, _, MS_t M4.1 13, vp_in_nI (show 4 * i + j < 24 by omega) (by decide), ?_⟩
  rw [show st_i S4 (1001 + 13) (4 * i + j) = nI (vn W 13 (4 * i + j)) from (M4.2.2 13 _ rfl).trans q8.1, pk_mul, nI_add]
  refine ⟨_, MS_r M4.1 14, _, MS_t M4.1 14, vp_in_nI (show 2 * (4 * i + j) + vn W 13 (4 * i + j) < 48 by omega) (by decide), fun S17 e17 => ?_⟩
  rw [nI_clamp (by omega)] at e17
  have M17 : MR S17 (vC1 W (2 * (4 * i + j) + vn W 13 (4 * i + j)) o) := by rw [e17]; exact MR_a (f := 14) M4
  have k17 : KC S4 S17 := by rw [e17]; exact KC_pi (KC_rfl _) (by omega)
  refine ⟨_, MS_r M17.1 13, _, MS_t M17.1 13, vp_in_nI (show 4 * i + j < 24 by omega) (by decide), ?_⟩
  rw [show st_i S17 (1001 + 13) (4 * i + j) = nI (vn W 13 (4 * i + j)) from (M17.2.2 13 _ rfl).trans ((vC1_f 13 _ (by omega)).trans q8.1), nI_add, nI_add, Nat.add_assoc]
  refine m_keeps M17 (VT_e hT ⟨vC1_f _ _ (by omega), fun s hs => vC1_f _ _ (by omega)⟩) (by omega) fun S24 k24 M24 z24 => ?_
  refine ⟨M24.1.1, _, MS_r M24.1 13, _, MS_t M24.1 13, vp_in_nI (show 4 * i + j < 24 by omega) (by decide), _, MS_r M24.1 13, _, MS_t M24.1 13, vp_in_nI (show 4 * i + j < 24 by omega) (by decide), fun S37 e37 => ?_⟩
  rw [show st_i S24 (1001 + 13) (4 * i + j) = nI (vn W 13 (4 * i + j)) from (M24.2.2 13 _ rfl).trans ((kp_ev 13 _ (by decide) (by decide)).trans ((vC1_f 13 _ (by omega)).trans q8.1)), nI_1] at e37
  have M37 := MR_a (f := 13) (k := 4 * i + j) (x := nI (vn W 13 (4 * i + j) + 1)) M24
  rw [← e37] at M37
  have k37 : KC S4 S37 := KC_tr (KC_tr k17 k24) (by rw [e37]; exact KC_pi (KC_rfl _) (by omega))
  refine ⟨_, MS_r M37.1 13, _, MS_t M37.1 13, vp_in_nI (show 4 * i + j < 24 by omega) (by decide), ?_⟩
  refine h S37 _ (RR_m R4 I k37 M37) ?_ (fun _ => ?_) ((KC_tr (KC_tr K1 k4) k37 1200 (by omega)).2.2.1 0)
  · rw [e37, st_i_pi_n _ _ _ _ _ _ (by omega), z24, e17, st_i_pi_n _ _ _ _ _ _ (by omega)]; exact e4
  · rw [e37, st_i_pi_s]
theorem lc_conflict {m b len kc ks N : Nat} {xs : Nat → Int32} {x4 : Int32} {S : xm_S} {V : VV} {g : Int32 → xm_S → Prop} {Z : Option Nat → Option Nat → Option Nat → Int32 → xm_S → Nat → Nat → Prop} (R : RR S V V N) (I : Iv V) (hm : vn V 54 0 ≤ m) (nx : NX m b len xs x4 kc ks g Z) (hv1 : vp_in (x4 + (1 : Int32)) len) (hv2 : vp_in (x4 + nI 2) len) (hv3 : vp_in (x4 + nI 3) len) : wp_L_law_644 b len xs (some 1) (some 1000) (some 1200) x4 S kc ks g Z := by
  obtain ⟨k1, k2, nx⟩ := nx
  unfold wp_L_law_644 wp_L_law_721
  refine ⟨hv1, hv2, hv3, by omega, by omega, w_conflict R I fun S1 N1 R1 h1 => ⟨hv1, hv2, hv3, 1000, rfl, R1.2.1.1.1, by omega, by omega, ml_conflict R1 (Iv_conflict I) I fun S2 b R2 e2 hb hl => ⟨1000, rfl, R2.2.1.1.1, by omega, by omega, m_thrown R2.2.1 e2 ?_⟩⟩⟩
  exact lc_cmp R2.2.2 (by unfold t_conflict; repeat' split
                          all_goals decide) (fun e => hl.trans (h1 e)) hb (nx _ _ _ _ _ R2 (Iv_conflict I) (md v_conflict_54 hm) (by omega) (by omega))
