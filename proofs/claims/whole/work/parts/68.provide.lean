-- provide
def EIv (b n _k : Nat) : Bool := decide (b ≤ n ∧ n < b + 9)
theorem EIv_f {b n k : Nat} (h : n < b ∨ b + 9 ≤ n) : EIv b n k = false := decide_eq_false (by omega)
theorem EIv_t {b n k : Nat} (h : b ≤ n ∧ n < b + 9) : EIv b n k = true := decide_eq_true h
def vQ (V : VV) (a c : Nat) (o m : Int32) : VV := uV (uV (uV V 16 (2 * a + c) o) 17 (2 * a + c) m) 15 a (nI (c + 1))
theorem vQ_f {V : VV} {a c : Nat} {o m : Int32} (f k : Nat) (h1 : f ≠ 15 ∨ k ≠ a) (h2 : f ≠ 16 ∨ k ≠ 2 * a + c) (h3 : f ≠ 17 ∨ k ≠ 2 * a + c) : vQ V a c o m f k = V f k := (uV_n _ _ _ _ _ _ (by omega)).trans ((uV_n _ _ _ _ _ _ (by omega)).trans (uV_n _ _ _ _ _ _ (by omega)))
theorem vQ_16 {V : VV} {a c : Nat} {o m : Int32} : vQ V a c o m 16 (2 * a + c) = o := (uV_n _ _ _ _ _ _ (by omega)).trans ((uV_n _ _ _ _ _ _ (by omega)).trans (uV_s _ _ _ _))
theorem vQ_17 {V : VV} {a c : Nat} {o m : Int32} : vQ V a c o m 17 (2 * a + c) = m := (uV_n _ _ _ _ _ _ (by omega)).trans (uV_s _ _ _ _)
theorem vQ_15 {V : VV} {a c : Nat} {o m : Int32} (hc : c < 2) : vQ V a c o m 15 a = nI (c + 1) ∧ vn (vQ V a c o m) 15 a = c + 1 := ⟨uV_s _ _ _ _, vn_s (n := c + 1) (by omega)⟩
theorem Iv_vQ {V : VV} {a c : Nat} {o m : Int32} (I : Iv V) (ha : a < 24) (u : used V a) (hc : vn V 15 a = c) (c2 : c < 2) (h16 : ∃ n, n ≤ 5 ∧ o = nI n ∧ n ≠ a / 4) (h17 : ∃ n, n ≤ 99999 ∧ m = nI n) : Iv (vQ V a c o m) := by
  have ev : ∀ f k, f ≠ 15 → f ≠ 16 → f ≠ 17 → vQ V a c o m f k = V f k := fun f k h h' h1 => vQ_f f k (by omega) (by omega) (by omega)
  have et : ∀ q, eTs V (vQ V a c o m) q := fun q => ⟨ev _ _ (by omega) (by omega) (by omega), fun s hs => ev _ _ (by omega) (by omega) (by omega)⟩
  have n15 := vQ_15 (V := V) (a := a) (o := o) (m := m) c2
  have n16 := vQ_16 (V := V) (a := a) (c := c) (o := o) (m := m)
  have n17 := vQ_17 (V := V) (a := a) (c := c) (o := o) (m := m)
  obtain ⟨m1, l1, e1, ne⟩ := h16
  obtain ⟨m2, l2, e2⟩ := h17
  refine ⟨?_, ?_, Iv3_e I.2.2.1 (fun f k h => ev f k (by omega) (by omega) (by omega)) (fun q hq _ => et q) (fun q hq => VT_e (I.2.2.1.2.2.2.2.2.2 q hq) (et q)), Iv4_e I.2.2.2.1 fun f k h => ev f k (by omega) (by omega) (by omega), Iv5_e I.2.2.2.2 fun f k h => ev f k (by omega) (by omega) (by omega)⟩
  · obtain ⟨g1, g2, g3, g4⟩ := I.1
    refine ⟨fun k hk => ⟨In_e (g1 k hk).1 (ev _ _ (by omega) (by omega) (by omega)), In_e (g1 k hk).2 (ev _ _ (by omega) (by omega) (by omega))⟩, fun b hb => ?_, fun b hb => ?_, fun b hb hu => ?_⟩
    · obtain ⟨q1, q2, q3, q4, q5, q6⟩ := g2 b hb
      exact ⟨In_e q1 (ev _ _ (by omega) (by omega) (by omega)), In_e q2 (ev _ _ (by omega) (by omega) (by omega)), In_e q3 (ev _ _ (by omega) (by omega) (by omega)), In_e q4 (ev _ _ (by omega) (by omega) (by omega)), In_e q5 (ev _ _ (by omega) (by omega) (by omega)), In_e q6 (ev _ _ (by omega) (by omega) (by omega))⟩
    · obtain ⟨q1, q2, q3, q4⟩ := g3 b hb
      refine ⟨In_e q1 (ev _ _ (by omega) (by omega) (by omega)), In_e q2 (ev _ _ (by omega) (by omega) (by omega)), ?_, In_e q4 (ev _ _ (by omega) (by omega) (by omega))⟩
      by_cases e : b = a
      · rw [e]; exact (In_nI (n := c + 1) n15.1 (by omega) (by omega)).1
      · exact In_e q3 (vQ_f _ _ (by omega) (by omega) (by omega))
    · have hu' : ¬ used V b := by unfold used at hu ⊢; rw [vn_e (ev 2 _ (by omega) (by omega) (by omega))] at hu; exact hu
      have hne : b ≠ a := fun e => hu' (by rw [e]; exact u)
      obtain ⟨q1, q2, q3, q4, q5, q6, q7⟩ := g4 b hb hu'
      rw [vn_e (ev 8 _ (by omega) (by omega) (by omega)), vn_e (ev 13 _ (by omega) (by omega) (by omega)), vn_e (vQ_f 15 b (by omega) (by omega) (by omega)), vn_e (ev 44 _ (by omega) (by omega) (by omega)), ev 7 _ (by omega) (by omega) (by omega), ev 42 _ (by omega) (by omega) (by omega)]
      exact ⟨q1, q2, q3, q4, q5, q6, fun j hj => by rw [ev 40 _ (by omega) (by omega) (by omega)]; exact q7 j hj⟩
  · obtain ⟨g1, g2, g3⟩ := I.2.1
    refine ⟨fun k hk => ?_, fun k hk => ⟨In_e (g2 k hk).1 (ev _ _ (by omega) (by omega) (by omega)), ?_, ?_⟩, fun b hb => ?_⟩
    · obtain ⟨q1, q2, q3, q4⟩ := g1 k hk
      exact ⟨In_e q1 (ev _ _ (by omega) (by omega) (by omega)), In_e q2 (ev _ _ (by omega) (by omega) (by omega)), In_e q3 (ev _ _ (by omega) (by omega) (by omega)), Im_e q4 (ev _ _ (by omega) (by omega) (by omega))⟩
    · by_cases e3 : k = 2 * a + c
      · rw [e3]; exact (In_nI (n := m1) (n16.trans e1) l1 (by omega)).1
      · exact In_e (g2 k hk).2.1 (vQ_f _ _ (by omega) (by omega) (by omega))
    · by_cases e3 : k = 2 * a + c
      · rw [e3]; exact (In_nI (n := m2) (n17.trans e2) l2 (by omega)).1
      · exact In_e (g2 k hk).2.2 (vQ_f _ _ (by omega) (by omega) (by omega))
    · obtain ⟨a1, a2, a3⟩ := g3 b hb
      have b15 := (I.1.2.2.1 b hb).2.2.1.2
      rw [vn_e (ev 8 _ (by omega) (by omega) (by omega)), vn_e (ev 13 _ (by omega) (by omega) (by omega))]
      refine ⟨fun j hj => VR_e (a1 j hj) (et _), fun j hj => ⟨VR_e (a2 j hj).1 (et _), ?_⟩, fun j hj => ?_⟩
      · rw [vn_e (ev 14 _ (by omega) (by omega) (by omega))]; exact (a2 j hj).2
      · by_cases e3 : b = a
        · subst e3
          rw [n15.2] at hj
          by_cases e4 : j = c
          · rw [e4]
            unfold vn
            rw [n16, e1, nI_clamp (by omega)]
            exact ne
          · rw [vn_e (vQ_f 16 _ (by omega) (by omega) (by omega))]; exact a3 j (by omega)
        · rw [vn_e (vQ_f 15 b (by omega) (by omega) (by omega))] at hj
          rw [vn_e (vQ_f 16 _ (by omega) (by omega) (by omega))]; exact a3 j hj
theorem CR_vQ {S : xm_S} {V : VV} {N a c m : Nat} {o : Int32} (ha : a < 24) (u : used V a) (hc : vn V 15 a = c) (c2 : c < 2) (hm : m < 100000) (C : CR S V N) (I : Iv V) : CR (st_pi (st_pi (st_pi S (200 + 20 * a + 3) c o) (200 + 20 * a + 4) c (nI (dgN m))) (200 + 20 * a) 12 (nI (c + 1))) (vQ V a c o (nI m)) N := by
  have ev : ∀ f k, f ≠ 15 → f ≠ 16 → f ≠ 17 → vQ V a c o (nI m) f k = V f k := fun f k h h' h1 => vQ_f f k (by omega) (by omega) (by omega)
  have et : ∀ q, eT V (vQ V a c o (nI m)) q := eT_v fun f k h => ev _ _ (by omega) (by omega) (by omega)
  have n15 := vQ_15 (V := V) (a := a) (o := o) (m := nI m) c2
  have n16 := vQ_16 (V := V) (a := a) (c := c) (o := o) (m := nI m)
  have n17 := vQ_17 (V := V) (a := a) (c := c) (o := o) (m := nI m)
  have K : KX fA0 (EIv (200 + 20 * a)) N S (st_pi (st_pi (st_pi S (200 + 20 * a + 3) c o) (200 + 20 * a + 4) c (nI (dgN m))) (200 + 20 * a) 12 (nI (c + 1))) := KX_pi (KX_pi (KX_pi (KX_rfl _ _ _ _) (EIv_t (by omega))) (EIv_t (by omega))) (EIv_t (by omega))
  have b18 := I.2.2.1.1.2
  have b21 := I.2.2.1.2.2.2.1.2
  obtain ⟨hN, hf, c1, c2, c3, c4, c5, c6, c7, c8, c9, c10, c11, c12, c13⟩ := C
  refine ⟨by omega, hf, gS_X c1 K hN (fun k => by rfl), gX_X c2 c1 K hN (fun k => by exact EIv_f (by omega)) (fun f hf9 => by exact ev _ _ (by omega) (by omega) (by omega)), gO_X c3 K hN (fun k hk => by rfl), gT_X c4 K hN (by rfl) (by exact EIv_f (by omega)) (fun k => by exact EIv_f (by omega)) (by exact et _), gP_X c5 K hN (fun n k hn => by rfl) (fun n k g1 g2 => by exact EIv_f (by omega)) (fun k hk => ⟨by exact ev _ _ (by omega) (by omega) (by omega), by exact ev _ _ (by omega) (by omega) (by omega)⟩), ?_, gW_X c7 K hN (Nat.le_refl _) (fun n k hn => by rfl) (fun n k hn => by exact EIv_f (by omega)) (by exact ev _ _ (by omega) (by omega) (by omega)) (fun j hj => ⟨by exact et _, by exact ev _ _ (by omega) (by omega) (by omega), by exact ev _ _ (by omega) (by omega) (by omega)⟩), gA_X c8 K hN (Nat.le_refl _) (fun n k hn => by rfl) (fun n k hn => by exact EIv_f (by omega)) (by exact ev _ _ (by omega) (by omega) (by omega)) (fun j hj => ⟨by exact et _, by exact ev _ _ (by omega) (by omega) (by omega), by exact ev _ _ (by omega) (by omega) (by omega)⟩), gL_X c9 c1 K hN (fun n k hn => by rfl) (fun n k hn => by exact EIv_f (by omega)) (fun f k hf9 => by exact ev _ _ (by omega) (by omega) (by omega)), gM_X c10 K hN (fun n k hn => by exact EIv_f (by omega)) (fun f k hf9 hk9 => by exact ev _ _ (by omega) (by omega) (by omega)), gI1_X c11 K hN (fun n k hn => by rfl), gI2_X c12 c11 c1 K hN (fun n k hn => by exact EIv_f (by omega)) (fun f k hf9 => by exact ev _ _ (by omega) (by omega) (by omega)), gI3_X c13 c11 K hN (fun k => by rfl) (fun n k hn => by exact EIv_f (by omega)) I.2.2.2.2.2.2.2.2.2.1.2 (fun f k hf9 => by exact ev _ _ (by omega) (by omega) (by omega))⟩
  have bb := I.1.2.2.1 a ha
  have r : ∀ n k, ¬ (n = 200 + 20 * a + 3 ∧ k = c) → ¬ (n = 200 + 20 * a + 4 ∧ k = c) → ¬ (n = 200 + 20 * a ∧ k = 12) → st_i (st_pi (st_pi (st_pi S (200 + 20 * a + 3) c o) (200 + 20 * a + 4) c (nI (dgN m))) (200 + 20 * a) 12 (nI (c + 1))) n k = st_i S n k := fun n k h1 h2 h3 => by rw [st_i_pi_n _ _ _ _ _ _ h3, st_i_pi_n _ _ _ _ _ _ h2, st_i_pi_n _ _ _ _ _ _ h1]
  refine gV_A ha I c6 K hN (Nat.le_refl _) (fun n k h1 h2 => rfl) (fun n k h1 h2 => EIv_f (by omega)) (fun k => ev _ _ (by omega) (by omega) (by omega)) (fun f a' h1 h2 => vQ_f _ _ (by omega) (by omega) (by omega)) (fun a' _ _ j _ => ev _ _ (by omega) (by omega) (by omega)) (fun a' _ j _ => ⟨vQ_f _ _ (by omega) (by omega) (by omega), vQ_f _ _ (by omega) (by omega) (by omega)⟩) (fun a' _ j _ => ⟨ev _ _ (by omega) (by omega) (by omega), ev _ _ (by omega) (by omega) (by omega), ev _ _ (by omega) (by omega) (by omega)⟩) (fun a' h1 h2 j h3 => ⟨et _, fun f hf => ev _ _ (by omega) (by omega) (by omega)⟩) (fun a' _ _ j _ => ⟨et _, ev _ _ (by omega) (by omega) (by omega)⟩) u fun g1 g2 g3 g4 => ⟨gV1_X g1 K (by omega) (fun k => rfl), ?_, ?_, gN_X g4 K (by omega) (Nat.le_refl _) (fun n k _ => rfl) (fun n k h1 => EIv_f (by omega)) (fun f hf => ev _ _ (by omega) (by omega) (by omega)) (fun j _ => ⟨et _, fun f hf => ev _ _ (by omega) (by omega) (by omega)⟩) (fun j _ => ⟨et _, ev _ _ (by omega) (by omega) (by omega)⟩) ⟨bb.1.2, bb.2.1.2⟩⟩
  · obtain ⟨h1, h2, h3, h4, h5, h6, h7, h8, h9, h10⟩ := g2
    unfold gV2
    rw [vn_e (ev 3 a (by omega) (by omega) (by omega)), ev 4 _ (by omega) (by omega) (by omega), ev 5 _ (by omega) (by omega) (by omega), ev 6 _ (by omega) (by omega) (by omega), ev 7 _ (by omega) (by omega) (by omega), ev 42 _ (by omega) (by omega) (by omega), ev 8 _ (by omega) (by omega) (by omega), ev 13 _ (by omega) (by omega) (by omega), ev 44 _ (by omega) (by omega) (by omega)]
    exact ⟨(r _ _ (by omega) (by omega) (by omega)).trans h1, (r _ _ (by omega) (by omega) (by omega)).trans h2, (r _ _ (by omega) (by omega) (by omega)).trans h3, (r _ _ (by omega) (by omega) (by omega)).trans h4, (r _ _ (by omega) (by omega) (by omega)).trans h5, (r _ _ (by omega) (by omega) (by omega)).trans h6, (r _ _ (by omega) (by omega) (by omega)).trans h7, (r _ _ (by omega) (by omega) (by omega)).trans h8, (st_i_pi_s _ _ _ _).trans n15.1.symm, (r _ _ (by omega) (by omega) (by omega)).trans h10⟩
  · obtain ⟨h1, h2, h3⟩ := g3
    refine ⟨fun j hj => ?_, fun j hj => ?_, fun j hj => ?_⟩
    · rw [ev 40 _ (by omega) (by omega) (by omega)]; exact (r _ _ (by omega) (by omega) (by omega)).trans (h1 j hj)
    · rw [n15.2] at hj
      by_cases e : j = c
      · rw [e, n16]
        refine ⟨?_, ?_⟩
        · rw [st_i_pi_n _ _ _ _ _ _ (by omega), st_i_pi_n _ _ _ _ _ _ (by omega), st_i_pi_s]
        · unfold vn
          rw [n17, nI_clamp (by omega), st_i_pi_n _ _ _ _ _ _ (by omega), st_i_pi_s]
      · rw [vQ_f 16 _ (by omega) (by omega) (by omega), vn_e (vQ_f 17 _ (by omega) (by omega) (by omega))]
        exact ⟨(r _ _ (by omega) (by omega) (by omega)).trans (h2 j (by omega)).1, (r _ _ (by omega) (by omega) (by omega)).trans (h2 j (by omega)).2⟩
    · rw [vn_e (ev 44 _ (by omega) (by omega) (by omega))] at hj
      rw [ev 45 _ (by omega) (by omega) (by omega), ev 46 _ (by omega) (by omega) (by omega), ev 47 _ (by omega) (by omega) (by omega)]
      exact ⟨(r _ _ (by omega) (by omega) (by omega)).trans (h3 j hj).1, (r _ _ (by omega) (by omega) (by omega)).trans (h3 j hj).2.1, (r _ _ (by omega) (by omega) (by omega)).trans (h3 j hj).2.2⟩
def pv_2 (p o m : Int32) : Bool := decide (¬ p = o) && inB m 0 (nI 99999)
def t_provide (V : VV) (p v o m : Int32) : Nat := if nd_1 V p v o then (if pv_2 p o m then (if V 15 (at_ p v) < nI 2 then 0 else 3) else 2) else 1
def v_provide (V : VV) (p v o m : Int32) : VV := if t_provide V p v o m = 0 then vQ V (at_ p v) (vn V 15 (at_ p v)) o m else V
def r_provide (V : VV) (p v : Int32) : Int32 := nI (vn V 15 (at_ p v) + 1)
theorem v_provide_54 {V : VV} {p v o m : Int32} : v_provide V p v o m 54 0 = V 54 0 := by
  unfold v_provide
  split
  · exact vQ_f _ _ (by omega) (by omega) (by omega)
  · rfl
theorem pv_x {V : VV} {p v o m : Int32} (I : Iv V) (h : t_provide V p v o m = 0) : ∃ i j, i < 6 ∧ j < vn V 2 i ∧ vn V 2 i ≤ 4 ∧ p = nI i ∧ v = nI j ∧ vn V 15 (4 * i + j) < 2 ∧ (∃ n, n ≤ 5 ∧ o = nI n ∧ n ≠ (4 * i + j) / 4) ∧ ∃ n, n ≤ 99999 ∧ m = nI n := by
  unfold t_provide at h
  by_cases h1 : nd_1 V p v o = true
  · rw [if_pos h1] at h
    by_cases h2 : pv_2 p o m = true
    · rw [if_pos h2] at h
      by_cases h3 : V 15 (at_ p v) < nI 2
      · unfold nd_1 at h1
        rw [Bool.and_eq_true] at h1
        unfold pv_2 at h2
        rw [Bool.and_eq_true] at h2
        have hne := of_decide_eq_true h2.1
        obtain ⟨i, j, hi, hj, hc, ei, ej⟩ := isV_nI I h1.1
        obtain ⟨n, l, e⟩ := inB_nI h1.2 (by decide)
        refine ⟨i, j, hi, hj, hc, ei, ej, ?_, ⟨n, l, e, fun hh => hne ?_⟩, inB_nI h2.2 (by decide)⟩
        · unfold at_ at h3
          rw [ei, ej, nI_clamp (by omega), nI_clamp (by omega)] at h3
          have q := (I.1.2.2.1 (4 * i + j) (by omega)).2.2.1
          have q2 := q.2
          rw [q.1, nI_ltI (by omega) (by decide)] at h3
          exact h3
        · rw [ei, e, hh, show (4 * i + j) / 4 = i by omega]
      · rw [if_neg h3] at h; exact absurd h (by decide)
    · rw [if_neg h2] at h; exact absurd h (by decide)
  · rw [if_neg h1] at h; exact absurd h (by decide)
theorem Iv_provide {V : VV} {p v o m : Int32} (I : Iv V) : Iv (v_provide V p v o m) := by
  unfold v_provide
  split
  next h =>
    obtain ⟨i, j, hi, hj, hc, ei, ej, c4, h16, h17⟩ := pv_x I h
    unfold at_
    rw [ei, ej, nI_clamp (by omega), nI_clamp (by omega)]
    exact Iv_vQ I (by omega) (used_of hj hc) rfl c4 h16 h17
  · exact I
theorem w_provide {S : xm_S} {V W : VV} {N : Nat} {p v o m : Int32} {g : Int32 → xm_S → Prop} (R : RR S V W N) (I : Iv V) (h : ∀ S' N', RR S' (v_provide V p v o m) W N' → (t_provide V p v o m = 0 → st_l S' 1200 0 = (r_provide V p v).toInt64) → g (nI (t_provide V p v o m)) S') : wp_L_provide (some 1) p v o m (some 1200) S g := by
  have I' := Iv_provide (p := p) (v := v) (o := o) (m := m) I
  have c1 := R.1.2.2.1
  have T1 : nd_1 V p v o = false → g 1 S := fun q => by
    have t : t_provide V p v o m = 1 := by unfold t_provide; rw [if_neg (by rw [q]; decide)]
    have w : v_provide V p v o m = V := by unfold v_provide; rw [if_neg (by rw [t]; decide)]
    rw [t, w] at h
    exact h S N R (fun e => absurd e (by decide))
  unfold wp_L_provide wp_X11_provide
  refine ⟨1, rfl, c1.1, c1.1, q_ver R.1 (fun a => q_pack (fun b => ?_) (fun b => .inl ⟨rfl, T1 (by unfold nd_1; rw [b, Bool.and_false])⟩)) (fun a => .inl ⟨rfl, T1 (by unfold nd_1; rw [a, Bool.false_and])⟩)⟩
  have n1 : nd_1 V p v o = true := by unfold nd_1; rw [a, b]; rfl
  have T2 : pv_2 p o m = false → g 2 S := fun q => by
    have t : t_provide V p v o m = 2 := by unfold t_provide; rw [if_pos n1, if_neg (by rw [q]; decide)]
    have w : v_provide V p v o m = V := by unfold v_provide; rw [if_neg (by rw [t]; decide)]
    rw [t, w] at h
    exact h S N R (fun e => absurd e (by decide))
  refine q_other (fun f => q_range (fun d => ⟨c1.1, ?_⟩) (fun d => .inr (.inl ⟨rfl, T2 ?_⟩))) (fun f => .inr (.inl ⟨rfl, T2 ?_⟩))
  · have n2 : pv_2 p o m = true := by unfold pv_2; rw [d, decide_eq_true f]; rfl
    obtain ⟨i, j, hi, hj, hc, ei, ej⟩ := isV_nI I a
    obtain ⟨m', lm, em⟩ := inB_nI d (by decide)
    subst ei ej em
    have ci : (nI i).toNatClampNeg = i := nI_clamp (by omega)
    have cj : (nI j).toNatClampNeg = j := nI_clamp (by omega)
    have ea : at_ (nI i) (nI j) = 4 * i + j := by unfold at_; rw [ci, cj]
    have T : t_provide V (nI i) (nI j) o (nI m') = if V 15 (4 * i + j) < nI 2 then 0 else 3 := by unfold t_provide; rw [if_pos n1, if_pos n2, ea]
    have d4 := gS_4 c1
    have P := CR_gP R.1 i hi
    have vj := CR_ver R.1 I hi hj
    have q8 := (I.1.2.2.1 (4 * i + j) (by omega)).2.2.1
    have q82 := q8.2
    have t1 := vj.2.1
    have x12 := vj.2.2.1.2.2.2.2.2.2.2.2.1
    rw [ci, cj]
    refine ⟨4, d4.1, _, d4.2, vp_in_nI (show i < 6 by omega) (by decide), _, P.2.1, P.1, _, P.2.2.1, _, P.2.2.2.1, vp_in_nI (show j < 4 by omega) (by decide), _, vj.1, t1.1, ?_⟩
    rw [x12]
    refine q_room (fun h8 => ?_) (fun h8 => .inr (.inr ⟨rfl, ?_⟩))
    · have t : t_provide V (nI i) (nI j) o (nI m') = 0 := by rw [T, if_pos h8]
      have w : v_provide V (nI i) (nI j) o (nI m') = vQ V (4 * i + j) (vn V 15 (4 * i + j)) o (nI m') := by unfold v_provide; rw [if_pos t, ea]
      rw [t, w] at h
      rw [w] at I'
      unfold r_provide at h
      rw [ea] at h
      have h8' : vn V 15 (4 * i + j) < 2 := by rw [q8.1, nI_ltI (by omega) (by decide)] at h8; exact h8
      rw [vj.1]
      refine ⟨_, rfl, t1.1, _, rfl, t1.1, _, t1.2.2.2.2.2.1, _, t1.2.2.2.2.2.2.1, by rw [x12, q8.1]; exact vp_in_nI h8' (by decide), fun S40 e40 => ?_⟩
      rw [x12, q8.1, nI_clamp (by omega)] at e40
      have x40 : st_i S40 (200 + 20 * (4 * i + j)) 12 = nI (vn V 15 (4 * i + j)) := by rw [e40, st_i_pi_n _ _ _ _ _ _ (by omega), x12, q8.1]
      refine ⟨_, rfl, by rw [e40]; exact t1.1, _, rfl, by rw [e40]; exact t1.1, cq_digitsOf (by omega) ⟨_, by rw [e40]; exact t1.2.2.2.2.2.2.2.1, _, by rw [e40]; exact t1.2.2.2.2.2.2.2.2.1, by rw [x40]; exact vp_in_nI h8' (by decide), fun S55 e55 => ?_⟩⟩
      rw [x40, nI_clamp (by omega)] at e55
      have x55 : st_i S55 (200 + 20 * (4 * i + j)) 12 = nI (vn V 15 (4 * i + j)) := by rw [e55, st_i_pi_n _ _ _ _ _ _ (by omega), x40]
      refine ⟨_, rfl, by rw [e55, e40]; exact t1.1, _, rfl, by rw [e55, e40]; exact t1.1, fun S63 e63 => ⟨_, rfl, by rw [e63, e55, e40]; exact t1.1, ?_⟩⟩
      rw [x55, nI_1] at e63
      rw [show st_i S63 (200 + 20 * (4 * i + j)) 12 = nI (vn V 15 (4 * i + j) + 1) by rw [e63, st_i_pi_s]]
      have R63 : RR S63 (vQ V (4 * i + j) (vn V 15 (4 * i + j)) o (nI m')) W N := by
        rw [e63, e55, e40]
        exact ⟨CR_vQ (by omega) (used_of hj hc) rfl h8' (by omega) R.1 I, MR_K R.2.1 (KM_pi (KM_pi (KM_pi (KM_rfl _) (by omega)) (by omega)) (by omega)), R.2.2⟩
      exact w_out R63 I' fun S' R' hl => h S' N R' (fun _ => hl)
    · have t : t_provide V (nI i) (nI j) o (nI m') = 3 := by rw [T, if_neg h8]
      have w : v_provide V (nI i) (nI j) o (nI m') = V := by unfold v_provide; rw [if_neg (by rw [t]; decide)]
      rw [t, w] at h
      exact h S N R (fun e => absurd e (by decide))
  · unfold pv_2; rw [d]; simp
  · unfold pv_2; rw [decide_eq_false (fun hh => hh f)]; simp
theorem ml_provide {S : xm_S} {V W : VV} {N : Nat} {p v o m : Int32} {g : Int32 → xm_S → Prop} (R : RR S V W N) (I : Iv V) (IW : Iv W) (h : ∀ S' b, RR S' V (v_provide W p v o m) N → st_i S' 1000 0 = nI (t_provide W p v o m) → (t_provide W p v o m = 0 → b = r_provide W p v) → st_l S' 1200 0 = st_l S 1200 0 → g b S') : wp_X12_provide 1000 p v o m S g := by
  have X : ∀ (t : Nat) x9, t_provide W p v o m = t → t ≠ 0 → t < 100 → wp_X12_provide_102 1000 o m x9 (nI t) (some 1000) S g := fun t x9 et h0 ht => by
    have w : v_provide W p v o m = W := by unfold v_provide; rw [if_neg (by rw [et]; exact h0)]
    rw [w, et] at h
    unfold wp_X12_provide_102
    refine ⟨1000, rfl, R.2.1.1.1, m_may (t := t) R I rfl ht fun S4 R4 k4 e4 => ⟨fun e => absurd e ?_, fun _ => ?_⟩⟩
    · rw [decide_eq_false h0]; exact fun e => e rfl
    · exact h S4 _ R4 e4 (fun e => absurd e h0) ((k4 1200 (by omega)).2.2.1 0)
  have X1 : nd_1 W p v o = false → wp_X12_provide_20 1000 p v o m S g := fun q => by
    have t : t_provide W p v o m = 1 := by unfold t_provide; rw [if_neg (by rw [q]; decide)]
    unfold wp_X12_provide_20 wp_X12_provide_21 wp_X12_provide_48 wp_X12_provide_49 wp_X12_provide_65
    exact ⟨fun _ => ⟨fun _ => ⟨fun e => absurd rfl e, fun _ => X 1 _ t (by decide) (by decide)⟩, fun e => absurd rfl e⟩, fun e => absurd rfl e⟩
  unfold wp_X12_provide
  refine ⟨R.2.1.1.1, m_ver R.2.1 IW (bI_c (fun a => m_pack (bI_c (fun b => ?_) (fun b => X1 (by unfold nd_1; rw [b, Bool.and_false])))) (fun a => X1 (by unfold nd_1; rw [a, Bool.false_and])))⟩
  have n1 : nd_1 W p v o = true := by unfold nd_1; rw [a, b]; rfl
  obtain ⟨i, j, hi, hj, hc, ei, ej⟩ := isV_nI IW a
  subst ei ej
  have ci : (nI i).toNatClampNeg = i := nI_clamp (by omega)
  have cj : (nI j).toNatClampNeg = j := nI_clamp (by omega)
  have ea : at_ (nI i) (nI j) = 4 * i + j := by unfold at_; rw [ci, cj]
  have q8 := (IW.1.2.2.1 (4 * i + j) (by omega)).2.2.1
  have q82 := q8.2
  have X2 : pv_2 (nI i) o m = false → wp_X12_provide_48 1000 (nI i) (nI j) o m 1 S g := fun q => by
    have t : t_provide W (nI i) (nI j) o m = 2 := by unfold t_provide; rw [if_pos n1, if_neg (by rw [q]; decide)]
    unfold wp_X12_provide_48 wp_X12_provide_49 wp_X12_provide_65
    exact ⟨fun e => absurd e (by decide), fun _ => ⟨fun _ => ⟨fun e => absurd rfl e, fun _ => X 2 _ t (by decide) (by decide)⟩, fun e => absurd e (by decide)⟩⟩
  unfold wp_X12_provide_21
  refine ⟨fun e => absurd e (by decide), fun _ => ⟨fun f => X2 (by unfold pv_2; rw [decide_eq_false (fun hh => hh f.symm)]; simp), fun f => m_in (bI_c (fun d => ?_) (fun d => X2 (by unfold pv_2; rw [d]; simp)))⟩⟩
  have n2 : pv_2 (nI i) o m = true := by unfold pv_2; rw [d, decide_eq_true (show ¬ nI i = o from fun hh => f hh.symm)]; rfl
  have T : t_provide W (nI i) (nI j) o m = if W 15 (4 * i + j) < nI 2 then 0 else 3 := by unfold t_provide; rw [if_pos n1, if_pos n2, ea]
  have M1 := R.2.1
  unfold wp_X12_provide_49 wp_X12_provide_65
  rw [pk_mul, nI_add, nI_clamp (show 4 * i + j < 2 ^ 31 by omega)]
  refine ⟨fun e => absurd e (by decide), fun _ => ⟨fun _ => ⟨fun _ => ⟨M1.1.1, _, MS_r M1.1 15, _, MS_t M1.1 15, vp_in_nI (show 4 * i + j < 24 by omega) (by decide), ?_⟩, fun e => absurd e (by decide)⟩, fun e => absurd e (by decide)⟩⟩
  rw [show st_i S (1001 + 15) (4 * i + j) = W 15 (4 * i + j) from M1.2.2 15 _ rfl, q8.1, nI_eq (by omega) (by decide)]
  have lt : W 15 (4 * i + j) < nI 2 ↔ vn W 15 (4 * i + j) < 2 := by rw [q8.1, nI_ltI (by omega) (by decide)]
  refine ⟨fun h8 => ?_, fun h8 => X 3 _ (by rw [T, if_neg (fun hh => by have := lt.mp hh; omega)]) (by decide) (by decide)⟩
  have h8' : vn W 15 (4 * i + j) < 2 := by omega
  have t : t_provide W (nI i) (nI j) o m = 0 := by rw [T, if_pos (lt.mpr h8')]
  have w : v_provide W (nI i) (nI j) o m = vQ W (4 * i + j) (vn W 15 (4 * i + j)) o m := by unfold v_provide; rw [if_pos t, ea]
  rw [t, w] at h
  unfold r_provide at h
  rw [ea] at h
  unfold wp_X12_provide_102
  refine ⟨1000, rfl, M1.1.1, m_may (t := 0) R I rfl (by decide) fun S4 R4 k4 e4 => ⟨fun _ => ?_, fun e => absurd e (by decide)⟩⟩
  have M4 := R4.2.1
  rw [nI_clamp (show 4 * i + j < 2 ^ 31 by omega)]
  refine ⟨M4.1.1, _, MS_r M4.1 15, _, MS_t M4.1 15, vp_in_nI (show 4 * i + j < 24 by omega) (by decide), ?_⟩
  rw [show st_i S4 (1001 + 15) (4 * i + j) = nI (vn W 15 (4 * i + j)) from (M4.2.2 15 _ rfl).trans q8.1, pk_mul, nI_add]
  refine ⟨_, MS_r M4.1 16, _, MS_t M4.1 16, vp_in_nI (show 2 * (4 * i + j) + vn W 15 (4 * i + j) < 48 by omega) (by decide), fun S17 e17 => ?_⟩
  rw [nI_clamp (by omega)] at e17
  have M17 := MR_a (f := 16) (k := 2 * (4 * i + j) + vn W 15 (4 * i + j)) (x := o) M4
  rw [← e17] at M17
  refine ⟨_, MS_r M17.1 15, _, MS_t M17.1 15, vp_in_nI (show 4 * i + j < 24 by omega) (by decide), ?_⟩
  rw [show st_i S17 (1001 + 15) (4 * i + j) = nI (vn W 15 (4 * i + j)) from (M17.2.2 15 _ rfl).trans ((uV_n _ _ _ _ _ _ (by omega)).trans q8.1), nI_add]
  refine ⟨_, MS_r M17.1 17, _, MS_t M17.1 17, vp_in_nI (show 2 * (4 * i + j) + vn W 15 (4 * i + j) < 48 by omega) (by decide), fun S29 e29 => ?_⟩
  rw [nI_clamp (by omega)] at e29
  have M29 := MR_a (f := 17) (k := 2 * (4 * i + j) + vn W 15 (4 * i + j)) (x := m) M17
  rw [← e29] at M29
  refine ⟨_, MS_r M29.1 15, _, MS_t M29.1 15, vp_in_nI (show 4 * i + j < 24 by omega) (by decide), _, MS_r M29.1 15, _, MS_t M29.1 15, vp_in_nI (show 4 * i + j < 24 by omega) (by decide), fun S41 e41 => ?_⟩
  rw [show st_i S29 (1001 + 15) (4 * i + j) = nI (vn W 15 (4 * i + j)) from (M29.2.2 15 _ rfl).trans ((uV_n _ _ _ _ _ _ (by omega)).trans ((uV_n _ _ _ _ _ _ (by omega)).trans q8.1)), nI_1] at e41
  have M41 := MR_a (f := 15) (k := 4 * i + j) (x := nI (vn W 15 (4 * i + j) + 1)) M29
  rw [← e41] at M41
  have k41 : KC S4 S41 := by rw [e41, e29, e17]; exact KC_pi (KC_pi (KC_pi (KC_rfl _) (by omega)) (by omega)) (by omega)
  refine ⟨_, MS_r M41.1 15, _, MS_t M41.1 15, vp_in_nI (show 4 * i + j < 24 by omega) (by decide), ?_⟩
  refine h S41 _ (RR_m R4 I k41 M41) ?_ (fun _ => ?_) ((KC_tr k4 k41 1200 (by omega)).2.2.1 0)
  · rw [e41, st_i_pi_n _ _ _ _ _ _ (by omega), e29, st_i_pi_n _ _ _ _ _ _ (by omega), e17, st_i_pi_n _ _ _ _ _ _ (by omega)]; exact e4
  · rw [e41, st_i_pi_s]
theorem lc_provide {m b len kc ks N : Nat} {xs : Nat → Int32} {x4 : Int32} {S : xm_S} {V : VV} {g : Int32 → xm_S → Prop} {Z : Option Nat → Option Nat → Option Nat → Int32 → xm_S → Nat → Nat → Prop} (R : RR S V V N) (I : Iv V) (hm : vn V 54 0 ≤ m) (nx : NX m b len xs x4 kc ks g Z) (hv1 : vp_in (x4 + (1 : Int32)) len) (hv2 : vp_in (x4 + nI 2) len) (hv3 : vp_in (x4 + nI 3) len) (hv4 : vp_in (x4 + nI 4) len) : wp_L_law_724 b len xs (some 1) (some 1000) (some 1200) x4 S kc ks g Z := by
  obtain ⟨k1, k2, nx⟩ := nx
  unfold wp_L_law_724 wp_L_law_813
  refine ⟨hv1, hv2, hv3, hv4, by omega, by omega, w_provide R I fun S1 N1 R1 h1 => ⟨hv1, hv2, hv3, hv4, 1000, rfl, R1.2.1.1.1, by omega, by omega, ml_provide R1 (Iv_provide I) I fun S2 b R2 e2 hb hl => ⟨1000, rfl, R2.2.1.1.1, by omega, by omega, m_thrown R2.2.1 e2 ?_⟩⟩⟩
  exact lc_cmp R2.2.2 (by unfold t_provide; repeat' split
                          all_goals decide) (fun e => hl.trans (h1 e)) hb (nx _ _ _ _ _ R2 (Iv_provide I) (md v_provide_54 hm) (by omega) (by omega))
