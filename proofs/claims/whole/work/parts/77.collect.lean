-- what can go, dropping; collect
def go (V : VV) (k : Nat) : Bool := decide (V 58 k = 0) && decide (V 57 k ≠ V 55 0)
theorem go_c {V : VV} {k : Nat} {A B : Prop} (h1 : go V k = true → A) (h0 : go V k = false → B) : (¬ V 58 k = 0 → B) ∧ (V 58 k = 0 → (V 57 k = V 55 0 → B) ∧ (¬ V 57 k = V 55 0 → A)) := by
  unfold go at h1 h0
  refine ⟨fun e => h0 (by rw [decide_eq_false e]; rfl), fun e => ⟨fun e2 => h0 (by rw [decide_eq_false (p := V 57 k ≠ V 55 0) (fun hh => hh e2)]; simp), fun e2 => h1 (by rw [decide_eq_true e, decide_eq_true (show V 57 k ≠ V 55 0 from e2)]; rfl)⟩⟩
def drV (V : VV) (i : Nat) : VV := fun f k => if f = 56 ∧ k = 0 then nI (kp_ V - 1) else if (f = 57 ∨ f = 58) ∧ i ≤ k ∧ k < kp_ V - 1 then V f (k + 1) else if f = 59 ∧ i ≤ k / 54 ∧ k / 54 < kp_ V - 1 then V 59 (k + 54) else V f k
theorem drV_f {V : VV} {i : Nat} (f k : Nat) (h : f < 56 ∨ 59 < f) : drV V i f k = V f k := by
  unfold drV
  rw [if_neg (by omega), if_neg (by omega), if_neg (by omega)]
theorem drV_56 {V : VV} {i : Nat} (I : Iv V) : drV V i 56 0 = nI (kp_ V - 1) ∧ kp_ (drV V i) = kp_ V - 1 := by
  have k6 := (kp_6 I).2
  have e : drV V i 56 0 = nI (kp_ V - 1) := if_pos ⟨rfl, rfl⟩
  exact ⟨e, by unfold kp_ vn; rw [e, nI_clamp (by unfold kp_ at k6 ⊢; omega)]; rfl⟩
theorem drV_p {V : VV} {i : Nat} (f k : Nat) (hf : f = 57 ∨ f = 58) (hk : k < kp_ V - 1) : drV V i f k = V f (if i ≤ k then k + 1 else k) := by
  unfold drV
  rw [if_neg (by omega)]
  by_cases e : i ≤ k
  · rw [if_pos (by omega), if_pos e]
  · rw [if_neg (by omega), if_neg (by omega), if_neg e]
theorem drV_59 {V : VV} {i k j : Nat} (hk : k < kp_ V - 1) (hj : j < 54) : drV V i 59 (54 * k + j) = V 59 (54 * (if i ≤ k then k + 1 else k) + j) := by
  unfold drV
  rw [if_neg (by omega), if_neg (by omega), show (54 * k + j) / 54 = k by omega]
  by_cases e : i ≤ k
  · rw [if_pos (by omega), if_pos e]; congr 1; omega
  · rw [if_neg (by omega), if_neg e]
theorem Iv_dr {V : VV} {i : Nat} (I : Iv V) (hi : i < kp_ V) : Iv (drV V i) := by
  have ev : ∀ f k, (f < 56 ∨ 59 < f) → drV V i f k = V f k := fun f k h => drV_f f k h
  have et : ∀ q, eTs V (drV V i) q := fun q => ⟨ev _ _ (by omega), fun s hs => ev _ _ (by omega)⟩
  have n56 := drV_56 (i := i) I
  have k6 := (kp_6 I).2
  obtain ⟨g1, g2, g3, g4, g5, g6, g7, g8⟩ := I.2.2.2.2
  refine ⟨Iv1_e I.1 fun f k h => ev f k (by omega), Iv2_e I.1 I.2.1 (fun f k h => ev f k (by omega)) fun q hq _ => et q, Iv3_e I.2.2.1 (fun f k h => ev f k (by omega)) (fun q hq _ => et q) (fun q hq => VT_e (I.2.2.1.2.2.2.2.2.2 q hq) (et q)), Iv4_e I.2.2.2.1 fun f k h => ev f k (by omega), fun k hk => ⟨Im_e (g1 k hk).1 (ev _ _ (by omega)), In_e (g1 k hk).2 (ev _ _ (by omega))⟩, fun k hk => Im_e (g2 k hk) (ev _ _ (by omega)), fun k hk => ?_, In_e g4 (ev _ _ (by omega)), Im_e g5 (ev _ _ (by omega)), ?_, fun k hk => ?_, fun a b hi hj => ?_⟩
  · rw [ev 50 _ (by omega), ev 50 _ (by omega), ev 50 _ (by omega)]; exact g3 k hk
  · exact (In_nI (n := kp_ V - 1) n56.1 (by omega) (by omega)).1
  · have hk : k < kp_ V - 1 := by rw [← n56.2]; exact hk
    have hm : (if i ≤ k then k + 1 else k) < kp_ V := by split <;> omega
    generalize hq : (if i ≤ k then k + 1 else k) = m at hm
    have e7 : drV V i 57 k = V 57 m := by rw [drV_p 57 k (by omega) hk, hq]
    have e8 : drV V i 58 k = V 58 m := by rw [drV_p 58 k (by omega) hk, hq]
    have e9 : ∀ j, j < 54 → drV V i 59 (54 * k + j) = V 59 (54 * m + j) := fun j hj => by rw [drV_59 hk hj, hq]
    obtain ⟨a, b, c, d, f⟩ := g7 m hm
    have v7 : vn (drV V i) 57 k = vn V 57 m := by unfold vn; rw [e7]
    have v8 : vn (drV V i) 58 k = vn V 58 m := by unfold vn; rw [e8]
    refine ⟨?_, ?_, ?_, fun j hj => ?_, fun j hj => ?_⟩
    · unfold In at a ⊢; rw [v7, e7]; exact a
    · rw [v7, vn_e (ev 54 _ (by omega))]; exact b
    · unfold In at c ⊢; rw [v8, e8]; exact c
    · have d := d j hj
      have v9 : vn (drV V i) 59 (54 * k + j) = vn V 59 (54 * m + j) := by unfold vn; rw [e9 j hj]
      unfold Im In at d ⊢
      rw [e9 j hj, v9]
      exact d
    · rw [e9 _ (by omega), e9 _ (by omega), e9 _ (by omega)]
      exact f j hj
  · have hj : b < kp_ V - 1 := by rw [← n56.2]; exact hj
    have v7 : ∀ c, c < kp_ V - 1 → vn (drV V i) 57 c = vn V 57 (if i ≤ c then c + 1 else c) := fun c hc => by unfold vn; rw [drV_p 57 c (by omega) hc]
    rw [v7 a (by omega), v7 b hj]
    refine g8 _ _ ?_ ?_
    · split <;> split <;> omega
    · show _ < kp_ V
      split <;> omega
theorem c_canGo {S : xm_S} {V W : VV} {N k : Nat} {π : Nat → Nat} {g : Int32 → xm_S → Prop} (R : RR S V W N) (I : Iv V) (P : PI3 S V π) (hk : k < kp_ V) (h : g (bI (go V k)) S) : wp_X2_canGo 24 (nI k) S g := by
  have s := gS_24 R.1.2.2.1
  have i1 := CR_gI1 R.1
  have i2 := CR_gI2 R.1
  have k6 := (kp_6 I).2
  have p := P.1 k (by omega)
  have q := P.2.2 k hk
  have gk := i1.2.2.2.2.2.2.2.2.2.2 (π k) p.1
  unfold wp_X2_canGo wp_X2_canGo_32 wp_X2_canGo_33
  rw [nI_clamp (show k < 2 ^ 31 by omega)]
  refine ⟨s.2, 30, i1.2.2.1, _, i1.2.2.2.1, vp_in_nI (show k < 6 by omega) (by decide), _, p.2, gk.1, ?_⟩
  rw [q.2.1]
  have Y := go_c (V := V) (k := k) (A := (bI true = 0 ∨ bI true = 1) ∧ g (bI true) S) (B := (bI false = 0 ∨ bI false = 1) ∧ g (bI false) S) (fun e => ⟨bI_01 _, by rw [← e]; exact h⟩) (fun e => ⟨bI_01 _, by rw [← e]; exact h⟩)
  refine ⟨Y.1, fun e => ⟨30, i1.2.2.1, _, i1.2.2.2.1, vp_in_nI (show k < 6 by omega) (by decide), _, p.2, gk.1, ?_⟩⟩
  rw [q.1, i2.2.2.1]
  exact Y.2 e
def ERd (n _k : Nat) : Bool := n == 30
theorem ERd_f {n k : Nat} (h : n ≠ 30) : ERd n k = false := beq_eq_false_iff_ne.mpr h
theorem CR_dr {S S' : xm_S} {V : VV} {N i : Nat} {π : Nat → Nat} (hi : i < kp_ V) (P : PI3 S V π) (C : CR S V N) (I : Iv V) (hs : ∀ n, st_t S' n = st_t S n) (hr : ∀ n k, n ≠ 30 → st_r S' n k = st_r S n k) (hii : ∀ n k, ¬ (n = 24 ∧ k = 2) → st_i S' n k = st_i S n k) (h24 : st_i S' 24 2 = nI (kp_ V - 1)) (h30 : ∀ j, j < 6 → st_r S' 30 j = some (40 + 6 * (if j = kp_ V - 1 then π i else if i ≤ j ∧ j < kp_ V - 1 then π (j + 1) else π j))) : CR S' (drV V i) N := by
  have ev : ∀ f k, (f < 56 ∨ 59 < f) → drV V i f k = V f k := fun f k h => drV_f f k h
  have et : ∀ q, eT V (drV V i) q := eT_v fun f k h => ev _ _ (by omega)
  have n56 := drV_56 (i := i) I
  have k6 := (kp_6 I).2
  have K : KX ERd (E1 24 2) N S S' := fun n hn => ⟨KX_ty (hs n), fun k hk => hr n k (fun hh => by rw [hh] at hk; cases hk), fun k hk => .inr (hii n k (fun hh => by rw [hh.1, hh.2] at hk; cases hk))⟩
  have b18 := I.2.2.1.1.2
  have b21 := I.2.2.1.2.2.2.1.2
  obtain ⟨hN, hf0, c1, c2, c3, c4, c5, c6, c7, c8, c9, c10, c11, c12, c13⟩ := C
  have hf : frs N S' := fun n hn => (hs n).trans (hf0 n hn)
  refine ⟨by omega, hf, gS_X c1 K hN (fun k => by exact ERd_f (by omega)), gX_X c2 c1 K hN (fun k => by exact E1_f (by omega)) (fun f hf9 => by exact ev _ _ (by omega)), gO_X c3 K hN (fun k hk => by exact ERd_f (by omega)), gT_X c4 K hN (by exact ERd_f (by omega)) (by exact E1_f (by omega)) (fun k => by exact E1_f (by omega)) (by exact et _), gP_X c5 K hN (fun n k hn => by exact ERd_f (by omega)) (fun n k g1 g2 => by exact E1_f (by omega)) (fun k hk => ⟨by exact ev _ _ (by omega), by exact ev _ _ (by omega)⟩), gV_Y I c6 K hN (Nat.le_refl _) (fun n k hn => by exact ERd_f (by omega)) (fun n k hn => by exact E1_f (by omega)) (fun f k hf9 => by exact ev _ _ (by omega)) (fun q hq => by exact et _), gW_X c7 K hN (Nat.le_refl _) (fun n k hn => by exact ERd_f (by omega)) (fun n k hn => by exact E1_f (by omega)) (by exact ev _ _ (by omega)) (fun j hj => ⟨by exact et _, by exact ev _ _ (by omega), by exact ev _ _ (by omega)⟩), gA_X c8 K hN (Nat.le_refl _) (fun n k hn => by exact ERd_f (by omega)) (fun n k hn => by exact E1_f (by omega)) (by exact ev _ _ (by omega)) (fun j hj => ⟨by exact et _, by exact ev _ _ (by omega), by exact ev _ _ (by omega)⟩), gL_X c9 c1 K hN (fun n k hn => by exact ERd_f (by omega)) (fun n k hn => by exact E1_f (by omega)) (fun f k hf9 => by exact ev _ _ (by omega)), gM_X c10 K hN (fun n k hn => by exact E1_f (by omega)) (fun f k hf9 hk9 => by exact ev _ _ (by omega)), gI1_X c11 K hN (fun n k hn => by exact ERd_f (by omega)), ?_, ?_⟩
  · obtain ⟨h1, h2, h3, h4, h5, h6, h7⟩ := c12
    unfold gI2
    rw [n56.1, ev 55 _ (by omega), ev 54 _ (by omega), ev 52 _ (by omega), ev 53 _ (by omega)]
    refine ⟨gMi_X h1 c11.2.1 K (by omega) (fun m j g1 g2 => E1_f (by omega)) (fun j _ => ev 50 _ (by omega)), h24, (hii _ _ (by omega)).trans h3, (hii _ _ (by omega)).trans h4, (hii _ _ (by omega)).trans h5, (hii _ _ (by omega)).trans h6, fun k hk => ?_⟩
    rw [ev 48 _ (by omega), ev 49 _ (by omega), hii _ _ (by omega), hii _ _ (by omega)]
    exact h7 k hk
  · have ne : ∀ a b, a < 6 → b < 6 → a ≠ b → π a ≠ π b := fun a b ha hb hab => PI3_ne P ha hb hab
    refine ⟨fun j => if j = kp_ V - 1 then π i else if i ≤ j ∧ j < kp_ V - 1 then π (j + 1) else π j, fun j hj => ⟨?_, h30 j hj⟩, fun a b hab hb => ?_, fun j hj => ?_⟩
    · dsimp only
      split
      · exact (P.1 i (by omega)).1
      · split
        · exact (P.1 (j + 1) (by omega)).1
        · exact (P.1 j hj).1
    · dsimp only
      by_cases e1 : b = kp_ V - 1
      · rw [if_pos e1, if_neg (show ¬ a = kp_ V - 1 by omega)]
        by_cases e2 : i ≤ a ∧ a < kp_ V - 1
        · rw [if_pos e2]; exact ne _ _ (by omega) (by omega) (by omega)
        · rw [if_neg e2]; exact ne _ _ (by omega) (by omega) (by omega)
      · rw [if_neg e1]
        by_cases e3 : a = kp_ V - 1
        · rw [if_pos e3, if_neg (by omega)]; exact ne _ _ (by omega) (by omega) (by omega)
        · rw [if_neg e3]
          by_cases e2 : i ≤ a ∧ a < kp_ V - 1
          · rw [if_pos e2]
            by_cases e4 : i ≤ b ∧ b < kp_ V - 1
            · rw [if_pos e4]; exact ne _ _ (by omega) (by omega) (by omega)
            · rw [if_neg e4]; exact ne _ _ (by omega) (by omega) (by omega)
          · rw [if_neg e2]
            by_cases e4 : i ≤ b ∧ b < kp_ V - 1
            · rw [if_pos e4]; exact ne _ _ (by omega) (by omega) (by omega)
            · rw [if_neg e4]; exact ne _ _ (by omega) (by omega) (by omega)
    · have hj : j < kp_ V - 1 := by rw [← n56.2]; exact hj
      dsimp only
      rw [if_neg (show ¬ j = kp_ V - 1 by omega), show (if i ≤ j ∧ j < kp_ V - 1 then π (j + 1) else π j) = π (if i ≤ j then j + 1 else j) by by_cases e : i ≤ j; rw [if_pos ⟨e, hj⟩, if_pos e]; rw [if_neg (fun hh => e hh.1), if_neg e]]
      have hm : (if i ≤ j then j + 1 else j) < kp_ V := by split <;> omega
      rw [drV_p 57 j (by omega) hj, drV_p 58 j (by omega) hj]
      have e9 : ∀ a, a < 54 → drV V i 59 (54 * j + a) = V 59 (54 * (if i ≤ j then j + 1 else j) + a) := fun a ha => drV_59 hj ha
      generalize (if i ≤ j then j + 1 else j) = m at hm e9 ⊢
      obtain ⟨q1, q2, q3, q4⟩ := P.2.2 m hm
      have pm := (P.1 m (by omega)).1
      refine ⟨(hii _ _ (by omega)).trans q1, (hii _ _ (by omega)).trans q2, fun p hp => ?_, fun a ha => ?_⟩
      · rw [e9 p (by omega), hii _ _ (by omega)]; exact q3 p hp
      · rw [e9 (6 + a) (by omega), e9 (22 + a) (by omega), e9 (38 + a) (by omega), hii _ _ (by omega), hii _ _ (by omega), hii _ _ (by omega)]
        exact q4 a ha
theorem c_drop {S : xm_S} {V W : VV} {N i : Nat} {g : xm_S → Prop} (R : RR S V W N) (I : Iv V) (hi : i < kp_ V) (h : ∀ S', RR S' (drV V i) W N → KM S S' → g S') : wp_X2_drop 24 (nI i) S g := by
  have s := gS_24 R.1.2.2.1
  have i1 := CR_gI1 R.1
  have i2 := CR_gI2 R.1
  obtain ⟨π, P⟩ := CR_gI3 R.1
  have P : PI3 S V π := P
  obtain ⟨k1, k6⟩ := kp_6 I
  unfold wp_X2_drop wp_X2_drop_12
  rw [i2.2.1, k1, nI_ltI (by omega) (by omega), nI_clamp (show i < 2 ^ 31 by omega)]
  refine ⟨fun e => absurd e (by rw [fa_lt, nI_toInt (by omega)]; show ¬ _ < (0 : Int); omega), fun _ => ⟨s.2, fun _ => ⟨30, i1.2.2.1, _, i1.2.2.2.1, vp_in_nI (show i < 6 by omega) (by decide), ?_⟩, fun e => absurd hi e⟩⟩
  rw [(P.1 i (by omega)).2]
  unfold wp_X2_drop_22
  intro Z hZ
  have H : ∀ d k S1, k + d = kp_ V - 1 → i ≤ k → (∀ n, st_t S1 n = st_t S n) → (∀ n j, n ≠ 30 → st_r S1 n j = st_r S n j) → (∀ n j, st_l S1 n j = st_l S n j) → (∀ n j, st_i S1 n j = st_i S n j) → (∀ j, j < 6 → st_r S1 30 j = some (40 + 6 * (if i ≤ j ∧ j < k then π (j + 1) else π j))) → Z (some (40 + 6 * π i)) (nI k) S1 := by
    intro d
    induction d with
    | zero =>
      intro k S1 hk hik b1 b2 b3 b4 b5
      have gi := i1.2.2.2.2.2.2.2.2.2.2 (π i) (P.1 i (by omega)).1
      refine hZ _ _ _ ?_
      unfold wp_X2_drop_22B
      rw [b4, i2.2.1, k1, nI_1, show k + 1 = kp_ V by omega, show nI (kp_ V) - 1 = nI (kp_ V - 1) from pk_sub (a := kp_ V) (b := 1) (by omega)]
      refine ⟨(b1 _).trans s.2, fun _ S2 e2 => ?_, fun e => absurd (nI_le (Nat.le_refl _) (by omega)) e⟩
      have x2 : st_i S2 24 2 = nI (kp_ V - 1) := by rw [e2, st_i_pi_s]
      rw [x2, nI_clamp (by omega)]
      refine ⟨30, by rw [e2, st_r_pi]; exact (b2 _ _ (by omega)).trans i1.2.2.1, 6, by rw [e2, st_t_pi]; exact (b1 _).trans i1.2.2.2.1, vp_in_nI (show kp_ V - 1 < 6 by omega) (by decide), fun v9 hv => by rw [← Option.some.inj hv, e2, st_t_pi]; exact (b1 _).trans gi.1, fun S10 e10 => ?_⟩
      refine h S10 ⟨CR_dr hi P R.1 I (fun n => ?_) (fun n j hn => ?_) (fun n j hn => ?_) ?_ (fun j hj => ?_), MR_K R.2.1 ?_, ?_⟩ ?_
      · rw [e10, e2]; exact b1 n
      · rw [e10, e2, st_r_pr_n _ _ _ _ _ _ (by omega), st_r_pi]; exact b2 n j hn
      · rw [e10, e2, st_i_pr, st_i_pi_n _ _ _ _ _ _ hn]; exact b4 n j
      · rw [e10, st_i_pr]; exact x2
      · by_cases e : j = kp_ V - 1
        · rw [if_pos e, e10, e, st_r_pr_s]
        · rw [if_neg e, e10, st_r_pr_n _ _ _ _ _ _ (by omega), e2, st_r_pi, b5 j hj, show k = kp_ V - 1 by omega]
      · intro n a b
        rw [e10, e2]
        exact ⟨b1 n, fun j => by rw [st_r_pr_n _ _ _ _ _ _ (by omega), st_r_pi]; exact b2 n j (by omega), fun j => b3 n j, fun j => by rw [st_i_pr, st_i_pi_n _ _ _ _ _ _ (by omega)]; exact b4 n j⟩
      · rw [e10, e2]; exact (b1 _).trans R.2.2
      · intro n a b
        rw [e10, e2]
        exact ⟨b1 n, fun j => by rw [st_r_pr_n _ _ _ _ _ _ (by omega), st_r_pi]; exact b2 n j (by omega), fun j => b3 n j, fun j => by rw [st_i_pr, st_i_pi_n _ _ _ _ _ _ (by omega)]; exact b4 n j⟩
    | succ d ih =>
      intro k S1 hk hik b1 b2 b3 b4 b5
      refine hZ _ _ _ ?_
      unfold wp_X2_drop_22B
      rw [b4, i2.2.1, k1, nI_1, nI_clamp (show k + 1 < 2 ^ 31 by omega), nI_clamp (show k < 2 ^ 31 by omega)]
      have p1 := b5 (k + 1) (by omega)
      rw [if_neg (by omega)] at p1
      have gk := i1.2.2.2.2.2.2.2.2.2.2 (π (k + 1)) (P.1 (k + 1) (by omega)).1
      refine ⟨(b1 _).trans s.2, fun e => absurd e (nI_ge (show k + 1 < kp_ V by omega) (by omega)), fun _ => ⟨30, (b2 _ _ (by omega)).trans i1.2.2.1, _, (b1 _).trans i1.2.2.2.1, vp_in_nI (show k + 1 < 6 by omega) (by decide), 30, (b2 _ _ (by omega)).trans i1.2.2.1, _, (b1 _).trans i1.2.2.2.1, vp_in_nI (show k < 6 by omega) (by decide), ?_⟩⟩
      rw [p1]
      refine ⟨fun v9 hv => by rw [← Option.some.inj hv]; exact (b1 _).trans gk.1, fun S23 e23 y ey => ?_⟩
      rw [ey]
      refine ih (k + 1) S23 (by omega) (by omega) (fun n => by rw [e23]; exact b1 n) (fun n j hn => by rw [e23, st_r_pr_n _ _ _ _ _ _ (by omega)]; exact b2 n j hn) (fun n j => by rw [e23]; exact b3 n j) (fun n j => by rw [e23]; exact b4 n j) (fun j hj => ?_)
      by_cases e : j = k
      · rw [e, e23, st_r_pr_s, if_pos (by omega)]
      · rw [e23, st_r_pr_n _ _ _ _ _ _ (by omega), b5 j hj]
        by_cases e2 : i ≤ j ∧ j < k
        · rw [if_pos e2, if_pos (by omega)]
        · rw [if_neg e2, if_neg (by omega)]
  exact H (kp_ V - 1 - i) i S (by omega) (Nat.le_refl _) (fun _ => rfl) (fun _ _ _ => rfl) (fun _ _ => rfl) (fun _ _ => rfl) (fun j hj => by rw [if_neg (by omega)]; exact (P.1 j hj).2)
-- the reference's
def dr1 (V : VV) (i k : Nat) : VV := fun f j => if f = 56 ∧ j = 0 then nI (kp_ V - 1) else if (f = 57 ∨ f = 58) ∧ i ≤ j ∧ j < k then V f (j + 1) else if f = 59 ∧ i ≤ j / 54 ∧ j / 54 < k then V 59 (j + 54) else V f j
def dr2 (V : VV) (i k c : Nat) : VV := fun f j => if (f = 57 ∨ f = 58) ∧ j = k then V f (k + 1) else if f = 59 ∧ 54 * k ≤ j ∧ j < 54 * k + c then V 59 (j + 54) else dr1 V i k f j
theorem dr1_0 {V : VV} {i : Nat} : uV V 56 0 (nI (kp_ V - 1)) = dr1 V i i := by
  funext f j
  unfold uV dr1
  by_cases e : f = 56 ∧ j = 0
  · rw [if_pos e, if_pos e]
  · rw [if_neg e, if_neg e, if_neg (by omega), if_neg (by omega)]
theorem dr2_0 {V : VV} {i k : Nat} : uV (uV (dr1 V i k) 57 k (V 57 (k + 1))) 58 k (V 58 (k + 1)) = dr2 V i k 0 := by
  funext f j
  unfold uV dr2
  by_cases e : f = 58 ∧ j = k
  · rw [if_pos e, if_pos (by omega), e.1]
  · rw [if_neg e]
    by_cases e2 : f = 57 ∧ j = k
    · rw [if_pos e2, if_pos (by omega), e2.1]
    · rw [if_neg e2, if_neg (by omega), if_neg (by omega)]
theorem dr2_s {V : VV} {i k c : Nat} : uV (dr2 V i k c) 59 (54 * k + c) (V 59 (54 * (k + 1) + c)) = dr2 V i k (c + 1) := by
  funext f j
  unfold uV dr2
  by_cases e : f = 59 ∧ j = 54 * k + c
  · rw [if_pos e, if_neg (by omega), if_pos (by omega), e.2]; congr 1; omega
  · rw [if_neg e]
    by_cases e2 : (f = 57 ∨ f = 58) ∧ j = k
    · rw [if_pos e2, if_pos e2]
    · rw [if_neg e2, if_neg e2]
      by_cases e3 : f = 59 ∧ 54 * k ≤ j ∧ j < 54 * k + c
      · rw [if_pos e3, if_pos (by omega)]
      · rw [if_neg e3, if_neg (by omega)]
theorem dr2_e {V : VV} {i k : Nat} (h : i ≤ k) : dr2 V i k 54 = dr1 V i (k + 1) := by
  funext f j
  unfold dr2 dr1
  by_cases e1 : (f = 57 ∨ f = 58) ∧ j = k
  · rw [if_pos e1, if_neg (by omega), if_pos (by omega), e1.2]
  · rw [if_neg e1]
    by_cases e2 : f = 59 ∧ 54 * k ≤ j ∧ j < 54 * k + 54
    · rw [if_pos e2, if_neg (by omega), if_neg (by omega), if_pos (by omega)]
    · rw [if_neg e2]
      by_cases e3 : f = 56 ∧ j = 0
      · rw [if_pos e3, if_pos e3]
      · rw [if_neg e3, if_neg e3]
        by_cases e4 : (f = 57 ∨ f = 58) ∧ i ≤ j ∧ j < k
        · rw [if_pos e4, if_pos (by omega)]
        · rw [if_neg e4, if_neg (show ¬ ((f = 57 ∨ f = 58) ∧ i ≤ j ∧ j < k + 1) by omega)]
          by_cases e5 : f = 59 ∧ i ≤ j / 54 ∧ j / 54 < k
          · rw [if_pos e5, if_pos (by omega)]
          · rw [if_neg e5, if_neg (show ¬ (f = 59 ∧ i ≤ j / 54 ∧ j / 54 < k + 1) by omega)]
theorem m_drops {S : xm_S} {W : VV} {i : Nat} {g : xm_S → Prop} (M : MR S W) (I : Iv W) (hi : i < kp_ W) (h : ∀ S', KC S S' → MR S' (drV W i) → st_i S' 1000 0 = st_i S 1000 0 → g S') : wp_X12_drops 1000 (nI i) S g := by
  obtain ⟨k1, k6⟩ := kp_6 I
  unfold wp_X12_drops
  refine ⟨M.1.1, fun S45 e45 => ?_⟩
  rw [show st_i S 1000 56 = nI (kp_ W) from (M.2.1 56 rfl).trans k1, show nI (kp_ W) - 1 = nI (kp_ W - 1) from pk_sub (a := kp_ W) (b := 1) (by omega)] at e45
  have M45 := MR_s (f := 56) (x := nI (kp_ W - 1)) M
  rw [← e45, dr1_0 (i := i)] at M45
  have k45 : KC S S45 := by rw [e45]; exact KC_pi (KC_rfl _) (by omega)
  have z45 : st_i S45 1000 0 = st_i S 1000 0 := by rw [e45, st_i_pi_n _ _ _ _ _ _ (by omega)]
  unfold wp_X12_drops_12
  intro Z hZ
  have H : ∀ d k S1, k + d = kp_ W - 1 → i ≤ k → MR S1 (dr1 W i k) → KC S S1 → st_i S1 1000 0 = st_i S 1000 0 → Z (nI k) S1 := by
    intro d
    induction d with
    | zero =>
      intro k S1 hk hik M1 K1 z1
      have e56 : st_i S1 1000 56 = nI (kp_ W - 1) := (M1.2.1 56 rfl).trans (if_pos ⟨rfl, rfl⟩)
      refine hZ _ _ ?_
      unfold wp_X12_drops_12B
      rw [e56]
      rw [show k = kp_ W - 1 by omega] at M1 ⊢
      exact ⟨M1.1.1, fun _ => h S1 K1 M1 z1, fun e => absurd (nI_le (Nat.le_refl _) (by omega)) e⟩
    | succ d ih =>
      intro k S1 hk hik M1 K1 z1
      have e56 : st_i S1 1000 56 = nI (kp_ W - 1) := (M1.2.1 56 rfl).trans (if_pos ⟨rfl, rfl⟩)
      have d57 : dr1 W i k 57 (k + 1) = W 57 (k + 1) := by unfold dr1; rw [if_neg (by omega), if_neg (by omega), if_neg (by omega)]
      have d58 : dr1 W i k 58 (k + 1) = W 58 (k + 1) := by unfold dr1; rw [if_neg (by omega), if_neg (by omega), if_neg (by omega)]
      have B := In_b (I.2.2.2.2.2.2.2.2.2.2.1 (k + 1) (show k + 1 < kp_ W by omega)).2.2.1
      refine hZ _ _ ?_
      unfold wp_X12_drops_12B
      rw [e56, nI_1, nI_clamp (show k + 1 < 2 ^ 31 by omega), nI_clamp (show k < 2 ^ 31 by omega)]
      refine ⟨M1.1.1, fun e => absurd e (nI_ge (show k < kp_ W - 1 by omega) (by omega)), fun _ => ⟨_, MS_r M1.1 57, _, MS_t M1.1 57, vp_in_nI (show k + 1 < 7 by omega) (by decide), _, MS_r M1.1 57, _, MS_t M1.1 57, vp_in_nI (show k < 7 by omega) (by decide), fun S29 e29 => ?_⟩⟩
      rw [show st_i S1 (1001 + 57) (k + 1) = W 57 (k + 1) from (M1.2.2 57 _ rfl).trans d57] at e29
      have M29 := MR_a (f := 57) (k := k) (x := W 57 (k + 1)) M1
      rw [← e29] at M29
      have x58 : st_i S29 (1001 + 58) (k + 1) = W 58 (k + 1) := (M29.2.2 58 _ rfl).trans ((uV_n _ _ _ _ _ _ (by omega)).trans d58)
      refine ⟨_, MS_r M29.1 58, _, MS_t M29.1 58, vp_in_nI (show k + 1 < 7 by omega) (by decide), _, MS_r M29.1 58, _, MS_t M29.1 58, vp_in_nI (show k < 7 by omega) (by decide), by rw [x58, B]; exact bI_01 _, fun S42 e42 => ?_⟩
      rw [x58] at e42
      have M42 := MR_a (f := 58) (k := k) (x := W 58 (k + 1)) M29
      rw [← e42, dr2_0] at M42
      have k42 : KC S S42 := KC_tr K1 (by rw [e42, e29]; exact KC_pi (KC_pi (KC_rfl _) (by omega)) (by omega))
      have z42 : st_i S42 1000 0 = st_i S 1000 0 := by rw [e42, st_i_pi_n _ _ _ _ _ _ (by omega), e29, st_i_pi_n _ _ _ _ _ _ (by omega)]; exact z1
      unfold wp_X12_drops_50
      intro Z2 hZ2
      have H2 : ∀ d c S2, c + d = 54 → MR S2 (dr2 W i k c) → KC S S2 → st_i S2 1000 0 = st_i S 1000 0 → Z2 (nI k) (nI c) S2 := by
        intro d
        induction d with
        | zero =>
          intro c S2 hc M2 K2 z2
          rw [show c = 54 by omega] at M2 ⊢
          rw [dr2_e hik] at M2
          refine hZ2 _ _ _ ?_
          unfold wp_X12_drops_50B
          refine ⟨fun _ y ey => ?_, fun e => absurd (nI_le (Nat.le_refl 54) (by decide)) e⟩
          rw [ey, nI_1]
          exact ih (k + 1) S2 (by omega) (by omega) M2 K2 z2
        | succ d ih2 =>
          intro c S2 hc M2 K2 z2
          have d59 : dr2 W i k c 59 (54 * (k + 1) + c) = W 59 (54 * (k + 1) + c) := by unfold dr2 dr1; rw [if_neg (by omega), if_neg (by omega), if_neg (by omega), if_neg (by omega), if_neg (by omega)]
          refine hZ2 _ _ _ ?_
          unfold wp_X12_drops_50B
          rw [nI_1, pk_mul, pk_mul, nI_add, nI_add, nI_clamp (show 54 * (k + 1) + c < 2 ^ 31 by omega), nI_clamp (show 54 * k + c < 2 ^ 31 by omega)]
          refine ⟨fun e => absurd e (nI_ge (show c < 54 by omega) (by decide)), fun _ => ⟨M2.1.1, _, MS_r M2.1 59, _, MS_t M2.1 59, vp_in_nI (show 54 * (k + 1) + c < 378 by omega) (by decide), _, MS_r M2.1 59, _, MS_t M2.1 59, vp_in_nI (show 54 * k + c < 378 by omega) (by decide), fun S14 e14 y ey => ?_⟩⟩
          rw [show st_i S2 (1001 + 59) (54 * (k + 1) + c) = W 59 (54 * (k + 1) + c) from (M2.2.2 59 _ rfl).trans d59] at e14
          have M14 := MR_a (f := 59) (k := 54 * k + c) (x := W 59 (54 * (k + 1) + c)) M2
          rw [← e14, dr2_s] at M14
          rw [ey, nI_1]
          refine ih2 (c + 1) S14 (by omega) M14 (KC_tr K2 (by rw [e14]; exact KC_pi (KC_rfl _) (by omega))) ?_
          rw [e14, st_i_pi_n _ _ _ _ _ _ (by omega)]; exact z2
      exact H2 54 0 S42 rfl M42 k42 z42
  exact H (kp_ W - 1 - i) i S45 (by omega) (Nat.le_refl _) M45 k45 z45
-- collect
def colV : Nat → VV → VV
  | 0, V => V
  | k + 1, V => colV k (if go V k then drV V k else V)
def colN : Nat → VV → Nat
  | 0, _ => 0
  | k + 1, V => if go V k then colN k (drV V k) + 1 else colN k V
theorem col_x : ∀ k V, Iv V → k ≤ kp_ V → Iv (colV k V) ∧ kp_ (colV k V) + colN k V = kp_ V ∧ colV k V 54 0 = V 54 0 := by
  intro k
  induction k with
  | zero => intro V I _; exact ⟨I, rfl, rfl⟩
  | succ k ih =>
    intro V I hk
    unfold colV colN
    by_cases e : go V k = true
    · rw [if_pos e, if_pos e]
      have I' := Iv_dr I (show k < kp_ V by omega)
      have q := (drV_56 (i := k) I).2
      obtain ⟨a, b, c⟩ := ih _ I' (by omega)
      exact ⟨a, by omega, c.trans (drV_f _ _ (by omega))⟩
    · rw [if_neg e, if_neg e]
      exact ih V I (by omega)
def dn (k : Nat) : Int32 := nI k - 1
theorem dn_s (k : Nat) : dn (k + 1) = nI k := pk_sub (a := k + 1) (b := 1) (by omega)
theorem dn_0 : dn 0 < 0 := by decide
theorem dn_a (k : Nat) : nI k + (-1 : Int32) = dn k := (Int32.sub_eq_add_neg _ _).symm
theorem colV_s (k : Nat) (V : VV) : colV (k + 1) V = colV k (if go V k then drV V k else V) := rfl
theorem colN_s (k : Nat) (V : VV) : colN (k + 1) V = if go V k then colN k (drV V k) + 1 else colN k V := rfl
theorem dn_n {k : Nat} (h : k < 2 ^ 31) : ¬ nI k < 0 := by
  rw [fa_lt, nI_toInt h]
  show ¬ _ < (0 : Int)
  omega
theorem c_collect {S : xm_S} {V W : VV} {N : Nat} {g : Int32 → xm_S → Prop} (R : RR S V W N) (I : Iv V) (h : ∀ S', RR S' (colV (kp_ V) V) W N → g (nI (colN (kp_ V) V)) S') : wp_X11_collect 1 S g := by
  have c1 := R.1.2.2.1
  have s := gS_24 c1
  obtain ⟨k1, k6⟩ := kp_6 I
  have x2 : st_i S 24 2 = nI (kp_ V) := (CR_gI2 R.1).2.1.trans k1
  unfold wp_X11_collect wp_X2_sweep
  refine ⟨c1.1, 24, s.1, s.2, s.2, fun y11 e11 => ?_⟩
  rw [x2] at e11 ⊢
  have e11 : y11 = dn (kp_ V) := e11
  subst e11
  unfold wp_X2_sweep_9
  intro Z hZ
  have H : ∀ k V1 S1, RR S1 V1 W N → Iv V1 → k ≤ kp_ V1 → colV k V1 = colV (kp_ V) V → Z (nI (kp_ V)) (dn k) S1 := by
    intro k
    induction k with
    | zero =>
      intro V1 S1 R1 I1 hk hc
      have s1 := gS_24 R1.1.2.2.1
      obtain ⟨l1, l6⟩ := kp_6 I1
      have hc : V1 = colV (kp_ V) V := hc
      have q := (col_x (kp_ V) V I (Nat.le_refl _)).2.1
      refine hZ _ _ _ ?_
      unfold wp_X2_sweep_9B
      refine ⟨fun _ => ⟨s1.2, ?_⟩, fun e => absurd dn_0 e⟩
      rw [show st_i S1 24 2 = nI (kp_ V1) from (CR_gI2 R1.1).2.1.trans l1, pk_sub (by rw [hc]; omega), hc, show kp_ V - kp_ (colV (kp_ V) V) = colN (kp_ V) V by omega]
      rw [hc] at R1
      exact h S1 R1
    | succ k ih =>
      intro V1 S1 R1 I1 hk hc
      have s1 := gS_24 R1.1.2.2.1
      obtain ⟨l1, l6⟩ := kp_6 I1
      obtain ⟨π, P⟩ := CR_gI3 R1.1
      have P : PI3 S1 V1 π := P
      rw [colV_s] at hc
      refine hZ _ _ _ ?_
      unfold wp_X2_sweep_9B wp_X2_sweep_26
      rw [dn_s]
      refine ⟨fun e => absurd e (dn_n (by omega)), fun _ => ⟨s1.2, c_canGo R1 I1 P (by omega) (bI_c (fun b => ⟨s1.2, c_drop R1 I1 (by omega) fun S2 R2 _ y ey => ?_⟩) (fun b y ey => ?_))⟩⟩
      · rw [if_pos b] at hc
        have q := (drV_56 (i := k) I1).2
        rw [ey, dn_a]
        exact ih _ S2 R2 (Iv_dr I1 (by omega)) (by omega) hc
      · rw [if_neg (by rw [b]; decide)] at hc
        rw [ey, dn_a]
        exact ih _ S1 R1 I1 (by omega) hc
  exact H (kp_ V) V S R I (Nat.le_refl _) rfl
theorem m_collect {S : xm_S} {V W : VV} {N : Nat} {g : Int32 → xm_S → Prop} (R : RR S V W N) (I : Iv V) (IW : Iv W) (h : ∀ S', RR S' V (colV (kp_ W) W) N → g (nI (colN (kp_ W) W)) S') : wp_X12_collect 1000 S g := by
  have M := R.2.1
  unfold wp_X12_collect
  refine ⟨M.1.1, fun S19 e19 y21 e21 => ?_⟩
  have M19 : MR S19 W := by rw [e19]; exact MR_thr M
  have R19 : RR S19 V W N := RR_m R I (by rw [e19]; exact KC_pi (KC_rfl _) (by omega)) M19
  rw [show st_i S19 1000 56 = nI (kp_ W) from (M19.2.1 56 rfl).trans (kp_6 IW).1] at e21
  have e21 : y21 = dn (kp_ W) := e21
  subst e21
  unfold wp_X12_collect_14
  intro Z hZ
  have H : ∀ k V1 c S1, RR S1 V V1 N → Iv V1 → k ≤ kp_ V1 → colV k V1 = colV (kp_ W) W → c + colN k V1 = colN (kp_ W) W → Z (nI c) (dn k) S1 := by
    intro k
    induction k with
    | zero =>
      intro V1 c S1 R1 I1 hk hc hn
      have hc : V1 = colV (kp_ W) W := hc
      have hn : c = colN (kp_ W) W := hn
      refine hZ _ _ _ ?_
      unfold wp_X12_collect_14B
      rw [hc] at R1
      rw [hn]
      exact ⟨fun _ => h S1 R1, fun e => absurd dn_0 e⟩
    | succ k ih =>
      intro V1 c S1 R1 I1 hk hc hn
      have M1 := R1.2.1
      obtain ⟨l1, l6⟩ := kp_6 I1
      rw [colV_s] at hc
      rw [colN_s] at hn
      refine hZ _ _ _ ?_
      unfold wp_X12_collect_14B
      rw [dn_s, nI_clamp (show k < 2 ^ 31 by omega)]
      have no : go V1 k = false → wp_X12_collect_48 1000 (nI c) (nI k) S1 g Z := fun b => by
        unfold wp_X12_collect_48
        intro y ey
        rw [if_neg (by rw [b]; decide)] at hc hn
        rw [ey, dn_a]
        exact ih _ c S1 R1 I1 (by omega) hc hn
      refine ⟨fun e => absurd e (dn_n (by omega)), fun _ => ⟨M1.1.1, _, MS_r M1.1 58, _, MS_t M1.1 58, vp_in_nI (show k < 7 by omega) (by decide), ?_⟩⟩
      rw [show st_i S1 (1001 + 58) k = V1 58 k from M1.2.2 58 _ rfl]
      have Y := go_c (V := V1) (k := k) (A := wp_X12_drops 1000 (nI k) S1 (fun S14 => ∀ y16, y16 = (nI c + (1 : Int32)) → wp_X12_collect_48 1000 y16 (nI k) S14 g Z)) (fun b => m_drops M1 I1 (by omega) fun S14 k14 M14 z14 y16 e16 => by
        unfold wp_X12_collect_48
        intro y ey
        rw [if_pos b] at hc hn
        have q := (drV_56 (i := k) I1).2
        rw [ey, dn_a, e16, nI_1]
        exact ih _ (c + 1) S14 (RR_m R1 I k14 M14) (Iv_dr I1 (by omega)) (by omega) hc (by omega)) no
      refine ⟨Y.1, fun e => ⟨_, MS_r M1.1 57, _, MS_t M1.1 57, vp_in_nI (show k < 7 by omega) (by decide), ?_⟩⟩
      rw [show st_i S1 (1001 + 57) k = V1 57 k from M1.2.2 57 _ rfl, show st_i S1 1000 55 = V1 55 0 from M1.2.1 55 rfl]
      exact Y.2 e
  exact H (kp_ W) W 0 S19 R19 IW (Nat.le_refl _) rfl (by omega)
theorem lc_collect {m b len kc ks N : Nat} {xs : Nat → Int32} {x4 : Int32} {S : xm_S} {V : VV} {g : Int32 → xm_S → Prop} {Z : Option Nat → Option Nat → Option Nat → Int32 → xm_S → Nat → Nat → Prop} (R : RR S V V N) (I : Iv V) (hm : vn V 54 0 ≤ m) (nx : NX m b len xs x4 kc ks g Z) : wp_L_law_2926 b len xs (some 1) (some 1000) (some 1200) x4 S kc ks g Z := by
  obtain ⟨k1, k2, nx⟩ := nx
  have q := col_x (kp_ V) V I (Nat.le_refl _)
  unfold wp_L_law_2926
  refine ⟨1, rfl, R.1.2.2.1.1, by omega, by omega, c_collect R I fun S1 R1 => ⟨1000, rfl, R1.2.1.1.1, by omega, by omega, m_collect R1 q.1 I fun S2 R2 => ⟨fun _ => nx _ _ _ _ _ R2 q.1 (md q.2.2 hm) (by omega) (by omega), fun e => absurd rfl e⟩⟩⟩
