-- a machine becomes like another; rollback
theorem c_put {S : xm_S} {n k : Nat} {x y z : Int32} {g : xm_S → Prop} (gn : gMc S n) (hk : k < 16) (h : g (st_pi (st_pi (st_pi S (n + 2) k x) (n + 3) k y) (n + 4) k z)) : wp_X3_put n (nI k) x y z S g := by
  obtain ⟨t0, r1, t1, r2, t2, r3, t3, r4, t4⟩ := gn
  unfold wp_X3_put
  rw [nI_clamp (show k < 2 ^ 31 by omega)]
  refine ⟨t0, _, r2, _, t2, vp_in_nI hk (by decide), fun S7 e7 => ⟨n + 3, by rw [e7]; exact r3, 16, by rw [e7]; exact t3, vp_in_nI hk (by decide), fun S14 e14 => ⟨n + 4, by rw [e14, e7]; exact r4, 16, by rw [e14, e7]; exact t4, vp_in_nI hk (by decide), fun S21 e21 => ?_⟩⟩⟩
  rw [e21, e14, e7]
  exact h
def BS (S S' : xm_S) : Prop := (∀ q, st_t S' q = st_t S q) ∧ (∀ q k, st_r S' q k = st_r S q k) ∧ ∀ q k, st_l S' q k = st_l S q k
def BO (S S' : xm_S) (n : Nat) : Prop := ∀ q k, ¬ (n + 1 ≤ q ∧ q ≤ n + 4) → st_i S' q k = st_i S q k
def BL (S S' : xm_S) (n m : Nat) : Prop := BS S S' ∧ BO S S' n ∧ (∀ p, p < 6 → st_i S' (n + 1) p = st_i S (m + 1) p) ∧ ∀ j, j < 16 → st_i S' (n + 2) j = st_i S (m + 2) j ∧ st_i S' (n + 3) j = st_i S (m + 3) j ∧ st_i S' (n + 4) j = st_i S (m + 4) j
def bct (S : xm_S) (n m : Nat) : Nat → Int32
  | 0 => 0
  | k + 1 => bct S n m k + (if st_i S (n + 2) k = st_i S (m + 2) k ∧ st_i S (n + 3) k = st_i S (m + 3) k ∧ st_i S (n + 4) k = st_i S (m + 4) k then 0 else 1)
theorem gMc_S {S S' : xm_S} {n : Nat} (h : gMc S n) (b : BS S S') : gMc S' n := by
  obtain ⟨h1, h2, h3, h4, h5, h6, h7, h8, h9⟩ := h
  exact ⟨(b.1 _).trans h1, (b.2.1 _ _).trans h2, (b.1 _).trans h3, (b.2.1 _ _).trans h4, (b.1 _).trans h5, (b.2.1 _ _).trans h6, (b.1 _).trans h7, (b.2.1 _ _).trans h8, (b.1 _).trans h9⟩
theorem c_become {S : xm_S} {n m : Nat} {g : Int32 → xm_S → Prop} (gn : gMc S n) (gm : gMc S m) (hd : n + 5 ≤ m ∨ m + 5 ≤ n) (h : ∀ S', BL S S' n m → g (bct S n m 16) S') : wp_X3_becomeLike n (some m) S g := by
  unfold wp_X3_becomeLike wp_X3_becomeLike_4
  intro Z hZ
  have H : ∀ d k S1, k + d = 16 → BS S S1 → BO S S1 n → (∀ p, p < 6 → st_i S1 (n + 1) p = st_i S (n + 1) p) → (∀ j, j < 16 → if j < k then st_i S1 (n + 2) j = st_i S (m + 2) j ∧ st_i S1 (n + 3) j = st_i S (m + 3) j ∧ st_i S1 (n + 4) j = st_i S (m + 4) j else st_i S1 (n + 2) j = st_i S (n + 2) j ∧ st_i S1 (n + 3) j = st_i S (n + 3) j ∧ st_i S1 (n + 4) j = st_i S (n + 4) j) → Z (some m) (bct S n m k) (nI k) S1 := by
    intro d
    induction d with
    | zero =>
      intro k S1 hk b0 b1 b2 b3
      have hk : k = 16 := by omega
      subst hk
      have gn1 := gMc_S gn b0
      have gm1 := gMc_S gm b0
      refine hZ _ _ _ _ ?_
      unfold wp_X3_becomeLike_4B wp_X3_becomeLike_106
      refine ⟨fun _ Z2 hZ2 => ?_, fun e => absurd (nI_le (Nat.le_refl 16) (by decide)) e⟩
      have H2 : ∀ d k S2, k + d = 6 → BS S S2 → BO S S2 n → (∀ p, p < 6 → st_i S2 (n + 1) p = if p < k then st_i S (m + 1) p else st_i S (n + 1) p) → (∀ j, j < 16 → st_i S2 (n + 2) j = st_i S (m + 2) j ∧ st_i S2 (n + 3) j = st_i S (m + 3) j ∧ st_i S2 (n + 4) j = st_i S (m + 4) j) → Z2 (some m) (bct S n m 16) (nI k) S2 := by
        intro d
        induction d with
        | zero =>
          intro k S2 hk c0 c1 c2 c3
          refine hZ2 _ _ _ _ ?_
          unfold wp_X3_becomeLike_106B
          rw [show k = 6 by omega] at c2 ⊢
          refine ⟨fun _ => h S2 ⟨c0, c1, fun p hp => (c2 p hp).trans (if_pos hp), c3⟩, fun e => absurd (nI_le (Nat.le_refl 6) (by decide)) e⟩
        | succ d ih =>
          intro k S2 hk c0 c1 c2 c3
          obtain ⟨t0, r1, t1, -⟩ := gMc_S gn c0
          obtain ⟨u0, v1, u1, -⟩ := gMc_S gm c0
          refine hZ2 _ _ _ _ ?_
          unfold wp_X3_becomeLike_106B
          rw [nI_clamp (show k < 2 ^ 31 by omega)]
          refine ⟨fun e => absurd e (nI_ge (show k < 6 by omega) (by decide)), fun _ => ⟨t0, m, rfl, u0, _, v1, _, u1, vp_in_nI (show k < 6 by omega) (by decide), _, r1, _, t1, vp_in_nI (show k < 6 by omega) (by decide), fun S46 e46 y ey => ?_⟩⟩
          rw [c1 (m + 1) k (by omega)] at e46
          rw [ey, nI_1]
          refine ih (k + 1) S46 (by omega) (by subst e46; exact c0) (fun q j hq => ?_) (fun p hp => ?_) (fun j hj => ?_)
          · rw [e46, st_i_pi_n _ _ _ _ _ _ (by omega)]; exact c1 q j hq
          · by_cases e : p = k
            · rw [e, e46, st_i_pi_s, if_pos (by omega)]
            · rw [e46, st_i_pi_n _ _ _ _ _ _ (by omega), c2 p hp]
              by_cases e2 : p < k
              · rw [if_pos e2, if_pos (by omega)]
              · rw [if_neg e2, if_neg (by omega)]
          · rw [e46, st_i_pi_n _ _ _ _ _ _ (by omega), st_i_pi_n _ _ _ _ _ _ (by omega), st_i_pi_n _ _ _ _ _ _ (by omega)]
            exact c3 j hj
      exact H2 6 0 S1 rfl b0 b1 (fun p hp => (b2 p hp).trans (if_neg (Nat.not_lt_zero p)).symm) (fun j hj => by have := b3 j hj; rw [if_pos hj] at this; exact this)
    | succ d ih =>
      intro k S1 hk b0 b1 b2 b3
      have gn1 := gMc_S gn b0
      have gm1 := gMc_S gm b0
      obtain ⟨t0, r1, t1, r2, t2, r3, t3, r4, t4⟩ := gn1
      obtain ⟨u0, v1, u1, v2, u2, v3, u3, v4, u4⟩ := gm1
      have x := b3 k (by omega)
      rw [if_neg (Nat.lt_irrefl k)] at x
      have y2 : st_i S1 (m + 2) k = st_i S (m + 2) k := b1 _ _ (by omega)
      have y3 : st_i S1 (m + 3) k = st_i S (m + 3) k := b1 _ _ (by omega)
      have y4 : st_i S1 (m + 4) k = st_i S (m + 4) k := b1 _ _ (by omega)
      -- behind the comparison
      have T : ∀ s, s = (if st_i S (n + 2) k = st_i S (m + 2) k ∧ st_i S (n + 3) k = st_i S (m + 3) k ∧ st_i S (n + 4) k = st_i S (m + 4) k then 0 else 1) → wp_X3_becomeLike_73 n (some m) (nI k) s (bct S n m k) S1 g Z := by
        intro s es
        unfold wp_X3_becomeLike_73
        intro y1 e1
        rw [nI_clamp (show k < 2 ^ 31 by omega)]
        refine ⟨m, rfl, u0, _, v2, _, u2, vp_in_nI (show k < 16 by omega) (by decide), m, rfl, u0, _, v3, _, u3, vp_in_nI (show k < 16 by omega) (by decide), m, rfl, u0, _, v4, _, u4, vp_in_nI (show k < 16 by omega) (by decide), t0, c_put ⟨t0, r1, t1, r2, t2, r3, t3, r4, t4⟩ (by omega) fun y30 e30 => ?_⟩
        rw [e30, nI_1, e1, es, y2, y3, y4]
        refine ih (k + 1) _ (by omega) b0 (fun q j hq => ?_) (fun p hp => ?_) (fun j hj => ?_)
        · rw [st_i_pi_n _ _ _ _ _ _ (by omega), st_i_pi_n _ _ _ _ _ _ (by omega), st_i_pi_n _ _ _ _ _ _ (by omega)]; exact b1 q j hq
        · rw [st_i_pi_n _ _ _ _ _ _ (by omega), st_i_pi_n _ _ _ _ _ _ (by omega), st_i_pi_n _ _ _ _ _ _ (by omega)]; exact b2 p hp
        · by_cases e : j = k
          · rw [e, if_pos (by omega)]
            refine ⟨?_, ?_, ?_⟩
            · rw [st_i_pi_n _ _ _ _ _ _ (by omega), st_i_pi_n _ _ _ _ _ _ (by omega), st_i_pi_s]
            · rw [st_i_pi_n _ _ _ _ _ _ (by omega), st_i_pi_s]
            · rw [st_i_pi_s]
          · have w := b3 j hj
            have z : ∀ a, (st_i (st_pi (st_pi (st_pi S1 (n + 2) k (st_i S (m + 2) k)) (n + 3) k (st_i S (m + 3) k)) (n + 4) k (st_i S (m + 4) k)) a j) = st_i S1 a j := fun a => by rw [st_i_pi_n _ _ _ _ _ _ (by omega), st_i_pi_n _ _ _ _ _ _ (by omega), st_i_pi_n _ _ _ _ _ _ (by omega)]
            rw [z, z, z]
            by_cases e2 : j < k
            · rw [if_pos e2] at w; rw [if_pos (by omega)]; exact w
            · rw [if_neg e2] at w; rw [if_neg (by omega)]; exact w
      have F : ¬ (st_i S (n + 2) k = st_i S (m + 2) k ∧ st_i S (n + 3) k = st_i S (m + 3) k ∧ st_i S (n + 4) k = st_i S (m + 4) k) → wp_X3_becomeLike_59 n (some m) (bct S n m k) (nI k) S1 g Z := fun hh => by
        unfold wp_X3_becomeLike_59 wp_X3_becomeLike_60
        exact ⟨fun _ => T 1 (if_neg hh).symm, fun e => absurd rfl e⟩
      refine hZ _ _ _ _ ?_
      unfold wp_X3_becomeLike_4B
      rw [nI_clamp (show k < 2 ^ 31 by omega)]
      refine ⟨fun e => absurd e (nI_ge (show k < 16 by omega) (by decide)), fun _ => ⟨t0, _, r2, _, t2, vp_in_nI (show k < 16 by omega) (by decide), m, rfl, u0, _, v2, _, u2, vp_in_nI (show k < 16 by omega) (by decide), ?_⟩⟩
      rw [x.1, y2]
      refine ⟨fun e => F (fun hh => e hh.1), fun e => ⟨_, r3, _, t3, vp_in_nI (show k < 16 by omega) (by decide), m, rfl, u0, _, v3, _, u3, vp_in_nI (show k < 16 by omega) (by decide), ?_⟩⟩
      rw [x.2.1, y3]
      refine ⟨fun e2 => F (fun hh => e2 hh.2.1), fun e2 => ⟨_, r4, _, t4, vp_in_nI (show k < 16 by omega) (by decide), m, rfl, u0, _, v4, _, u4, vp_in_nI (show k < 16 by omega) (by decide), ?_⟩⟩
      rw [x.2.2, y4]
      refine ⟨fun e3 => F (fun hh => e3 hh.2.2), fun e3 => ?_⟩
      unfold wp_X3_becomeLike_60
      exact ⟨fun e => absurd e (by decide), fun _ => T 0 (if_pos ⟨e, e2, e3⟩).symm⟩
  exact H 16 0 S rfl ⟨fun _ => rfl, fun _ _ => rfl, fun _ _ => rfl⟩ (fun _ _ _ => rfl) (fun _ _ => rfl) (fun j hj => by rw [if_neg (Nat.not_lt_zero j)]; exact ⟨rfl, rfl, rfl⟩)
-- rollback
def cpV (V : VV) (i k : Nat) : VV := fun f j => if f = 50 ∧ j < k then V 59 (54 * i + j) else V f j
def rlV (V : VV) (i : Nat) (x : Int32) : VV := uV (cpV V i 54) 55 0 x
theorem cpV_0 {V : VV} {i : Nat} : cpV V i 0 = V := by
  funext f j
  unfold cpV
  rw [if_neg (by omega)]
theorem cpV_s {V : VV} {i k : Nat} : uV (cpV V i k) 50 k (V 59 (54 * i + k)) = cpV V i (k + 1) := by
  funext f j
  unfold uV cpV
  by_cases e : f = 50 ∧ j = k
  · rw [if_pos e, if_pos (by omega), e.2]
  · rw [if_neg e]
    by_cases e2 : f = 50 ∧ j < k
    · rw [if_pos e2, if_pos (by omega)]
    · rw [if_neg e2, if_neg (by omega)]
theorem rlV_f {V : VV} {i : Nat} {x : Int32} (f k : Nat) (h1 : f ≠ 50) (h2 : f ≠ 55) : rlV V i x f k = V f k := (uV_n _ _ _ _ _ _ (by omega)).trans (if_neg (by omega))
theorem rlV_50 {V : VV} {i : Nat} {x : Int32} (k : Nat) (h : k < 54) : rlV V i x 50 k = V 59 (54 * i + k) := (uV_n _ _ _ _ _ _ (by omega)).trans (if_pos ⟨rfl, h⟩)
theorem rlV_55 {V : VV} {i : Nat} {x : Int32} : rlV V i x 55 0 = x := uV_s _ _ _ _
def rbc (V : VV) (i : Nat) : Nat → Int32
  | 0 => 0
  | k + 1 => rbc V i k + (if V 50 (6 + k) = V 59 (54 * i + (6 + k)) ∧ V 50 (22 + k) = V 59 (54 * i + (22 + k)) ∧ V 50 (38 + k) = V 59 (54 * i + (38 + k)) then 0 else 1)
theorem Iv_rl {V : VV} {i : Nat} (I : Iv V) (hi : i < kp_ V) : Iv (rlV V i (V 57 i)) := by
  have ev : ∀ f k, f ≠ 50 → f ≠ 55 → rlV V i (V 57 i) f k = V f k := fun f k h1 h2 => rlV_f f k h1 h2
  have et : ∀ q, eTs V (rlV V i (V 57 i)) q := fun q => ⟨ev _ _ (by omega) (by omega), fun s hs => ev _ _ (by omega) (by omega)⟩
  obtain ⟨g1, g2, g3, g4, g5, g6, g7, g8⟩ := I.2.2.2.2
  refine ⟨Iv1_e I.1 fun f k h => ev f k (by omega) (by omega), Iv2_e I.1 I.2.1 (fun f k h => ev f k (by omega) (by omega)) fun q hq _ => et q, Iv3_e I.2.2.1 (fun f k h => ev f k (by omega) (by omega)) (fun q hq _ => et q) (fun q hq => VT_e (I.2.2.1.2.2.2.2.2.2 q hq) (et q)), Iv4_e I.2.2.2.1 fun f k h => ev f k (by omega) (by omega), fun k hk => ⟨Im_e (g1 k hk).1 (ev _ _ (by omega) (by omega)), In_e (g1 k hk).2 (ev _ _ (by omega) (by omega))⟩, fun k hk => ?_, fun k hk => ?_, In_e g4 (ev _ _ (by omega) (by omega)), ?_, In_e g6 (ev _ _ (by omega) (by omega)), fun k hk => ?_, fun i' j hi hj => ?_⟩
  · have q := (g7 i hi).2.2.2.1 k hk
    have e := rlV_50 (V := V) (i := i) (x := V 57 i) k hk
    rcases q with q | q
    · exact .inl (e.trans q)
    · refine .inr ?_
      unfold In at q ⊢
      rw [show vn (rlV V i (V 57 i)) 50 k = vn V 59 (54 * i + k) by unfold vn; rw [e], e]
      exact q
  · rw [rlV_50 _ (by omega), rlV_50 _ (by omega), rlV_50 _ (by omega)]
    exact (g7 i hi).2.2.2.2 k hk
  · have q := (g7 i hi).1
    refine .inr ?_
    unfold In at q ⊢
    rw [show vn (rlV V i (V 57 i)) 55 0 = vn V 57 i by unfold vn; rw [rlV_55], rlV_55]
    exact q
  · rw [vn_e (ev 56 _ (by omega) (by omega))] at hk
    obtain ⟨a, b, c, d, f⟩ := g7 k hk
    refine ⟨In_e a (ev _ _ (by omega) (by omega)), by rw [vn_e (ev 57 _ (by omega) (by omega)), vn_e (ev 54 _ (by omega) (by omega))]; exact b, In_e c (ev _ _ (by omega) (by omega)), fun j hj => Im_e (d j hj) (ev _ _ (by omega) (by omega)), fun j hj => ?_⟩
    rw [ev 59 _ (by omega) (by omega), ev 59 _ (by omega) (by omega), ev 59 _ (by omega) (by omega)]
    exact f j hj
  · rw [vn_e (ev 56 _ (by omega) (by omega))] at hj
    rw [vn_e (ev 57 _ (by omega) (by omega)), vn_e (ev 57 _ (by omega) (by omega))]
    exact g8 i' j hi hj
def EIr (n k : Nat) : Bool := (n == 24 && k == 3) || decide (26 ≤ n ∧ n ≤ 29)
theorem EIr_f {n k : Nat} (h : ¬ (n = 24 ∧ k = 3) ∧ ¬ (26 ≤ n ∧ n ≤ 29)) : EIr n k = false := by
  unfold EIr
  rw [decide_eq_false h.2, Bool.or_false]
  exact E1_f h.1
theorem EIr_t {n k : Nat} (h : n = 24 ∧ k = 3 ∨ 26 ≤ n ∧ n ≤ 29) : EIr n k = true := by
  unfold EIr
  rcases h with ⟨h1, h2⟩ | h
  · subst h1 h2; rfl
  · rw [decide_eq_true h, Bool.or_true]
theorem BL_KX {ER EI : Nat → Nat → Bool} {N n m : Nat} {S S' : xm_S} (b : BL S S' n m) (e : ∀ q k, n + 1 ≤ q → q ≤ n + 4 → EI q k = true) : KX ER EI N S S' := fun q _ => ⟨KX_ty (b.1.1 q), fun k _ => b.1.2.1 q k, fun k hk => .inr (b.2.1 q k (fun hh => by rw [e q k hh.1 hh.2] at hk; cases hk))⟩
theorem BL_KM {n m : Nat} {S S' : xm_S} (b : BL S S' n m) (e : n + 5 ≤ 1000) : KM S S' := fun q h1 h2 => ⟨b.1.1 q, fun k => b.1.2.1 q k, fun k => b.1.2.2 q k, fun k => b.2.1 q k (by omega)⟩
theorem CR_rl {S S5 S' : xm_S} {V : VV} {N i : Nat} {x : Int32} {π : Nat → Nat} (hi : i < kp_ V) (P : PI3 S V π) (C : CR S V N) (I : Iv V) (e5 : S5 = st_pi S 24 3 x) (b : BL S5 S' 25 (41 + 6 * π i)) : CR S' (rlV V i x) N := by
  have k6 := (kp_6 I).2
  have p6 := (P.1 i (by omega)).1
  have ev : ∀ f k, f ≠ 50 → f ≠ 55 → rlV V i x f k = V f k := fun f k h1 h2 => rlV_f f k h1 h2
  have et : ∀ q, eT V (rlV V i x) q := eT_v fun f k h => ev _ _ (by omega) (by omega)
  have K : KX fA0 EIr N S S' := KX_tr (by rw [e5]; exact KX_pi (KX_rfl _ _ _ _) rfl) (BL_KX b fun q k h1 h2 => EIr_t (by omega)) (Nat.le_refl _)
  have b18 := I.2.2.1.1.2
  have b21 := I.2.2.1.2.2.2.1.2
  obtain ⟨hN, hf0, c1, c2, c3, c4, c5, c6, c7, c8, c9, c10, c11, c12, c13⟩ := C
  have hf : frs N S' := fun n hn => (b.1.1 n).trans (by rw [e5]; exact hf0 n hn)
  refine ⟨by omega, hf, gS_X c1 K hN (fun k => by rfl), gX_X c2 c1 K hN (fun k => by exact EIr_f (by omega)) (fun f hf9 => by exact ev _ _ (by omega) (by omega)), gO_X c3 K hN (fun k hk => by rfl), gT_X c4 K hN (by rfl) (by exact EIr_f (by omega)) (fun k => by exact EIr_f (by omega)) (by exact et _), gP_X c5 K hN (fun n k hn => by rfl) (fun n k g1 g2 => by exact EIr_f (by omega)) (fun k hk => ⟨by exact ev _ _ (by omega) (by omega), by exact ev _ _ (by omega) (by omega)⟩), gV_Y I c6 K hN (Nat.le_refl _) (fun n k hn => by rfl) (fun n k hn => by exact EIr_f (by omega)) (fun f k hf9 => by exact ev _ _ (by omega) (by omega)) (fun q hq => by exact et _), gW_X c7 K hN (Nat.le_refl _) (fun n k hn => by rfl) (fun n k hn => by exact EIr_f (by omega)) (by exact ev _ _ (by omega) (by omega)) (fun j hj => ⟨by exact et _, by exact ev _ _ (by omega) (by omega), by exact ev _ _ (by omega) (by omega)⟩), gA_X c8 K hN (Nat.le_refl _) (fun n k hn => by rfl) (fun n k hn => by exact EIr_f (by omega)) (by exact ev _ _ (by omega) (by omega)) (fun j hj => ⟨by exact et _, by exact ev _ _ (by omega) (by omega), by exact ev _ _ (by omega) (by omega)⟩), gL_X c9 c1 K hN (fun n k hn => by rfl) (fun n k hn => by exact EIr_f (by omega)) (fun f k hf9 => by exact ev _ _ (by omega) (by omega)), gM_X c10 K hN (fun n k hn => by exact EIr_f (by omega)) (fun f k hf9 hk9 => by exact ev _ _ (by omega) (by omega)), gI1_X c11 K hN (fun n k hn => by rfl), ?_, gI3_X c13 c11 K hN (fun k => by rfl) (fun n k hn => by exact EIr_f (by omega)) I.2.2.2.2.2.2.2.2.2.1.2 (fun f k hf9 => by exact ev _ _ (by omega) (by omega))⟩
  obtain ⟨h1, h2, h3, h4, h5, h6, h7⟩ := c12
  obtain ⟨q1, q2, q3⟩ := P.2.2 i hi
  have r5 : ∀ n k, ¬ (n = 24 ∧ k = 3) → st_i S5 n k = st_i S n k := fun n k hh => by rw [e5, st_i_pi_n _ _ _ _ _ _ hh]
  have r : ∀ n k, ¬ (n = 24 ∧ k = 3) → ¬ (26 ≤ n ∧ n ≤ 29) → st_i S' n k = st_i S n k := fun n k hh h' => (b.2.1 n k (by omega)).trans (r5 n k hh)
  unfold gI2
  rw [ev 56 _ (by omega) (by omega), ev 54 _ (by omega) (by omega), ev 52 _ (by omega) (by omega), ev 53 _ (by omega) (by omega)]
  refine ⟨⟨fun p hp => ?_, fun j hj => ?_⟩, (r _ _ (by omega) (by omega)).trans h2, ?_, (r _ _ (by omega) (by omega)).trans h4, (r _ _ (by omega) (by omega)).trans h5, (r _ _ (by omega) (by omega)).trans h6, fun k hk => ?_⟩
  · rw [Nat.zero_add, rlV_50 _ (by omega)]
    exact (b.2.2.1 p hp).trans ((r5 _ _ (by omega)).trans (q3.1 p hp))
  · rw [Nat.zero_add, Nat.zero_add, Nat.zero_add, rlV_50 _ (by omega), rlV_50 _ (by omega), rlV_50 _ (by omega)]
    have w := b.2.2.2 j hj
    have w2 := q3.2 j hj
    exact ⟨w.1.trans ((r5 _ _ (by omega)).trans w2.1), w.2.1.trans ((r5 _ _ (by omega)).trans w2.2.1), w.2.2.trans ((r5 _ _ (by omega)).trans w2.2.2)⟩
  · rw [rlV_55]
    exact (b.2.1 _ _ (by omega)).trans (by rw [e5, st_i_pi_s])
  · rw [ev 48 _ (by omega) (by omega), ev 49 _ (by omega) (by omega), r _ _ (by omega) (by omega), r _ _ (by omega) (by omega)]
    exact h7 k hk
def t_rollback (V : VV) (x : Int32) : Nat := t_run V x
def v_rollback (V : VV) (x : Int32) : VV := match plk V x (kp_ V) with
  | none => V
  | some k => rlV V k x
def r_rollback (V : VV) (x : Int32) : Int32 := match plk V x (kp_ V) with
  | none => 0
  | some k => rbc V k 16
theorem v_rollback_54 {V : VV} {x : Int32} : v_rollback V x 54 0 = V 54 0 := by
  unfold v_rollback
  cases plk V x (kp_ V) with
  | none => rfl
  | some k => exact rlV_f _ _ (by omega) (by omega)
theorem Iv_rollback {V : VV} {x : Int32} (I : Iv V) : Iv (v_rollback V x) := by
  unfold v_rollback
  split
  · exact I
  next k e =>
    obtain ⟨hk, e57⟩ := plk_x _ e
    rw [← e57]
    exact Iv_rl I hk
theorem w_rollback {S : xm_S} {V W : VV} {N : Nat} {x : Int32} {g : Int32 → xm_S → Prop} (R : RR S V W N) (I : Iv V) (h : ∀ S' N', RR S' (v_rollback V x) W N' → (t_rollback V x = 0 → st_l S' 1200 0 = (r_rollback V x).toInt64) → g (nI (t_rollback V x)) S') : wp_L_rollback (some 1) x (some 1200) S g := by
  have I' := Iv_rollback (x := x) I
  have c1 := R.1.2.2.1
  have s := gS_24 c1
  have i1 := CR_gI1 R.1
  have i2 := CR_gI2 R.1
  obtain ⟨π, P⟩ := CR_gI3 R.1
  have P : PI3 S V π := P
  obtain ⟨k1, k2⟩ := kp_6 I
  unfold t_rollback at h
  unfold wp_L_rollback wp_X11_rollback wp_X11_keptGeneration
  refine ⟨1, rfl, c1.1, c1.1, c1.1, 24, s.1, s.2, c_keptAs R I P (fun k e hk e57 => ⟨fun _ => ?_, fun e => absurd e (by simp)⟩) (fun e => ⟨fun hh => absurd rfl hh, fun _ => ⟨rfl, ?_⟩⟩)⟩
  · have t : t_run V x = 0 := by unfold t_run; rw [e]
    have v : v_rollback V x = rlV V k x := by unfold v_rollback; rw [e]
    have r : r_rollback V x = rbc V k 16 := by unfold r_rollback; rw [e]
    rw [t, v, r] at h
    rw [v] at I'
    have p := P.1 k (by omega)
    have gk := i1.2.2.2.2.2.2.2.2.2.2 (π k) p.1
    obtain ⟨q1, q2, q3⟩ := P.2.2 k hk
    refine ⟨24, s.1, s.2, ?_⟩
    unfold wp_X2_returnTo
    refine ⟨_, rfl, gk.1, s.2, fun S5 e5 => ⟨_, rfl, by rw [e5]; exact gk.1, 25, by rw [e5]; exact i1.1, by rw [e5]; exact i1.2.1.1, ?_⟩⟩
    rw [q1, e57] at e5
    have b0 : BS S S5 := by rw [e5]; exact ⟨fun _ => rfl, fun _ _ => rfl, fun _ _ => rfl⟩
    rw [show st_r S5 (40 + 6 * π k) 2 = some (41 + 6 * π k) from (b0.2.1 _ _).trans gk.2.1]
    refine c_become (gMc_S i1.2.1 b0) (gMc_S gk.2.2 b0) (by omega) fun S13 b => ?_
    have R13 : RR S13 (rlV V k x) W N := by
      refine ⟨CR_rl hk P R.1 I e5 b, MR_K R.2.1 (KM_tr (by rw [e5]; exact KM_pi (KM_rfl _) (by omega)) (BL_KM b (by omega))), (b.1.1 _).trans (by rw [e5]; exact R.2.2)⟩
    have Q : ∀ n, n ≤ 16 → bct S5 25 (41 + 6 * π k) n = rbc V k n := by
      intro n
      induction n with
      | zero => intro _; rfl
      | succ n ih =>
        intro hn
        have m := CR_mc R.1 n (by omega)
        have w := q3.2 n (by omega)
        show bct S5 25 (41 + 6 * π k) n + _ = rbc V k n + _
        rw [ih (by omega)]
        have r5 : ∀ a, a ≠ 24 → st_i S5 a n = st_i S a n := fun a ha => by rw [e5, st_i_pi_n _ _ _ _ _ _ (by omega)]
        rw [r5 _ (by omega), r5 _ (by omega), r5 _ (by omega), r5 _ (by omega), r5 _ (by omega), r5 _ (by omega), m.1, m.2.1, m.2.2, w.1, w.2.1, w.2.2]
    rw [Q 16 (Nat.le_refl _)]
    exact w_out R13 I' fun S' R' hl => h S' N R' (fun _ => hl)
  · have t : t_run V x = 1 := by unfold t_run; rw [e]
    have v : v_rollback V x = V := by unfold v_rollback; rw [e]
    rw [t, v] at h
    exact h S N R (fun e => absurd e (by decide))
theorem ml_rollback {S : xm_S} {V W : VV} {N : Nat} {x : Int32} {g : Int32 → xm_S → Prop} (R : RR S V W N) (I : Iv V) (IW : Iv W) (h : ∀ S' b, RR S' V (v_rollback W x) N → st_i S' 1000 0 = nI (t_rollback W x) → (t_rollback W x = 0 → b = r_rollback W x) → st_l S' 1200 0 = st_l S 1200 0 → g b S') : wp_X12_rollback 1000 x S g := by
  obtain ⟨k1, k2⟩ := kp_6 IW
  unfold t_rollback at h
  unfold wp_X12_rollback wp_X12_rollback_17
  refine ⟨R.2.1.1.1, m_placeKept R.2.1 IW ?_⟩
  cases e : plk W x (kp_ W) with
  | none =>
    have t : t_run W x = 1 := by unfold t_run; rw [e]
    have v : v_rollback W x = W := by unfold v_rollback; rw [e]
    rw [t, v] at h
    exact ⟨fun hh => absurd rfl hh, fun _ => ⟨1000, rfl, R.2.1.1.1, m_may (t := 1) R I rfl (by decide) fun S4 R4 k4 e4 => ⟨fun e => absurd rfl e, fun _ => h S4 _ R4 e4 (fun e => absurd e (by decide)) ((k4 1200 (by omega)).2.2.1 0)⟩⟩⟩
  | some i =>
    have hk := (plk_x _ e).1
    have t : t_run W x = 0 := by unfold t_run; rw [e]
    have v : v_rollback W x = rlV W i x := by unfold v_rollback; rw [e]
    have r : r_rollback W x = rbc W i 16 := by unfold r_rollback; rw [e]
    rw [t, v, r] at h
    refine ⟨fun _ => ⟨1000, rfl, R.2.1.1.1, m_may (t := 0) R I rfl (by decide) fun S4 R4 k4 e4 => ⟨fun _ => ?_, fun e => absurd e (by decide)⟩⟩, fun hh => absurd hh (nI_m1 (by omega))⟩
    have M4 := R4.2.1
    rw [show pl_I (some i) = nI i from rfl]
    unfold wp_X12_rollback_30
    intro Z hZ
    have H : ∀ d k, k + d = 16 → Z x (nI i) (rbc W i k) (nI k) S4 := by
      intro d
      induction d with
      | zero =>
        intro k hk0
        refine hZ _ _ _ _ _ ?_
        unfold wp_X12_rollback_30B wp_X12_rollback_116
        rw [show k = 16 by omega]
        refine ⟨fun _ Z2 hZ2 => ?_, fun e => absurd (nI_le (Nat.le_refl 16) (by decide)) e⟩
        have H2 : ∀ d k S1, k + d = 54 → MR S1 (cpV W i k) → KC S4 S1 → st_i S1 1000 0 = 0 → Z2 x (nI i) (rbc W i 16) (nI k) S1 := by
          intro d
          induction d with
          | zero =>
            intro k S1 hk1 M1 K1 z1
            refine hZ2 _ _ _ _ _ ?_
            unfold wp_X12_rollback_116B
            rw [show k = 54 by omega] at M1 ⊢
            refine ⟨fun _ => ⟨M1.1.1, fun S19 e19 => ?_⟩, fun e => absurd (nI_le (Nat.le_refl 54) (by decide)) e⟩
            have M19 := MR_s (f := 55) (x := x) M1
            rw [← e19] at M19
            have k19 : KC S4 S19 := KC_tr K1 (by rw [e19]; exact KC_pi (KC_rfl _) (by omega))
            refine h S19 _ (RR_m R4 I k19 M19) ?_ (fun _ => rfl) ((KC_tr k4 k19 1200 (by omega)).2.2.1 0)
            rw [e19, st_i_pi_n _ _ _ _ _ _ (by omega)]; exact z1
          | succ d ih =>
            intro k S1 hk1 M1 K1 z1
            refine hZ2 _ _ _ _ _ ?_
            unfold wp_X12_rollback_116B
            rw [pk_mul, nI_add, nI_clamp (show 54 * i + k < 2 ^ 31 by omega), nI_clamp (show k < 2 ^ 31 by omega)]
            refine ⟨fun e => absurd e (nI_ge (show k < 54 by omega) (by decide)), fun _ => ⟨M1.1.1, _, MS_r M1.1 59, _, MS_t M1.1 59, vp_in_nI (show 54 * i + k < 378 by omega) (by decide), _, MS_r M1.1 50, _, MS_t M1.1 50, vp_in_nI (show k < 54 by omega) (by decide), fun S32 e32 y ey => ?_⟩⟩
            rw [show st_i S1 (1001 + 59) (54 * i + k) = W 59 (54 * i + k) from (M1.2.2 59 _ rfl).trans (if_neg (by omega))] at e32
            have M32 := MR_a (f := 50) (k := k) (x := W 59 (54 * i + k)) M1
            rw [← e32, cpV_s] at M32
            rw [ey, nI_1]
            refine ih (k + 1) S32 (by omega) M32 (KC_tr K1 (by rw [e32]; exact KC_pi (KC_rfl _) (by omega))) ?_
            rw [e32, st_i_pi_n _ _ _ _ _ _ (by omega)]; exact z1
        exact H2 54 0 S4 rfl (by rw [cpV_0]; exact M4) (KC_rfl _) e4
      | succ d ih =>
        intro k hk0
        have ih := ih (k + 1) (by omega)
        refine hZ _ _ _ _ _ ?_
        unfold wp_X12_rollback_30B wp_X12_rollback_47
        refine ⟨fun e => absurd e (nI_ge (show k < 16 by omega) (by decide)), fun _ y36 e36 Z2 hZ2 => ?_⟩
        rw [nI_add] at e36
        subst e36
        have St : ∀ (b : Bool) a, a < 54 → Z2 x (nI i) (rbc W i k) (nI k) (bI (b && decide (W 50 a = W 59 (54 * i + a)))) (nI (a + 16)) S4 → Z2 x (nI i) (rbc W i k) (nI k) (bI b) (nI a) S4 := by
          intro b a ha hz
          refine hZ2 _ _ _ _ _ _ _ ?_
          unfold wp_X12_rollback_47B wp_X12_rollback_85 wp_X12_rollback_86
          refine ⟨fun e => absurd e (nI_ge ha (by decide)), fun _ => bI_c (fun hb => ?_) (fun hb y ey => ?_)⟩
          · rw [hb, Bool.true_and] at hz
            rw [pk_mul, nI_add, nI_clamp (show 54 * i + a < 2 ^ 31 by omega), nI_clamp (show a < 2 ^ 31 by omega)]
            refine ⟨M4.1.1, _, MS_r M4.1 50, _, MS_t M4.1 50, vp_in_nI ha (by decide), _, MS_r M4.1 59, _, MS_t M4.1 59, vp_in_nI (show 54 * i + a < 378 by omega) (by decide), ?_⟩
            rw [show st_i S4 (1001 + 50) a = W 50 a from M4.2.2 50 _ rfl, show st_i S4 (1001 + 59) (54 * i + a) = W 59 (54 * i + a) from M4.2.2 59 _ rfl]
            refine ⟨fun e y ey => ?_, fun e y ey => ?_⟩
            · rw [decide_eq_false e] at hz
              rw [ey, nI_add]; exact hz
            · rw [decide_eq_true e] at hz
              rw [ey, nI_add]; exact hz
          · rw [hb, Bool.false_and] at hz
            rw [ey, nI_add]; exact hz
        have En : ∀ b : Bool, (b = true ↔ W 50 (6 + k) = W 59 (54 * i + (6 + k)) ∧ W 50 (22 + k) = W 59 (54 * i + (22 + k)) ∧ W 50 (38 + k) = W 59 (54 * i + (38 + k))) → Z2 x (nI i) (rbc W i k) (nI k) (bI b) (nI (54 + k)) S4 := by
          intro b hb
          rw [show rbc W i (k + 1) = rbc W i k + (if W 50 (6 + k) = W 59 (54 * i + (6 + k)) ∧ W 50 (22 + k) = W 59 (54 * i + (22 + k)) ∧ W 50 (38 + k) = W 59 (54 * i + (38 + k)) then 0 else 1) from rfl] at ih
          refine hZ2 _ _ _ _ _ _ _ ?_
          unfold wp_X12_rollback_47B wp_X12_rollback_105
          refine ⟨fun _ => bI_c (fun q y3 e3 y5 e5 => ?_) (fun q y3 e3 y5 e5 => ?_), fun e => absurd (nI_le (show 54 ≤ 54 + k by omega) (by omega)) e⟩
          · rw [if_pos (hb.mp q)] at ih
            rw [e3, e5, nI_1]; exact ih
          · rw [if_neg (fun hh => by rw [hb.mpr hh] at q; cases q)] at ih
            rw [e3, e5, nI_1]; exact ih
        have t1 := St true (6 + k) (by omega)
        rw [Bool.true_and, show 6 + k + 16 = 22 + k by omega] at t1
        have t2 := St (decide (W 50 (6 + k) = W 59 (54 * i + (6 + k)))) (22 + k) (by omega)
        rw [show 22 + k + 16 = 38 + k by omega] at t2
        have t3 := St (decide (W 50 (6 + k) = W 59 (54 * i + (6 + k))) && decide (W 50 (22 + k) = W 59 (54 * i + (22 + k)))) (38 + k) (by omega)
        rw [show 38 + k + 16 = 54 + k by omega] at t3
        exact t1 (t2 (t3 (En _ (by simp [Bool.and_eq_true, and_assoc]))))
    exact H 16 0 rfl
theorem lc_rollback {m b len kc ks N : Nat} {xs : Nat → Int32} {x4 : Int32} {S : xm_S} {V : VV} {g : Int32 → xm_S → Prop} {Z : Option Nat → Option Nat → Option Nat → Int32 → xm_S → Nat → Nat → Prop} (R : RR S V V N) (I : Iv V) (hm : vn V 54 0 ≤ m) (nx : NX m b len xs x4 kc ks g Z) (hv1 : vp_in (x4 + (1 : Int32)) len) : wp_L_law_2870 b len xs (some 1) (some 1000) (some 1200) x4 S kc ks g Z := by
  obtain ⟨k1, k2, nx⟩ := nx
  unfold wp_L_law_2870 wp_L_law_2923
  refine ⟨hv1, by omega, by omega, w_rollback R I fun S1 N1 R1 h1 => ⟨hv1, 1000, rfl, R1.2.1.1.1, by omega, by omega, ml_rollback R1 (Iv_rollback I) I fun S2 b R2 e2 hb hl => ⟨1000, rfl, R2.2.1.1.1, by omega, by omega, m_thrown R2.2.1 e2 ?_⟩⟩⟩
  exact lc_cmp R2.2.2 (by unfold t_rollback t_run; split <;> decide) (fun e => hl.trans (h1 e)) hb (nx _ _ _ _ _ R2 (Iv_rollback I) (md v_rollback_54 hm) (by omega) (by omega))
