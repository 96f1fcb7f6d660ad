-- what is made at the beginning: the class's parts
def FO (lo hi : Nat) (S S' : xm_S) : Prop := ∀ m, (m < lo ∨ hi < m) → st_t S' m = st_t S m ∧ (∀ k, st_r S' m k = st_r S m k) ∧ ∀ k, st_i S' m k = st_i S m k
theorem FO_r (lo hi : Nat) (S : xm_S) : FO lo hi S S := fun _ _ => ⟨rfl, fun _ => rfl, fun _ => rfl⟩
theorem FO_t {lo hi : Nat} {S S1 S2 : xm_S} (h : FO lo hi S S1) (h2 : FO lo hi S1 S2) : FO lo hi S S2 := fun m hm => ⟨(h2 m hm).1.trans (h m hm).1, fun k => ((h2 m hm).2.1 k).trans ((h m hm).2.1 k), fun k => ((h2 m hm).2.2 k).trans ((h m hm).2.2 k)⟩
theorem FO_m {lo hi lo' hi' : Nat} {S S1 : xm_S} (h : FO lo hi S S1) (a : lo' ≤ lo) (b : hi ≤ hi') : FO lo' hi' S S1 := fun m hm => h m (by omega)
theorem FO_nw {lo hi n : Nat} {ty : Nat × Nat} {S S1 : xm_S} (h : FO lo hi S S1) (a : lo ≤ n) (b : n ≤ hi) : FO lo hi S (st_nw S1 n ty) := FO_t h fun m hm => ⟨(st_t_nw _ _ _ _).trans (if_neg (by omega)), fun k => (st_r_nw _ _ _ _ _).trans (if_neg (by omega)), fun k => (st_i_nw _ _ _ _ _).trans (if_neg (by omega))⟩
theorem FO_pr {lo hi n k : Nat} {v : Option Nat} {S S1 : xm_S} (h : FO lo hi S S1) (a : lo ≤ n) (b : n ≤ hi) : FO lo hi S (st_pr S1 n k v) := FO_t h fun m hm => ⟨rfl, fun j => st_r_pr_n _ _ _ _ _ _ (by omega), fun _ => rfl⟩
theorem FO_pi {lo hi n k : Nat} {v : Int32} {S S1 : xm_S} (h : FO lo hi S S1) (a : lo ≤ n) (b : n ≤ hi) : FO lo hi S (st_pi S1 n k v) := FO_t h fun m hm => ⟨rfl, fun _ => rfl, fun j => st_i_pi_n _ _ _ _ _ _ (by omega)⟩
theorem i_X8 {S : xm_S} {g : xm_S → Prop} (t : st_t S 2 = some (8, 0)) (n3 : st_t S 3 = none) (h : ∀ S', FO 2 3 S S' → st_t S' 2 = some (8, 0) → st_r S' 2 0 = some 3 → st_t S' 3 = some (102, 40) → st_i S' 2 1 = 0 → g S') : wp_X8_init 2 S g := by
  unfold wp_X8_init
  refine ⟨3, n3, fun S3 e3 => ⟨by rw [e3]; exact t, fun S6 e6 S8 e8 S10 e10 S12 e12 => ?_⟩⟩
  subst e12 e10 e8 e6 e3
  exact h _ (FO_pi (FO_pi (FO_pi (FO_pr (FO_nw (FO_r _ _ _) (by decide) (by decide)) (by decide) (by decide)) (by decide) (by decide)) (by decide) (by decide)) (by decide) (by decide)) t rfl rfl rfl
theorem i_X7 {S : xm_S} {g : xm_S → Prop} (t : st_t S 16 = some (7, 0)) (n : ∀ m, 17 ≤ m → m ≤ 21 → st_t S m = none) (h : ∀ S', FO 16 21 S S' → st_t S' 16 = some (7, 0) → gO S' → g S') : wp_X7_init 16 S g := by
  unfold wp_X7_init
  refine ⟨t, fun S2 e2 S4 e4 S6 e6 S8 e8 => ⟨17, ?_, fun S12 e12 S14 e14 => ⟨18, ?_, fun S18 e18 S20 e20 S22 e22 S24 e24 S26 e26 => ⟨19, ?_, fun S30 e30 S32 e32 => ⟨20, ?_, fun S36 e36 S38 e38 S40 e40 S42 e42 S44 e44 S46 e46 => ⟨21, ?_, fun S50 e50 S52 e52 S54 e54 S56 e56 => ?_⟩⟩⟩⟩⟩⟩
  · subst e8 e6 e4 e2; exact n 17 (by decide) (by decide)
  · subst e14 e12 e8 e6 e4 e2; exact n 18 (by decide) (by decide)
  · subst e26 e24 e22 e20 e18 e14 e12 e8 e6 e4 e2; exact n 19 (by decide) (by decide)
  · subst e32 e30 e26 e24 e22 e20 e18 e14 e12 e8 e6 e4 e2; exact n 20 (by decide) (by decide)
  · subst e46 e44 e42 e40 e38 e36 e32 e30 e26 e24 e22 e20 e18 e14 e12 e8 e6 e4 e2; exact n 21 (by decide) (by decide)
  · have F : FO 16 21 S S56 := by
      subst e56 e54 e52 e50 e46 e44 e42 e40 e38 e36 e32 e30 e26 e24 e22 e20 e18 e14 e12 e8 e6 e4 e2
      repeat (first | exact FO_r _ _ _ | refine FO_pi ?_ (by decide) (by decide) | refine FO_pr ?_ (by decide) (by decide) | refine FO_nw ?_ (by decide) (by decide))
    refine h S56 F ?_ ?_
    · subst e56 e54 e52 e50 e46 e44 e42 e40 e38 e36 e32 e30 e26 e24 e22 e20 e18 e14 e12 e8 e6 e4 e2; exact t
    · subst e56 e54 e52 e50 e46 e44 e42 e40 e38 e36 e32 e30 e26 e24 e22 e20 e18 e14 e12 e8 e6 e4 e2
      exact ⟨rfl, rfl, rfl, rfl, rfl, rfl, rfl, rfl, rfl, rfl⟩
/-- a machine in which nothing is -/
def M0 (S : xm_S) (n : Nat) : Prop := gMc S n ∧ (∀ p, p < 6 → st_i S (n + 1) p = -1) ∧ ∀ j, j < 16 → st_i S (n + 2) j = -1 ∧ st_i S (n + 3) j = -1 ∧ st_i S (n + 4) j = -1
theorem M0_k {lo hi n : Nat} {S S' : xm_S} (F : FO lo hi S S') (h : M0 S n) (o : n + 4 < lo ∨ hi < n) : M0 S' n := by
  obtain ⟨⟨a1, a2, a3, a4, a5, a6, a7, a8, a9⟩, b, c⟩ := h
  refine ⟨⟨(F _ (by omega)).1.trans a1, ((F _ (by omega)).2.1 _).trans a2, (F _ (by omega)).1.trans a3, ((F _ (by omega)).2.1 _).trans a4, (F _ (by omega)).1.trans a5, ((F _ (by omega)).2.1 _).trans a6, (F _ (by omega)).1.trans a7, ((F _ (by omega)).2.1 _).trans a8, (F _ (by omega)).1.trans a9⟩, fun p hp => ((F _ (by omega)).2.2 _).trans (b p hp), fun j hj => ⟨((F _ (by omega)).2.2 _).trans (c j hj).1, ((F _ (by omega)).2.2 _).trans (c j hj).2.1, ((F _ (by omega)).2.2 _).trans (c j hj).2.2⟩⟩
theorem i_X3 {S : xm_S} {n : Nat} {g : xm_S → Prop} (t : st_t S n = some (3, 0)) (fr : ∀ m, n + 1 ≤ m → m ≤ n + 4 → st_t S m = none) (h : ∀ S', FO n (n + 4) S S' → M0 S' n → g S') : wp_X3_init n S g := by
  unfold wp_X3_init
  have ne : ∀ {a b : Nat} {α : Type} {x y : α}, a ≠ b → (if a = b then x else y) = y := fun h => if_neg h
  refine ⟨n + 1, fr _ (by omega) (by omega), fun S37 e37 => ⟨?_, fun S40 e40 => ⟨n + 2, ?_, fun S44 e44 S46 e46 => ⟨n + 3, ?_, fun S50 e50 S52 e52 => ⟨n + 4, ?_, fun S56 e56 S58 e58 => ?_⟩⟩⟩⟩⟩
  · rw [e37, st_t_nw, ne (by omega)]; exact t
  · rw [e40, e37, st_t_pr, st_t_nw, ne (by omega)]; exact fr _ (by omega) (by omega)
  · rw [e46, e44, e40, e37, st_t_pr, st_t_nw, ne (by omega), st_t_pr, st_t_nw, ne (by omega)]; exact fr _ (by omega) (by omega)
  · rw [e52, e50, e46, e44, e40, e37, st_t_pr, st_t_nw, ne (by omega), st_t_pr, st_t_nw, ne (by omega), st_t_pr, st_t_nw, ne (by omega)]; exact fr _ (by omega) (by omega)
  have F58 : FO n (n + 4) S S58 := by
    subst e58 e56 e52 e50 e46 e44 e40 e37
    repeat (first | exact FO_r _ _ _ | refine FO_pr ?_ (by omega) (by omega) | refine FO_nw ?_ (by omega) (by omega))
  have G58 : gMc S58 n := by
    subst e58 e56 e52 e50 e46 e44 e40 e37
    refine ⟨?_, ?_, ?_, ?_, ?_, ?_, ?_, ?_, ?_⟩
    · simp only [st_t_pr, st_t_nw]; rw [ne (by omega), ne (by omega), ne (by omega), ne (by omega)]; exact t
    · rw [st_r_pr_n _ _ _ _ _ _ (by omega), st_r_nw, ne (by omega), st_r_pr_n _ _ _ _ _ _ (by omega), st_r_nw, ne (by omega), st_r_pr_n _ _ _ _ _ _ (by omega), st_r_nw, ne (by omega), st_r_pr_s]
    · simp only [st_t_pr, st_t_nw]; rw [ne (by omega), ne (by omega), ne (by omega), if_pos trivial]
    · rw [st_r_pr_n _ _ _ _ _ _ (by omega), st_r_nw, ne (by omega), st_r_pr_n _ _ _ _ _ _ (by omega), st_r_nw, ne (by omega), st_r_pr_s]
    · simp only [st_t_pr, st_t_nw]; rw [ne (by omega), ne (by omega), if_pos trivial]
    · rw [st_r_pr_n _ _ _ _ _ _ (by omega), st_r_nw, ne (by omega), st_r_pr_s]
    · simp only [st_t_pr, st_t_nw]; rw [ne (by omega), if_pos trivial]
    · rw [st_r_pr_s]
    · simp only [st_t_pr, st_t_nw]; rw [if_pos trivial]
  obtain ⟨a1, a2, a3, a4, a5, a6, a7, a8, a9⟩ := G58
  have gk : ∀ S1, (∀ m, st_t S1 m = st_t S58 m) → (∀ m k, st_r S1 m k = st_r S58 m k) → gMc S1 n := fun S1 f1 f2 => ⟨(f1 _).trans a1, (f2 _ _).trans a2, (f1 _).trans a3, (f2 _ _).trans a4, (f1 _).trans a5, (f2 _ _).trans a6, (f1 _).trans a7, (f2 _ _).trans a8, (f1 _).trans a9⟩
  unfold wp_X3_init_38
  intro Z hZ
  have H : ∀ d p S1, p + d = 6 → FO n (n + 4) S S1 → (∀ m, st_t S1 m = st_t S58 m) → (∀ m k, st_r S1 m k = st_r S58 m k) → (∀ j, j < p → st_i S1 (n + 1) j = -1) → Z (nI p) S1 := by
    intro d
    induction d with
    | zero =>
      intro p S1 hp F1 f1 f2 k1
      refine hZ _ _ ?_
      unfold wp_X3_init_38B wp_X3_init_59
      rw [show p = 6 by omega] at k1 ⊢
      refine ⟨fun _ Z2 hZ2 => ?_, fun e => absurd (nI_le (Nat.le_refl 6) (by decide)) e⟩
      have H2 : ∀ d p S2, p + d = 16 → FO n (n + 4) S S2 → (∀ m, st_t S2 m = st_t S58 m) → (∀ m k, st_r S2 m k = st_r S58 m k) → (∀ j, j < 6 → st_i S2 (n + 1) j = -1) → (∀ j, j < p → st_i S2 (n + 2) j = -1 ∧ st_i S2 (n + 3) j = -1 ∧ st_i S2 (n + 4) j = -1) → Z2 (nI p) S2 := by
        intro d
        induction d with
        | zero =>
          intro p S2 hp F2 f1 f2 k1 k2
          refine hZ2 _ _ ?_
          unfold wp_X3_init_59B
          rw [show p = 16 by omega] at k2 ⊢
          exact ⟨fun _ => h S2 F2 ⟨gk S2 f1 f2, k1, k2⟩, fun e => absurd (nI_le (Nat.le_refl 16) (by decide)) e⟩
        | succ d ih =>
          intro p S2 hp F2 f1 f2 k1 k2
          refine hZ2 _ _ ?_
          unfold wp_X3_init_59B
          rw [nI_clamp (show p < 2 ^ 31 by omega)]
          refine ⟨fun e => absurd e (nI_ge (show p < 16 by omega) (by decide)), fun _ => ⟨(f1 _).trans a1, n + 2, (f2 _ _).trans a4, _, (f1 _).trans a5, vp_in_nI (show p < 16 by omega) (by decide), fun S7 e7 => ⟨n + 3, by rw [e7]; exact (f2 _ _).trans a6, _, by rw [e7]; exact (f1 _).trans a7, vp_in_nI (show p < 16 by omega) (by decide), fun S14 e14 => ⟨n + 4, by rw [e14, e7]; exact (f2 _ _).trans a8, _, by rw [e14, e7]; exact (f1 _).trans a9, vp_in_nI (show p < 16 by omega) (by decide), fun S21 e21 y ey => ?_⟩⟩⟩⟩
          rw [ey, nI_1]
          refine ih (p + 1) S21 (by omega) (by rw [e21, e14, e7]; exact FO_pi (FO_pi (FO_pi F2 (by omega) (by omega)) (by omega) (by omega)) (by omega) (by omega)) (fun m => by rw [e21, e14, e7]; exact f1 m) (fun m k => by rw [e21, e14, e7]; exact f2 m k) (fun j hj => by rw [e21, st_i_pi_n _ _ _ _ _ _ (by omega), e14, st_i_pi_n _ _ _ _ _ _ (by omega), e7, st_i_pi_n _ _ _ _ _ _ (by omega)]; exact k1 j hj) fun j hj => ?_
          by_cases e : j = p
          · rw [e]
            refine ⟨?_, ?_, ?_⟩
            · rw [e21, st_i_pi_n _ _ _ _ _ _ (by omega), e14, st_i_pi_n _ _ _ _ _ _ (by omega), e7, st_i_pi_s]
            · rw [e21, st_i_pi_n _ _ _ _ _ _ (by omega), e14, st_i_pi_s]
            · rw [e21, st_i_pi_s]
          · have q := k2 j (by omega)
            refine ⟨?_, ?_, ?_⟩
            · rw [e21, st_i_pi_n _ _ _ _ _ _ (by omega), e14, st_i_pi_n _ _ _ _ _ _ (by omega), e7, st_i_pi_n _ _ _ _ _ _ (by omega)]; exact q.1
            · rw [e21, st_i_pi_n _ _ _ _ _ _ (by omega), e14, st_i_pi_n _ _ _ _ _ _ (by omega), e7, st_i_pi_n _ _ _ _ _ _ (by omega)]; exact q.2.1
            · rw [e21, st_i_pi_n _ _ _ _ _ _ (by omega), e14, st_i_pi_n _ _ _ _ _ _ (by omega), e7, st_i_pi_n _ _ _ _ _ _ (by omega)]; exact q.2.2
      exact H2 16 0 S1 rfl F1 f1 f2 k1 (fun j hj => absurd hj (Nat.not_lt_zero _))
    | succ d ih =>
      intro p S1 hp F1 f1 f2 k1
      refine hZ _ _ ?_
      unfold wp_X3_init_38B
      rw [nI_clamp (show p < 2 ^ 31 by omega)]
      refine ⟨fun e => absurd e (nI_ge (show p < 6 by omega) (by decide)), fun _ => ⟨(f1 _).trans a1, n + 1, (f2 _ _).trans a2, _, (f1 _).trans a3, vp_in_nI (show p < 6 by omega) (by decide), fun S31 e31 y ey => ?_⟩⟩
      rw [ey, nI_1]
      refine ih (p + 1) S31 (by omega) (by rw [e31]; exact FO_pi F1 (by omega) (by omega)) (fun m => by rw [e31]; exact f1 m) (fun m k => by rw [e31]; exact f2 m k) fun j hj => ?_
      by_cases e : j = p
      · rw [e, e31, st_i_pi_s]
      · rw [e31, st_i_pi_n _ _ _ _ _ _ (by omega)]; exact k1 j (by omega)
  exact H 6 0 S58 rfl F58 (fun _ => rfl) (fun _ _ => rfl) (fun j hj => absurd hj (Nat.not_lt_zero _))
theorem i_X1 {S : xm_S} {n : Nat} {g : xm_S → Prop} (t : st_t S n = some (1, 0)) (fr : ∀ m, n + 1 ≤ m → m ≤ n + 5 → st_t S m = none) (h : ∀ S', FO n (n + 5) S S' → st_t S' n = some (1, 0) → st_r S' n 2 = some (n + 1) → M0 S' (n + 1) → g S') : wp_X1_init n S g := by
  unfold wp_X1_init
  refine ⟨t, fun S2 e2 S4 e4 => ⟨n + 1, by rw [e4, e2]; exact fr _ (by omega) (by omega), fun S8 e8 => i_X3 (by rw [e8, st_t_nw, if_pos rfl]) (fun m h1 h2 => by rw [e8, st_t_nw, if_neg (by omega), e4, e2]; exact fr m (by omega) (by omega)) fun S10 F10 M10 => ?_⟩⟩
  have F8 : FO n (n + 5) S S8 := by rw [e8, e4, e2]; exact FO_nw (FO_pi (FO_pi (FO_r _ _ _) (by omega) (by omega)) (by omega) (by omega)) (by omega) (by omega)
  have t8 : st_t S8 n = some (1, 0) := by rw [e8, st_t_nw, if_neg (by omega), e4, e2]; exact t
  have t10 : st_t S10 n = some (1, 0) := (F10 n (by omega)).1.trans t8
  refine ⟨t10, fun S13 e13 => h S13 ?_ ?_ ?_ ?_⟩
  · rw [e13]; exact FO_pr (FO_t F8 (FO_m F10 (by omega) (by omega))) (by omega) (by omega)
  · rw [e13]; exact t10
  · rw [e13, st_r_pr_s]
  · rw [e13]
    exact M0_k (lo := n) (hi := n) (FO_pr (FO_r _ _ _) (Nat.le_refl _) (Nat.le_refl _)) M10 (by omega)
/-- the installer at the beginning -/
def I0 (S : xm_S) : Prop := st_t S 24 = some (2, 0) ∧ st_r S 24 0 = some 25 ∧ M0 S 25 ∧ st_r S 24 1 = some 30 ∧ st_t S 30 = some (111, 6) ∧ st_r S 24 7 = some 31 ∧ st_t S 31 = some (100, 16) ∧ st_r S 24 8 = some 32 ∧ st_t S 32 = some (100, 16) ∧ st_r S 24 9 = some 33 ∧ st_t S 33 = some (101, 16) ∧ st_i S 24 2 = 0 ∧ st_i S 24 3 = -1 ∧ st_i S 24 4 = 0 ∧ st_i S 24 5 = 0 ∧ st_i S 24 6 = 0
theorem I0_k {lo hi : Nat} {S S' : xm_S} (F : FO lo hi S S') (h : I0 S) (o : 33 < lo ∨ hi < 24) : I0 S' := by
  obtain ⟨a1, a2, a3, a4, a5, a6, a7, a8, a9, a10, a11, a12, a13, a14, a15, a16⟩ := h
  exact ⟨(F _ (by omega)).1.trans a1, ((F _ (by omega)).2.1 _).trans a2, M0_k F a3 (by omega), ((F _ (by omega)).2.1 _).trans a4, (F _ (by omega)).1.trans a5, ((F _ (by omega)).2.1 _).trans a6, (F _ (by omega)).1.trans a7, ((F _ (by omega)).2.1 _).trans a8, (F _ (by omega)).1.trans a9, ((F _ (by omega)).2.1 _).trans a10, (F _ (by omega)).1.trans a11, ((F _ (by omega)).2.2 _).trans a12, ((F _ (by omega)).2.2 _).trans a13, ((F _ (by omega)).2.2 _).trans a14, ((F _ (by omega)).2.2 _).trans a15, ((F _ (by omega)).2.2 _).trans a16⟩
theorem i_X2 {S : xm_S} {g : xm_S → Prop} (t : st_t S 24 = some (2, 0)) (fr : ∀ m, 25 ≤ m → m ≤ 75 → st_t S m = none) (h : ∀ S', FO 24 75 S S' → I0 S' → (∀ k, k < 6 → st_r S' 30 k = some (40 + 6 * k) ∧ st_t S' (40 + 6 * k) = some (1, 0) ∧ st_r S' (40 + 6 * k) 2 = some (41 + 6 * k) ∧ M0 S' (41 + 6 * k)) → (∀ k, k < 16 → st_i S' 31 k = -1) → g S') : wp_X2_init 24 S g := by
  unfold wp_X2_init
  refine ⟨by decide, by decide, 25, fr _ (by decide) (by decide), fun S45 e45 => ⟨by decide, by decide, i_X3 (by rw [e45, st_t_nw, if_pos rfl]) (fun m h1 h2 => by rw [e45, st_t_nw, if_neg (by omega)]; exact fr m (by omega) (by omega)) fun S49 F49 M49 => ?_⟩⟩
  have F45 : FO 24 75 S S45 := by rw [e45]; exact FO_nw (FO_r _ _ _) (by decide) (by decide)
  have F49' : FO 24 75 S S49 := FO_t F45 (FO_m F49 (by decide) (by decide))
  have t49 : st_t S49 24 = some (2, 0) := (F49 24 (by omega)).1.trans (by rw [e45, st_t_nw, if_neg (by decide)]; exact t)
  have fr49 : ∀ m, 30 ≤ m → m ≤ 75 → st_t S49 m = none := fun m h1 h2 => (F49 m (by omega)).1.trans (by rw [e45, st_t_nw, if_neg (by omega)]; exact fr m (by omega) h2)
  refine ⟨t49, fun S52 e52 => ⟨by decide, by decide, 30, by rw [e52]; exact fr49 30 (by decide) (by decide), fun S58 e58 S60 e60 S62 e62 S64 e64 S66 e66 S68 e68 S70 e70 => ⟨by decide, by decide, 31, ?_, fun S76 e76 S78 e78 => ⟨by decide, by decide, 32, ?_, fun S84 e84 S86 e86 => ⟨by decide, by decide, 33, ?_, fun S92 e92 S94 e94 => ?_⟩⟩⟩⟩⟩
  · subst e70 e68 e66 e64 e62 e60 e58 e52; exact fr49 31 (by decide) (by decide)
  · subst e78 e76 e70 e68 e66 e64 e62 e60 e58 e52; exact fr49 32 (by decide) (by decide)
  · subst e86 e84 e78 e76 e70 e68 e66 e64 e62 e60 e58 e52; exact fr49 33 (by decide) (by decide)
  have F94 : FO 24 75 S S94 := by
    subst e94 e92 e86 e84 e78 e76 e70 e68 e66 e64 e62 e60 e58 e52
    repeat (first | exact F49' | refine FO_pi ?_ (by decide) (by decide) | refine FO_pr ?_ (by decide) (by decide) | refine FO_nw ?_ (by decide) (by decide))
  have M94 : M0 S94 25 := by
    have G : ∀ m, (25 ≤ m ∧ m ≤ 29) → st_t S94 m = st_t S49 m ∧ (∀ k, st_r S94 m k = st_r S49 m k) ∧ ∀ k, st_i S94 m k = st_i S49 m k := fun m hm => by
      subst e94 e92 e86 e84 e78 e76 e70 e68 e66 e64 e62 e60 e58 e52
      refine ⟨?_, fun k => ?_, fun k => ?_⟩
      · simp only [st_t_pr, st_t_pi, st_t_nw]; rw [if_neg (by omega), if_neg (by omega), if_neg (by omega), if_neg (by omega)]
      · simp only [st_r_pi, st_r_pr, st_r_nw]
        rw [if_neg (by omega), if_neg (by omega), if_neg (by omega), if_neg (by omega), if_neg (by omega), if_neg (by omega), if_neg (by omega), if_neg (by omega), if_neg (by omega)]
      · simp only [st_i_pi, st_i_pr, st_i_nw]
        rw [if_neg (by omega), if_neg (by omega), if_neg (by omega), if_neg (by omega), if_neg (by omega), if_neg (by omega), if_neg (by omega), if_neg (by omega), if_neg (by omega)]
    obtain ⟨⟨a1, a2, a3, a4, a5, a6, a7, a8, a9⟩, b, c⟩ := M49
    exact ⟨⟨(G _ (by omega)).1.trans a1, ((G _ (by omega)).2.1 _).trans a2, (G _ (by omega)).1.trans a3, ((G _ (by omega)).2.1 _).trans a4, (G _ (by omega)).1.trans a5, ((G _ (by omega)).2.1 _).trans a6, (G _ (by omega)).1.trans a7, ((G _ (by omega)).2.1 _).trans a8, (G _ (by omega)).1.trans a9⟩, fun p hp => ((G _ (by omega)).2.2 _).trans (b p hp), fun j hj => ⟨((G _ (by omega)).2.2 _).trans (c j hj).1, ((G _ (by omega)).2.2 _).trans (c j hj).2.1, ((G _ (by omega)).2.2 _).trans (c j hj).2.2⟩⟩
  have I94 : I0 S94 := by
    refine ⟨?_, ?_, M94, ?_, ?_, ?_, ?_, ?_, ?_, ?_, ?_, ?_, ?_, ?_, ?_, ?_⟩
    all_goals subst e94 e92 e86 e84 e78 e76 e70 e68 e66 e64 e62 e60 e58 e52
    · exact t49
    all_goals rfl
  have fr94 : ∀ m, 34 ≤ m → m ≤ 75 → st_t S94 m = none := fun m h1 h2 => by
    subst e94 e92 e86 e84 e78 e76 e70 e68 e66 e64 e62 e60 e58 e52
    simp only [st_t_pr, st_t_pi, st_t_nw]
    rw [if_neg (by omega), if_neg (by omega), if_neg (by omega), if_neg (by omega)]
    exact fr49 m (by omega) h2
  unfold wp_X2_init_75
  intro Z hZ
  have H : ∀ d k S1 kc ks, k + d = 6 → kc = 9 + 6 * k → ks ≤ 118 + 61 * k → FO 24 75 S S1 → I0 S1 → (∀ m, 40 + 6 * k ≤ m → m ≤ 75 → st_t S1 m = none) → (∀ j, j < k → st_r S1 30 j = some (40 + 6 * j) ∧ st_t S1 (40 + 6 * j) = some (1, 0) ∧ st_r S1 (40 + 6 * j) 2 = some (41 + 6 * j) ∧ M0 S1 (41 + 6 * j)) → Z (nI k) S1 kc ks := by
    intro d
    induction d with
    | zero =>
      intro k S1 kc ks hk hc hs F1 I1 f1 g1
      refine hZ _ _ _ _ ?_
      unfold wp_X2_init_75B wp_X2_init_102
      rw [show k = 6 by omega] at g1 hc hs ⊢
      refine ⟨fun _ Z2 hZ2 => ?_, fun e => absurd (nI_le (Nat.le_refl 6) (by decide)) e⟩
      have H2 : ∀ d j S2, j + d = 16 → FO 24 75 S S2 → FO 31 32 S1 S2 → st_t S2 31 = some (100, 16) → st_t S2 32 = some (100, 16) → (∀ i, i < j → st_i S2 31 i = -1) → Z2 (nI j) S2 kc ks := by
        intro d
        induction d with
        | zero =>
          intro j S2 hj F2 O2 t1 t2 k2
          refine hZ2 _ _ _ _ ?_
          unfold wp_X2_init_102B
          rw [show j = 16 by omega] at k2 ⊢
          refine ⟨fun _ => ⟨by omega, by omega, h S2 F2 ?_ (fun k hk => ?_) k2⟩, fun e => absurd (nI_le (Nat.le_refl 16) (by decide)) e⟩
          · obtain ⟨a1, a2, a3, a4, a5, a6, a7, a8, a9, a10, a11, a12, a13, a14, a15, a16⟩ := I1
            exact ⟨(O2 _ (by omega)).1.trans a1, ((O2 _ (by omega)).2.1 _).trans a2, M0_k O2 a3 (by omega), ((O2 _ (by omega)).2.1 _).trans a4, (O2 _ (by omega)).1.trans a5, ((O2 _ (by omega)).2.1 _).trans a6, t1, ((O2 _ (by omega)).2.1 _).trans a8, t2, ((O2 _ (by omega)).2.1 _).trans a10, (O2 _ (by omega)).1.trans a11, ((O2 _ (by omega)).2.2 _).trans a12, ((O2 _ (by omega)).2.2 _).trans a13, ((O2 _ (by omega)).2.2 _).trans a14, ((O2 _ (by omega)).2.2 _).trans a15, ((O2 _ (by omega)).2.2 _).trans a16⟩
          · obtain ⟨b1, b2, b3, b4⟩ := g1 k hk
            exact ⟨((O2 _ (by omega)).2.1 _).trans b1, (O2 _ (by omega)).1.trans b2, ((O2 _ (by omega)).2.1 _).trans b3, M0_k O2 b4 (by omega)⟩
        | succ d ih =>
          intro j S2 hj F2 O2 t1 t2 k2
          refine hZ2 _ _ _ _ ?_
          unfold wp_X2_init_102B
          rw [nI_clamp (show j < 2 ^ 31 by omega)]
          have r7 : st_r S2 24 7 = some 31 := ((O2 _ (by omega)).2.1 _).trans I1.2.2.2.2.2.1
          have r8 : st_r S2 24 8 = some 32 := ((O2 _ (by omega)).2.1 _).trans I1.2.2.2.2.2.2.2.1
          refine ⟨fun e => absurd e (nI_ge (show j < 16 by omega) (by decide)), fun _ => ⟨(O2 _ (by omega)).1.trans I1.1, 31, r7, _, t1, vp_in_nI (show j < 16 by omega) (by decide), fun S9 e9 => ⟨32, by rw [e9]; exact r8, _, by rw [e9]; exact t2, vp_in_nI (show j < 16 by omega) (by decide), fun S16 e16 y ey => ?_⟩⟩⟩
          rw [ey, nI_1]
          refine ih (j + 1) S16 (by omega) (by rw [e16, e9]; exact FO_pi (FO_pi F2 (by decide) (by decide)) (by decide) (by decide)) (by rw [e16, e9]; exact FO_pi (FO_pi O2 (by decide) (by decide)) (by decide) (by decide)) (by rw [e16, e9]; exact t1) (by rw [e16, e9]; exact t2) fun i hi => ?_
          rw [e16, st_i_pi_n _ _ _ _ _ _ (by omega), e9]
          by_cases e : i = j
          · rw [e, st_i_pi_s]
          · rw [st_i_pi_n _ _ _ _ _ _ (by omega)]; exact k2 i (by omega)
      exact H2 16 0 S1 rfl F1 (FO_r _ _ _) I1.2.2.2.2.2.2.1 I1.2.2.2.2.2.2.2.2.1 (fun i hi => absurd hi (Nat.not_lt_zero _))
    | succ d ih =>
      intro k S1 kc ks hk hc hs F1 I1 f1 g1
      refine hZ _ _ _ _ ?_
      unfold wp_X2_init_75B
      refine ⟨fun e => absurd e (nI_ge (show k < 6 by omega) (by decide)), fun _ => ⟨I1.1, by omega, by omega, 40 + 6 * k, f1 _ (by omega) (by omega), fun S25 e25 => ⟨by omega, by omega, i_X1 (by rw [e25, st_t_nw, if_pos rfl]) (fun m h1 h2 => by rw [e25, st_t_nw, if_neg (by omega)]; exact f1 m (by omega) (by omega)) fun S29 F29 t29 r29 M29 => ?_⟩⟩⟩
      have O25 : FO (40 + 6 * k) (45 + 6 * k) S1 S29 := FO_t (FO_m (lo := 40 + 6 * k) (hi := 40 + 6 * k) (by rw [e25]; exact FO_nw (FO_r _ _ _) (Nat.le_refl _) (Nat.le_refl _)) (by omega) (by omega)) (FO_m F29 (by omega) (by omega))
      have I29 := I0_k O25 I1 (by omega)
      refine ⟨30, I1.2.2.2.1, _, I29.2.2.2.2.1, vp_in_nI (show k < 6 by omega) (by decide), fun v9 hv => by rw [← Option.some.inj hv]; exact t29, fun S37 e37 y ey => ?_⟩
      rw [nI_clamp (show k < 2 ^ 31 by omega)] at e37
      have O37 : FO 30 30 S29 S37 := by rw [e37]; exact FO_pr (FO_r _ _ _) (Nat.le_refl _) (Nat.le_refl _)
      rw [ey, nI_1]
      refine ih (k + 1) S37 _ _ (by omega) (by omega) (by omega) ?_ ?_ (fun m h1 h2 => ?_) fun j hj => ?_
      · exact FO_t F1 (FO_t (FO_m O25 (by omega) (by omega)) (FO_m O37 (by omega) (by omega)))
      · obtain ⟨a1, a2, a3, a4, a5, a6, a7, a8, a9, a10, a11, a12, a13, a14, a15, a16⟩ := I29
        exact ⟨(O37 _ (by omega)).1.trans a1, ((O37 _ (by omega)).2.1 _).trans a2, M0_k O37 a3 (by omega), ((O37 _ (by omega)).2.1 _).trans a4, by rw [e37]; exact a5, ((O37 _ (by omega)).2.1 _).trans a6, (O37 _ (by omega)).1.trans a7, ((O37 _ (by omega)).2.1 _).trans a8, (O37 _ (by omega)).1.trans a9, ((O37 _ (by omega)).2.1 _).trans a10, (O37 _ (by omega)).1.trans a11, ((O37 _ (by omega)).2.2 _).trans a12, ((O37 _ (by omega)).2.2 _).trans a13, ((O37 _ (by omega)).2.2 _).trans a14, ((O37 _ (by omega)).2.2 _).trans a15, ((O37 _ (by omega)).2.2 _).trans a16⟩
      · exact (O37 m (by omega)).1.trans ((O25 m (by omega)).1.trans (f1 m (by omega) h2))
      · by_cases e : j = k
        · rw [e]
          exact ⟨by rw [e37, st_r_pr_s], (O37 _ (by omega)).1.trans t29, ((O37 _ (by omega)).2.1 _).trans (by rw [r29]; congr 1; omega), by rw [show 41 + 6 * k = 40 + 6 * k + 1 by omega]; exact M0_k O37 M29 (by omega)⟩
        · obtain ⟨b1, b2, b3, b4⟩ := g1 j (by omega)
          refine ⟨?_, (O37 _ (by omega)).1.trans ((O25 _ (by omega)).1.trans b2), ((O37 _ (by omega)).2.1 _).trans (((O25 _ (by omega)).2.1 _).trans b3), M0_k O37 (M0_k O25 b4 (by omega)) (by omega)⟩
          rw [e37, st_r_pr_n _ _ _ _ _ _ (by omega)]
          exact ((O25 _ (by omega)).2.1 _).trans b1
  exact H 6 0 S94 _ _ rfl rfl (by decide) F94 I94 (fun m h1 h2 => fr94 m (by omega) h2) (fun j hj => absurd hj (Nat.not_lt_zero _))
theorem i_X5 {S : xm_S} {n : Nat} {g : xm_S → Prop} (t : st_t S n = some (5, 0)) (fr : st_t S (n + 1) = none) (h : ∀ S', FO n (n + 1) S S' → st_t S' n = some (5, 0) → st_r S' n 1 = some (n + 1) → st_t S' (n + 1) = some (120, 4) → st_i S' n 0 = 0 → st_i S' n 2 = 0 → g S') : wp_X5_init n S g := by
  unfold wp_X5_init
  refine ⟨t, fun S2 e2 => ⟨n + 1, by rw [e2]; exact fr, fun S6 e6 S8 e8 S10 e10 => h S10 ?_ ?_ ?_ ?_ ?_ ?_⟩⟩
  · rw [e10, e8, e6, e2]; exact FO_pi (FO_pr (FO_nw (FO_pi (FO_r _ _ _) (by omega) (by omega)) (by omega) (by omega)) (by omega) (by omega)) (by omega) (by omega)
  · rw [e10, e8, e6, e2, st_t_pi, st_t_pr, st_t_nw, if_neg (by omega)]; exact t
  · rw [e10, st_r_pi, e8, st_r_pr_s]
  · rw [e10, e8, e6, st_t_pi, st_t_pr, st_t_nw, if_pos rfl]
  · rw [e10, st_i_pi_n _ _ _ _ _ _ (by omega), e8, st_i_pr, e6, st_i_nw, if_neg (by omega), e2, st_i_pi_s]
  · rw [e10, st_i_pi_s]
