-- the reference's object
def mI (l : List Nat) (a : Nat → Int32) (S0 S : xm_S) : Prop := st_t S 1000 = some (12, 0) ∧ (∀ f, f ∈ l → st_r S 1000 f = some (1001 + f) ∧ st_t S (1001 + f) = some (mk f, mz f) ∧ ∀ k, st_i S (1001 + f) k = 0) ∧ (∀ f, f < 65 → f ∉ l → st_t S (1001 + f) = none) ∧ (∀ f, st_i S 1000 f = a f) ∧ KC S0 S
theorem mI_a {l : List Nat} {a : Nat → Int32} {S0 S S1 S2 : xm_S} {f : Nat} {ty : Nat × Nat} (h : mI l a S0 S) (hf : f < 65) (hn : f ∉ l) (ht : ty = (mk f, mz f)) (e1 : S1 = st_nw S (1001 + f) ty) (e2 : S2 = st_pr S1 1000 f (some (1001 + f))) : mI (f :: l) a S0 S2 := by
  obtain ⟨h1, h2, h3, h4, h5⟩ := h
  have T : ∀ m, m ≠ 1001 + f → st_t S2 m = st_t S m := fun m hm => by rw [e2, st_t_pr, e1, st_t_nw, if_neg hm]
  have I : ∀ m k, m ≠ 1001 + f → st_i S2 m k = st_i S m k := fun m k hm => by rw [e2, st_i_pr, e1, st_i_nw, if_neg hm]
  have R : ∀ m k, m ≠ 1001 + f → ¬ (m = 1000 ∧ k = f) → st_r S2 m k = st_r S m k := fun m k hm hk => by rw [e2, st_r_pr_n _ _ _ _ _ _ hk, e1, st_r_nw, if_neg hm]
  refine ⟨(T _ (by omega)).trans h1, fun j hj => ?_, fun j hj hl => ?_, fun j => (I _ _ (by omega)).trans (h4 j), KC_tr h5 fun m hm => ⟨T _ (by omega), fun k => R _ _ (by omega) (by omega), fun k => ?_, fun k => I _ _ (by omega)⟩⟩
  · by_cases e : j = f
    · rw [e]
      refine ⟨by rw [e2, st_r_pr_s], by rw [e2, st_t_pr, e1, st_t_nw, if_pos rfl, ht], fun k => by rw [e2, st_i_pr, e1, st_i_nw, if_pos rfl]⟩
    · obtain ⟨q1, q2, q3⟩ := h2 j ((List.mem_cons.mp hj).resolve_left e)
      exact ⟨(R _ _ (by omega) (by omega)).trans q1, (T _ (by omega)).trans q2, fun k => (I _ _ (by omega)).trans (q3 k)⟩
  · have e : j ≠ f := fun e => hl (e ▸ List.mem_cons_self)
    exact (T _ (by omega)).trans (h3 j hj fun q => hl (List.mem_cons_of_mem _ q))
  · rw [e2, st_l_pr, e1, st_l_nw, if_neg (by omega)]
theorem mI_i {l : List Nat} {a : Nat → Int32} {S0 S S1 : xm_S} {f : Nat} {v : Int32} (h : mI l a S0 S) (e1 : S1 = st_pi S 1000 f v) : mI l (fun k => if k = f then v else a k) S0 S1 := by
  obtain ⟨h1, h2, h3, h4, h5⟩ := h
  subst e1
  refine ⟨h1, fun j hj => ?_, h3, fun j => ?_, KC_pi h5 (by omega)⟩
  · obtain ⟨q1, q2, q3⟩ := h2 j hj
    exact ⟨q1, q2, fun k => by rw [st_i_pi_n _ _ _ _ _ _ (by omega)]; exact q3 k⟩
  · by_cases e : j = f
    · rw [e, st_i_pi_s]; exact (if_pos rfl).symm
    · rw [st_i_pi_n _ _ _ _ _ _ (by omega), h4 j]; exact (if_neg e).symm
theorem VZ_1 (j : Nat) : uV (uV (VZ j 0 0 0) 29 j (-1)) 27 j (-1) = VZ (j + 1) 0 0 0 := by
  funext f k
  by_cases e : f = 27 ∨ f = 29
  · have hv : ∀ a, VZ a 0 0 0 f k = if k < a then -1 else 0 := fun a => by unfold VZ; rw [if_pos e]
    rw [hv]
    by_cases hk : k = j
    · rw [hk, if_pos (by omega)]
      rcases e with e | e
      · rw [e, uV_s]
      · rw [e, uV_n _ _ _ _ _ _ (by omega), uV_s]
    · rw [uV_n _ _ _ _ _ _ (by omega), uV_n _ _ _ _ _ _ (by omega), hv]
      by_cases h : k < j
      · rw [if_pos h, if_pos (by omega)]
      · rw [if_neg h, if_neg (by omega)]
  · rw [uV_n _ _ _ _ _ _ (by omega), uV_n _ _ _ _ _ _ (by omega)]
    unfold VZ
    rw [if_neg e, if_neg e]
theorem VZ_2 (j : Nat) : uV (VZ 18 j 0 0) 40 j (-1) = VZ 18 (j + 1) 0 0 := by
  funext f k
  by_cases e : f = 40
  · have hv : ∀ a, VZ 18 a 0 0 f k = if k < a then -1 else 0 := fun a => by unfold VZ; rw [e, if_neg (by decide), if_pos rfl]
    rw [hv]
    by_cases hk : k = j
    · rw [hk, if_pos (by omega), e, uV_s]
    · rw [uV_n _ _ _ _ _ _ (by omega), hv]
      by_cases h : k < j
      · rw [if_pos h, if_pos (by omega)]
      · rw [if_neg h, if_neg (by omega)]
  · rw [uV_n _ _ _ _ _ _ (by omega)]
    unfold VZ
    rw [if_neg e, if_neg e]
theorem VZ_3 (j : Nat) : uV (VZ 18 72 j 0) 48 j (-1) = VZ 18 72 (j + 1) 0 := by
  funext f k
  by_cases e : f = 48
  · have hv : ∀ a, VZ 18 72 a 0 f k = if k < a then -1 else 0 := fun a => by unfold VZ; rw [e, if_neg (by decide), if_neg (by decide), if_pos rfl]
    rw [hv]
    by_cases hk : k = j
    · rw [hk, if_pos (by omega), e, uV_s]
    · rw [uV_n _ _ _ _ _ _ (by omega), hv]
      by_cases h : k < j
      · rw [if_pos h, if_pos (by omega)]
      · rw [if_neg h, if_neg (by omega)]
  · rw [uV_n _ _ _ _ _ _ (by omega)]
    unfold VZ
    rw [if_neg e, if_neg e]
theorem VZ_4 (j : Nat) : uV (VZ 18 72 16 j) 50 j (-1) = VZ 18 72 16 (j + 1) := by
  funext f k
  by_cases e : f = 50
  · have hv : ∀ a, VZ 18 72 16 a f k = if k < a then -1 else 0 := fun a => by unfold VZ; rw [e, if_neg (by decide), if_neg (by decide), if_neg (by decide), if_pos rfl]
    rw [hv]
    by_cases hk : k = j
    · rw [hk, if_pos (by omega), e, uV_s]
    · rw [uV_n _ _ _ _ _ _ (by omega), hv]
      by_cases h : k < j
      · rw [if_pos h, if_pos (by omega)]
      · rw [if_neg h, if_neg (by omega)]
  · rw [uV_n _ _ _ _ _ _ (by omega)]
    unfold VZ
    rw [if_neg e, if_neg e]
theorem MR_v {S : xm_S} {V V' : VV} (h : MR S V) (e : V = V') : MR S V' := e ▸ h
theorem i_480 {S : xm_S} {g : xm_S → Prop} (M : MR S (VZ 18 72 16 0)) (h : ∀ S', KC S S' → MR S' V0 → g S') : wp_X12_init_480 1000 (0 : Int32) S g := by
  unfold wp_X12_init_480
  intro Z hZ
  have H : ∀ d j S1, j + d = 54 → KC S S1 → MR S1 (VZ 18 72 16 j) → Z (nI j) S1 := by
    intro d
    induction d with
    | zero =>
      intro j S1 hj K M1
      refine hZ _ _ ?_
      unfold wp_X12_init_480B
      rw [show j = 54 by omega] at M1 ⊢
      exact ⟨fun _ => h S1 K M1, fun e => absurd (nI_le (Nat.le_refl 54) (by decide)) e⟩
    | succ d ih =>
      intro j S1 hj K M1
      refine hZ _ _ ?_
      unfold wp_X12_init_480B
      rw [nI_clamp (show j < 2 ^ 31 by omega)]
      refine ⟨fun e => absurd e (nI_ge (show j < 54 by omega) (by decide)), fun _ => ⟨M1.1.1, _, MS_r M1.1 50, _, MS_t M1.1 50, vp_in_nI (show j < 54 by omega) (by decide), fun S7 e7 y ey => ?_⟩⟩
      rw [ey, nI_1]
      exact ih (j + 1) S7 (by omega) (by rw [e7]; exact KC_pi K (by omega)) (by rw [e7]; exact MR_v (MR_a M1) (VZ_4 j))
  exact H 54 0 S rfl (KC_rfl _) M
theorem i_459 {S : xm_S} {g : xm_S → Prop} (M : MR S (VZ 18 72 0 0)) (h : ∀ S', KC S S' → MR S' V0 → g S') : wp_X12_init_459 1000 (0 : Int32) S g := by
  unfold wp_X12_init_459
  intro Z hZ
  have H : ∀ d j S1, j + d = 16 → KC S S1 → MR S1 (VZ 18 72 j 0) → Z (nI j) S1 := by
    intro d
    induction d with
    | zero =>
      intro j S1 hj K M1
      refine hZ _ _ ?_
      unfold wp_X12_init_459B
      rw [show j = 16 by omega] at M1 ⊢
      exact ⟨fun _ => i_480 M1 fun S2 K2 M2 => h S2 (KC_tr K K2) M2, fun e => absurd (nI_le (Nat.le_refl 16) (by decide)) e⟩
    | succ d ih =>
      intro j S1 hj K M1
      refine hZ _ _ ?_
      unfold wp_X12_init_459B
      rw [nI_clamp (show j < 2 ^ 31 by omega)]
      refine ⟨fun e => absurd e (nI_ge (show j < 16 by omega) (by decide)), fun _ => ⟨M1.1.1, _, MS_r M1.1 48, _, MS_t M1.1 48, vp_in_nI (show j < 16 by omega) (by decide), fun S7 e7 y ey => ?_⟩⟩
      rw [ey, nI_1]
      exact ih (j + 1) S7 (by omega) (by rw [e7]; exact KC_pi K (by omega)) (by rw [e7]; exact MR_v (MR_a M1) (VZ_3 j))
  exact H 16 0 S rfl (KC_rfl _) M
theorem i_438 {S : xm_S} {g : xm_S → Prop} (M : MR S (VZ 18 0 0 0)) (h : ∀ S', KC S S' → MR S' V0 → g S') : wp_X12_init_438 1000 (0 : Int32) S g := by
  unfold wp_X12_init_438
  intro Z hZ
  have H : ∀ d j S1, j + d = 72 → KC S S1 → MR S1 (VZ 18 j 0 0) → Z (nI j) S1 := by
    intro d
    induction d with
    | zero =>
      intro j S1 hj K M1
      refine hZ _ _ ?_
      unfold wp_X12_init_438B
      rw [show j = 72 by omega] at M1 ⊢
      exact ⟨fun _ => i_459 M1 fun S2 K2 M2 => h S2 (KC_tr K K2) M2, fun e => absurd (nI_le (Nat.le_refl 72) (by decide)) e⟩
    | succ d ih =>
      intro j S1 hj K M1
      refine hZ _ _ ?_
      unfold wp_X12_init_438B
      rw [nI_clamp (show j < 2 ^ 31 by omega)]
      refine ⟨fun e => absurd e (nI_ge (show j < 72 by omega) (by decide)), fun _ => ⟨M1.1.1, _, MS_r M1.1 40, _, MS_t M1.1 40, vp_in_nI (show j < 72 by omega) (by decide), fun S7 e7 y ey => ?_⟩⟩
      rw [ey, nI_1]
      exact ih (j + 1) S7 (by omega) (by rw [e7]; exact KC_pi K (by omega)) (by rw [e7]; exact MR_v (MR_a M1) (VZ_2 j))
  exact H 72 0 S rfl (KC_rfl _) M
theorem i_410 {S : xm_S} {g : xm_S → Prop} (M : MR S (VZ 0 0 0 0)) (h : ∀ S', KC S S' → MR S' V0 → g S') : wp_X12_init_410 1000 (0 : Int32) S g := by
  unfold wp_X12_init_410
  intro Z hZ
  have H : ∀ d j S1, j + d = 18 → KC S S1 → MR S1 (VZ j 0 0 0) → Z (nI j) S1 := by
    intro d
    induction d with
    | zero =>
      intro j S1 hj K M1
      refine hZ _ _ ?_
      unfold wp_X12_init_410B
      rw [show j = 18 by omega] at M1 ⊢
      exact ⟨fun _ => i_438 M1 fun S2 K2 M2 => h S2 (KC_tr K K2) M2, fun e => absurd (nI_le (Nat.le_refl 18) (by decide)) e⟩
    | succ d ih =>
      intro j S1 hj K M1
      refine hZ _ _ ?_
      unfold wp_X12_init_410B
      rw [nI_clamp (show j < 2 ^ 31 by omega)]
      refine ⟨fun e => absurd e (nI_ge (show j < 18 by omega) (by decide)), fun _ => ⟨M1.1.1, _, MS_r M1.1 29, _, MS_t M1.1 29, vp_in_nI (show j < 18 by omega) (by decide), fun S37 e37 => ?_⟩⟩
      have M37 : MR S37 (uV (VZ j 0 0 0) 29 j (-1)) := by rw [e37]; exact MR_a M1
      refine ⟨_, MS_r M37.1 27, _, MS_t M37.1 27, vp_in_nI (show j < 18 by omega) (by decide), fun S44 e44 y ey => ?_⟩
      rw [ey, nI_1]
      exact ih (j + 1) S44 (by omega) (by rw [e44]; exact KC_pi (by rw [e37]; exact KC_pi K (by omega)) (by omega)) (by rw [e44]; exact MR_v (MR_a M37) (VZ_1 j))
  exact H 18 0 S rfl (KC_rfl _) M
theorem mz_in : ∀ f, f < 64 → 0 < mz f → f ∈ [63, 59, 58, 57, 51, 50, 49, 48, 47, 46, 45, 44, 43, 42, 41, 40, 35, 34, 33, 32, 31, 30, 29, 28, 27, 25, 24, 23, 22, 20, 19, 17, 16, 15, 14, 13, 12, 11, 10, 9, 8, 7, 6, 5, 4, 3, 2, 1] := by decide +kernel
theorem pA_in : ∀ f, f < 64 → pA f = true → f ∈ [63, 59, 58, 57, 51, 50, 49, 48, 47, 46, 45, 44, 43, 42, 41, 40, 35, 34, 33, 32, 31, 30, 29, 28, 27, 25, 24, 23, 22, 20, 19, 17, 16, 15, 14, 13, 12, 11, 10, 9, 8, 7, 6, 5, 4, 3, 2, 1] ∧ f ≠ 26 ∧ f ≠ 37 ∧ f ≠ 38 ∧ f ≠ 55 := by decide +kernel
theorem pS_lt {f : Nat} (h : pS f = true) : f < 64 := by
  rcases Nat.lt_or_ge f 64 with h1 | h1
  · exact h1
  · exfalso
    unfold pS at h
    simp only [Bool.or_eq_true, beq_iff_eq] at h
    omega
theorem VZ_z {f k : Nat} (h : f ≠ 26 ∧ f ≠ 37 ∧ f ≠ 38 ∧ f ≠ 55) : VZ 0 0 0 0 f k = 0 := by
  obtain ⟨h1, h2, h3, h4⟩ := h
  have z : ∀ x : Int32, (if k < 0 then (-1 : Int32) else x) = x := fun x => if_neg (Nat.not_lt_zero k)
  unfold VZ
  rw [z, if_neg h1, if_neg (fun q : f = 37 ∨ f = 38 => q.elim h2 h3), if_neg h4]
  split
  · rfl
  · split
    · rfl
    · split
      · rfl
      · split
        · rfl
        · rfl
set_option maxRecDepth 20000 in
set_option maxHeartbeats 4000000 in
theorem i_X12 {S : xm_S} {g : xm_S → Prop} (t : st_t S 1000 = some (12, 0)) (fi : ∀ k, st_i S 1000 k = 0) (fr : ∀ f, f < 65 → st_t S (1001 + f) = none) (h : ∀ S', KC S S' → MR S' V0 → g S') : wp_X12_init 1000 S g := by
  unfold wp_X12_init
  have h0 : mI [] (fun _ => 0) S S := ⟨t, fun f hf => absurd hf List.not_mem_nil, fun f hf _ => fr f hf, fi, KC_rfl S⟩
  refine ⟨1001 + 1, h0.2.2.1 1 (by decide) (by decide), fun S50 e50 => ⟨by rw [e50]; exact t, fun S53 e53 => ?_⟩⟩
  have h1 := mI_a h0 (f := 1) (by decide) (by decide) rfl e50 e53
  clear h0 e50 e53
  refine ⟨1001 + 2, h1.2.2.1 2 (by decide) (by decide), fun S57 e57 S59 e59 => ?_⟩
  have h2 := mI_a h1 (f := 2) (by decide) (by decide) rfl e57 e59
  clear h1 e57 e59
  refine ⟨1001 + 3, h2.2.2.1 3 (by decide) (by decide), fun S63 e63 S65 e65 => ?_⟩
  have h3 := mI_a h2 (f := 3) (by decide) (by decide) rfl e63 e65
  clear h2 e63 e65
  refine ⟨1001 + 4, h3.2.2.1 4 (by decide) (by decide), fun S69 e69 S71 e71 => ?_⟩
  have h4 := mI_a h3 (f := 4) (by decide) (by decide) rfl e69 e71
  clear h3 e69 e71
  refine ⟨1001 + 5, h4.2.2.1 5 (by decide) (by decide), fun S75 e75 S77 e77 => ?_⟩
  have h5 := mI_a h4 (f := 5) (by decide) (by decide) rfl e75 e77
  clear h4 e75 e77
  refine ⟨1001 + 6, h5.2.2.1 6 (by decide) (by decide), fun S81 e81 S83 e83 => ?_⟩
  have h6 := mI_a h5 (f := 6) (by decide) (by decide) rfl e81 e83
  clear h5 e81 e83
  refine ⟨1001 + 7, h6.2.2.1 7 (by decide) (by decide), fun S87 e87 S89 e89 => ?_⟩
  have h7 := mI_a h6 (f := 7) (by decide) (by decide) rfl e87 e89
  clear h6 e87 e89
  refine ⟨1001 + 8, h7.2.2.1 8 (by decide) (by decide), fun S93 e93 S95 e95 => ?_⟩
  have h8 := mI_a h7 (f := 8) (by decide) (by decide) rfl e93 e95
  clear h7 e93 e95
  refine ⟨1001 + 9, h8.2.2.1 9 (by decide) (by decide), fun S99 e99 S101 e101 => ?_⟩
  have h9 := mI_a h8 (f := 9) (by decide) (by decide) rfl e99 e101
  clear h8 e99 e101
  refine ⟨1001 + 10, h9.2.2.1 10 (by decide) (by decide), fun S105 e105 S107 e107 => ?_⟩
  have h10 := mI_a h9 (f := 10) (by decide) (by decide) rfl e105 e107
  clear h9 e105 e107
  refine ⟨1001 + 11, h10.2.2.1 11 (by decide) (by decide), fun S111 e111 S113 e113 => ?_⟩
  have h11 := mI_a h10 (f := 11) (by decide) (by decide) rfl e111 e113
  clear h10 e111 e113
  refine ⟨1001 + 12, h11.2.2.1 12 (by decide) (by decide), fun S117 e117 S119 e119 => ?_⟩
  have h12 := mI_a h11 (f := 12) (by decide) (by decide) rfl e117 e119
  clear h11 e117 e119
  refine ⟨1001 + 13, h12.2.2.1 13 (by decide) (by decide), fun S123 e123 S125 e125 => ?_⟩
  have h13 := mI_a h12 (f := 13) (by decide) (by decide) rfl e123 e125
  clear h12 e123 e125
  refine ⟨1001 + 14, h13.2.2.1 14 (by decide) (by decide), fun S129 e129 S131 e131 => ?_⟩
  have h14 := mI_a h13 (f := 14) (by decide) (by decide) rfl e129 e131
  clear h13 e129 e131
  refine ⟨1001 + 15, h14.2.2.1 15 (by decide) (by decide), fun S135 e135 S137 e137 => ?_⟩
  have h15 := mI_a h14 (f := 15) (by decide) (by decide) rfl e135 e137
  clear h14 e135 e137
  refine ⟨1001 + 16, h15.2.2.1 16 (by decide) (by decide), fun S141 e141 S143 e143 => ?_⟩
  have h16 := mI_a h15 (f := 16) (by decide) (by decide) rfl e141 e143
  clear h15 e141 e143
  refine ⟨1001 + 17, h16.2.2.1 17 (by decide) (by decide), fun S147 e147 S149 e149 => ?_⟩
  have h17 := mI_a h16 (f := 17) (by decide) (by decide) rfl e147 e149
  clear h16 e147 e149
  refine ⟨1001 + 19, h17.2.2.1 19 (by decide) (by decide), fun S153 e153 S155 e155 => ?_⟩
  have h18 := mI_a h17 (f := 19) (by decide) (by decide) rfl e153 e155
  clear h17 e153 e155
  refine ⟨1001 + 20, h18.2.2.1 20 (by decide) (by decide), fun S159 e159 S161 e161 => ?_⟩
  have h19 := mI_a h18 (f := 20) (by decide) (by decide) rfl e159 e161
  clear h18 e159 e161
  refine ⟨1001 + 22, h19.2.2.1 22 (by decide) (by decide), fun S165 e165 S167 e167 => ?_⟩
  have h20 := mI_a h19 (f := 22) (by decide) (by decide) rfl e165 e167
  clear h19 e165 e167
  refine ⟨1001 + 23, h20.2.2.1 23 (by decide) (by decide), fun S171 e171 S173 e173 => ?_⟩
  have h21 := mI_a h20 (f := 23) (by decide) (by decide) rfl e171 e173
  clear h20 e171 e173
  refine ⟨1001 + 24, h21.2.2.1 24 (by decide) (by decide), fun S177 e177 S179 e179 => ?_⟩
  have h22 := mI_a h21 (f := 24) (by decide) (by decide) rfl e177 e179
  clear h21 e177 e179
  refine ⟨1001 + 25, h22.2.2.1 25 (by decide) (by decide), fun S183 e183 S185 e185 => ?_⟩
  have h23 := mI_a h22 (f := 25) (by decide) (by decide) rfl e183 e185
  clear h22 e183 e185
  refine fun S187 e187 => ?_
  have h24 := mI_i h23 e187
  clear h23 e187
  refine ⟨1001 + 27, h24.2.2.1 27 (by decide) (by decide), fun S191 e191 S193 e193 => ?_⟩
  have h25 := mI_a h24 (f := 27) (by decide) (by decide) rfl e191 e193
  clear h24 e191 e193
  refine ⟨1001 + 28, h25.2.2.1 28 (by decide) (by decide), fun S197 e197 S199 e199 => ?_⟩
  have h26 := mI_a h25 (f := 28) (by decide) (by decide) rfl e197 e199
  clear h25 e197 e199
  refine ⟨1001 + 29, h26.2.2.1 29 (by decide) (by decide), fun S203 e203 S205 e205 => ?_⟩
  have h27 := mI_a h26 (f := 29) (by decide) (by decide) rfl e203 e205
  clear h26 e203 e205
  refine ⟨1001 + 30, h27.2.2.1 30 (by decide) (by decide), fun S209 e209 S211 e211 => ?_⟩
  have h28 := mI_a h27 (f := 30) (by decide) (by decide) rfl e209 e211
  clear h27 e209 e211
  refine ⟨1001 + 31, h28.2.2.1 31 (by decide) (by decide), fun S215 e215 S217 e217 => ?_⟩
  have h29 := mI_a h28 (f := 31) (by decide) (by decide) rfl e215 e217
  clear h28 e215 e217
  refine ⟨1001 + 32, h29.2.2.1 32 (by decide) (by decide), fun S221 e221 S223 e223 => ?_⟩
  have h30 := mI_a h29 (f := 32) (by decide) (by decide) rfl e221 e223
  clear h29 e221 e223
  refine ⟨1001 + 33, h30.2.2.1 33 (by decide) (by decide), fun S227 e227 S229 e229 => ?_⟩
  have h31 := mI_a h30 (f := 33) (by decide) (by decide) rfl e227 e229
  clear h30 e227 e229
  refine ⟨1001 + 34, h31.2.2.1 34 (by decide) (by decide), fun S233 e233 S235 e235 => ?_⟩
  have h32 := mI_a h31 (f := 34) (by decide) (by decide) rfl e233 e235
  clear h31 e233 e235
  refine ⟨1001 + 35, h32.2.2.1 35 (by decide) (by decide), fun S239 e239 S241 e241 => ?_⟩
  have h33 := mI_a h32 (f := 35) (by decide) (by decide) rfl e239 e241
  clear h32 e239 e241
  refine fun S243 e243 => ?_
  have h34 := mI_i h33 e243
  clear h33 e243
  refine fun S245 e245 => ?_
  have h35 := mI_i h34 e245
  clear h34 e245
  refine ⟨1001 + 40, h35.2.2.1 40 (by decide) (by decide), fun S249 e249 S251 e251 => ?_⟩
  have h36 := mI_a h35 (f := 40) (by decide) (by decide) rfl e249 e251
  clear h35 e249 e251
  refine ⟨1001 + 41, h36.2.2.1 41 (by decide) (by decide), fun S255 e255 S257 e257 => ?_⟩
  have h37 := mI_a h36 (f := 41) (by decide) (by decide) rfl e255 e257
  clear h36 e255 e257
  refine ⟨1001 + 42, h37.2.2.1 42 (by decide) (by decide), fun S261 e261 S263 e263 => ?_⟩
  have h38 := mI_a h37 (f := 42) (by decide) (by decide) rfl e261 e263
  clear h37 e261 e263
  refine ⟨1001 + 43, h38.2.2.1 43 (by decide) (by decide), fun S267 e267 S269 e269 => ?_⟩
  have h39 := mI_a h38 (f := 43) (by decide) (by decide) rfl e267 e269
  clear h38 e267 e269
  refine ⟨1001 + 44, h39.2.2.1 44 (by decide) (by decide), fun S273 e273 S275 e275 => ?_⟩
  have h40 := mI_a h39 (f := 44) (by decide) (by decide) rfl e273 e275
  clear h39 e273 e275
  refine ⟨1001 + 45, h40.2.2.1 45 (by decide) (by decide), fun S279 e279 S281 e281 => ?_⟩
  have h41 := mI_a h40 (f := 45) (by decide) (by decide) rfl e279 e281
  clear h40 e279 e281
  refine ⟨1001 + 46, h41.2.2.1 46 (by decide) (by decide), fun S285 e285 S287 e287 => ?_⟩
  have h42 := mI_a h41 (f := 46) (by decide) (by decide) rfl e285 e287
  clear h41 e285 e287
  refine ⟨1001 + 47, h42.2.2.1 47 (by decide) (by decide), fun S291 e291 S293 e293 => ?_⟩
  have h43 := mI_a h42 (f := 47) (by decide) (by decide) rfl e291 e293
  clear h42 e291 e293
  refine ⟨1001 + 48, h43.2.2.1 48 (by decide) (by decide), fun S297 e297 S299 e299 => ?_⟩
  have h44 := mI_a h43 (f := 48) (by decide) (by decide) rfl e297 e299
  clear h43 e297 e299
  refine ⟨1001 + 49, h44.2.2.1 49 (by decide) (by decide), fun S303 e303 S305 e305 => ?_⟩
  have h45 := mI_a h44 (f := 49) (by decide) (by decide) rfl e303 e305
  clear h44 e303 e305
  refine ⟨1001 + 50, h45.2.2.1 50 (by decide) (by decide), fun S309 e309 S311 e311 => ?_⟩
  have h46 := mI_a h45 (f := 50) (by decide) (by decide) rfl e309 e311
  clear h45 e309 e311
  refine ⟨1001 + 51, h46.2.2.1 51 (by decide) (by decide), fun S315 e315 S317 e317 => ?_⟩
  have h47 := mI_a h46 (f := 51) (by decide) (by decide) rfl e315 e317
  clear h46 e315 e317
  refine fun S319 e319 => ?_
  have h48 := mI_i h47 e319
  clear h47 e319
  refine ⟨1001 + 57, h48.2.2.1 57 (by decide) (by decide), fun S323 e323 S325 e325 => ?_⟩
  have h49 := mI_a h48 (f := 57) (by decide) (by decide) rfl e323 e325
  clear h48 e323 e325
  refine ⟨1001 + 58, h49.2.2.1 58 (by decide) (by decide), fun S329 e329 S331 e331 => ?_⟩
  have h50 := mI_a h49 (f := 58) (by decide) (by decide) rfl e329 e331
  clear h49 e329 e331
  refine ⟨1001 + 59, h50.2.2.1 59 (by decide) (by decide), fun S335 e335 S337 e337 => ?_⟩
  have h51 := mI_a h50 (f := 59) (by decide) (by decide) rfl e335 e337
  clear h50 e335 e337
  refine ⟨1001 + 63, h51.2.2.1 63 (by decide) (by decide), fun S341 e341 S343 e343 => ?_⟩
  have h52 := mI_a h51 (f := 63) (by decide) (by decide) rfl e341 e343
  clear h51 e341 e343
  obtain ⟨q1, q2, q3, q4, q5⟩ := h52
  refine i_410 ⟨⟨q1, fun f e => ?_⟩, fun f e => ?_, fun f k e => ?_⟩ fun S' K M => h S' (KC_tr q5 K) M
  · have q := q2 f (mz_in f (mz_lt e) e)
    exact ⟨q.1, q.2.1⟩
  · rw [q4 f]
    have D : ∀ f, f < 64 → pS f = true → (fun k : Nat => if k = 55 then (-1 : Int32) else (fun k : Nat => if k = 38 then (1 : Int32) else (fun k : Nat => if k = 37 then (1 : Int32) else (fun k : Nat => if k = 26 then (nI 15) else (fun _ => (0 : Int32)) k) k) k) k) f = VZ 0 0 0 0 f 0 := by decide +kernel
    exact D f (pS_lt e) e
  · have p := pA_in f (pA_lt e) e
    rw [(q2 f p.1).2.2 k, VZ_z p.2]
