-- the object's constructor as a whole
set_option maxRecDepth 20000 in
set_option maxHeartbeats 4000000 in
theorem i_X11 {S : xm_S} {g : xm_S → Prop} (t : st_t S 1 = some (11, 0)) (fr : ∀ m, m ≠ 1 → st_t S m = none) (h : ∀ S', CR S' V0 2000 → (∀ m, 112 ≤ m → st_t S' m = none) → g S') : wp_X11_init 1 S g := by
  unfold wp_X11_init
  refine ⟨by decide, by decide, 2, fr 2 (by decide), fun S57 e57 => ⟨by decide, by decide, i_X8 (by rw [e57]; rfl) (by rw [e57]; exact fr 3 (by decide)) fun S61 F61 b1 b2 b3 b4 => ?_⟩⟩
  have t61 : st_t S61 1 = some (11, 0) := (F61 1 (by omega)).1.trans (by rw [e57]; exact t)
  have fr61 : ∀ m, 4 ≤ m → st_t S61 m = none := fun m hm => (F61 m (by omega)).1.trans (by rw [e57, st_t_nw, if_neg (by omega)]; exact fr m (by omega))
  refine ⟨t61, fun S64 e64 => ⟨by decide, by decide, 4, ?_, fun S70 e70 S72 e72 => ⟨by decide, by decide, 5, ?_, fun S78 e78 S80 e80 S82 e82 S84 e84 => ⟨by decide, by decide, 6, ?_, fun S90 e90 S92 e92 S94 e94 => ⟨by decide, by decide, 7, 8, 9, 10, ?_, ?_, ?_, ?_, by decide, fun S107 e107 => ⟨?_, fun S110 e110 => ⟨by decide, by decide, 11, 12, 13, 14, ?_, ?_, ?_, ?_, by decide, fun S123 e123 => ⟨?_, fun S126 e126 => ⟨by decide, by decide, 15, ?_, fun S132 e132 S134 e134 => ⟨by decide, by decide, 16, ?_, fun S140 e140 => ⟨by decide, by decide, ?_⟩⟩⟩⟩⟩⟩⟩⟩⟩⟩⟩
  · subst e64; exact fr61 4 (by decide)
  · subst e72 e70 e64; exact fr61 5 (by decide)
  · subst e84 e82 e80 e78 e72 e70 e64; exact fr61 6 (by decide)
  · subst e94 e92 e90 e84 e82 e80 e78 e72 e70 e64; exact fr61 7 (by decide)
  · subst e94 e92 e90 e84 e82 e80 e78 e72 e70 e64; exact fr61 8 (by decide)
  · subst e94 e92 e90 e84 e82 e80 e78 e72 e70 e64; exact fr61 9 (by decide)
  · subst e94 e92 e90 e84 e82 e80 e78 e72 e70 e64; exact fr61 10 (by decide)
  · subst e107 e94 e92 e90 e84 e82 e80 e78 e72 e70 e64; exact t61
  · subst e110 e107 e94 e92 e90 e84 e82 e80 e78 e72 e70 e64; exact fr61 11 (by decide)
  · subst e110 e107 e94 e92 e90 e84 e82 e80 e78 e72 e70 e64; exact fr61 12 (by decide)
  · subst e110 e107 e94 e92 e90 e84 e82 e80 e78 e72 e70 e64; exact fr61 13 (by decide)
  · subst e110 e107 e94 e92 e90 e84 e82 e80 e78 e72 e70 e64; exact fr61 14 (by decide)
  · subst e123 e110 e107 e94 e92 e90 e84 e82 e80 e78 e72 e70 e64; exact t61
  · subst e126 e123 e110 e107 e94 e92 e90 e84 e82 e80 e78 e72 e70 e64; exact fr61 15 (by decide)
  · subst e134 e132 e126 e123 e110 e107 e94 e92 e90 e84 e82 e80 e78 e72 e70 e64; exact fr61 16 (by decide)
  have J140 : J1 S140 := by
    subst e140 e134 e132 e126 e123 e110 e107 e94 e92 e90 e84 e82 e80 e78 e72 e70 e64
    exact ⟨⟨t61, rfl, rfl, rfl, rfl, rfl, rfl, rfl, rfl, rfl, rfl, rfl, rfl, rfl⟩, ⟨b1, b2, b3, b4⟩, ⟨⟨rfl, rfl, rfl⟩, ⟨rfl, rfl, rfl⟩, ⟨rfl, rfl, rfl⟩, rfl, rfl, rfl⟩, rfl, rfl, rfl, fun _ => rfl⟩
  have t140 : st_t S140 16 = some (7, 0) := by rw [e140]; rfl
  have fr140 : ∀ m, 17 ≤ m → st_t S140 m = none := fun m hm => by
    subst e140 e134 e132 e126 e123 e110 e107 e94 e92 e90 e84 e82 e80 e78 e72 e70 e64
    simp only [st_mn, st_t_pr, st_t_pi, st_t_nw]
    repeat rw [if_neg (by omega)]
    exact fr61 m (by omega)
  clear e140 e134 e132 e126 e123 e110 e107 e94 e92 e90 e84 e82 e80 e78 e72 e70 e64
  refine i_X7 t140 (fun m h1 _ => fr140 m h1) fun S144 F144 t144 o144 => ?_
  have J144 := J1_k J140 F144 (by decide)
  have fr144 : ∀ m, 22 ≤ m → st_t S144 m = none := fun m hm => (F144 m (by omega)).1.trans (fr140 m (by omega))
  refine ⟨J144.1.1, fun S147 e147 S149 e149 S151 e151 S153 e153 S155 e155 => ⟨by decide, by decide, 22, ?_, fun S161 e161 S163 e163 => ⟨by decide, by decide, 23, ?_, fun S169 e169 S171 e171 => ⟨by decide, by decide, 24, ?_, fun S177 e177 => ⟨by decide, by decide, ?_⟩⟩⟩⟩⟩
  · subst e155 e153 e151 e149 e147; exact fr144 22 (by decide)
  · subst e163 e161 e155 e153 e151 e149 e147; exact fr144 23 (by decide)
  · subst e171 e169 e163 e161 e155 e153 e151 e149 e147; exact fr144 24 (by decide)
  have J177 : J2 S177 := by
    obtain ⟨⟨a1, a2, a3, a4, a5, a6, a7, a8, a9, a10, a11, a12, a13, a14⟩, ⟨b1, b2, b3, b4⟩, ⟨⟨c1, c2, c3⟩, ⟨c4, c5, c6⟩, ⟨c7, c8, c9⟩, c10, c11, c12⟩, d1, d2, d3, d4⟩ := J144
    subst e177 e171 e169 e163 e161 e155 e153 e151 e149 e147
    exact ⟨⟨⟨a1, a2, a3, a4, a5, a6, a7, a8, a9, a10, a11, a12, a13, a14⟩, ⟨b1, b2, b3, b4⟩, ⟨⟨c1, c2, c3⟩, ⟨c4, c5, c6⟩, ⟨c7, c8, c9⟩, c10, c11, c12⟩, d1, d2, d3, d4⟩, ⟨rfl, rfl, rfl, rfl, rfl⟩, ⟨rfl, rfl, rfl, rfl⟩, fun _ => ⟨rfl, rfl⟩⟩
  have O177 : gO S177 := by
    obtain ⟨o1, o2, o3, o4, o5, o6, o7, o8, o9, o10⟩ := o144
    subst e177 e171 e169 e163 e161 e155 e153 e151 e149 e147
    exact ⟨o1, o2, o3, o4, o5, o6, o7, o8, o9, o10⟩
  have t177 : st_t S177 16 = some (7, 0) := by
    subst e177 e171 e169 e163 e161 e155 e153 e151 e149 e147; exact t144
  have u177 : st_t S177 24 = some (2, 0) := by rw [e177]; rfl
  have fr177 : ∀ m, 25 ≤ m → st_t S177 m = none := fun m hm => by
    subst e177 e171 e169 e163 e161 e155 e153 e151 e149 e147
    simp only [st_t_pr, st_t_pi, st_t_nw]
    repeat rw [if_neg (by omega)]
    exact fr144 m (by omega)
  clear e177 e171 e169 e163 e161 e155 e153 e151 e149 e147
  refine i_X2 u177 (fun m h1 _ => fr177 m h1) fun S181 F181 I181 G181 D181 => ?_
  have J181 := J2_k J177 F181 (by decide)
  have O181 := gO_k F181 O177 (.inl (by decide))
  have t181 : st_t S181 16 = some (7, 0) := (F181 16 (.inl (by decide))).1.trans t177
  have fr181 : ∀ m, 76 ≤ m → st_t S181 m = none := fun m hm => (F181 m (by omega)).1.trans (fr177 m (by omega))
  refine ⟨J181.1.1.1, fun S184 e184 => ?_⟩
  have F184 : FO 1 1 S181 S184 := by rw [e184]; exact FO_pr (FO_r _ _ _) (Nat.le_refl _) (Nat.le_refl _)
  obtain ⟨i1, i2, i3, i4, i5, i6, i7, i8, i9, i10, i11, i12, i13, i14, i15, i16⟩ := I0_k F184 I181 (.inr (by decide))
  have G184 : ∀ k, k < 6 → st_r S184 30 k = some (40 + 6 * k) ∧ st_t S184 (40 + 6 * k) = some (1, 0) ∧ st_r S184 (40 + 6 * k) 2 = some (41 + 6 * k) ∧ M0 S184 (41 + 6 * k) := fun k hk => by
    obtain ⟨b1, b2, b3, b4⟩ := G181 k hk
    exact ⟨((F184 _ (by omega)).2.1 _).trans b1, (F184 _ (by omega)).1.trans b2, ((F184 _ (by omega)).2.1 _).trans b3, M0_k F184 b4 (by omega)⟩
  have D184 : ∀ k, k < 16 → st_i S184 31 k = -1 := fun k hk => ((F184 _ (by omega)).2.2 _).trans (D181 k hk)
  have O184 := gO_k F184 O181 (.inr (by decide))
  have J184 : J2 S184 ∧ st_r S184 1 17 = some 24 := by
    obtain ⟨⟨⟨a1, a2, a3, a4, a5, a6, a7, a8, a9, a10, a11, a12, a13, a14⟩, ⟨b1, b2, b3, b4⟩, ⟨⟨c1, c2, c3⟩, ⟨c4, c5, c6⟩, ⟨c7, c8, c9⟩, c10, c11, c12⟩, d1, d2, d3, d4⟩, ⟨j1, j2, j3, j4, j5⟩, ⟨k1, k2, k3, k4⟩, l⟩ := J181
    rw [e184]
    exact ⟨⟨⟨⟨a1, a2, a3, a4, a5, a6, a7, a8, a9, a10, a11, a12, a13, a14⟩, ⟨b1, b2, b3, b4⟩, ⟨⟨c1, c2, c3⟩, ⟨c4, c5, c6⟩, ⟨c7, c8, c9⟩, c10, c11, c12⟩, d1, d2, d3, d4⟩, ⟨j1, j2, j3, j4, j5⟩, ⟨k1, k2, k3, k4⟩, l⟩, st_r_pr_s _ _ _ _⟩
  have t184 : st_t S184 16 = some (7, 0) := by rw [e184]; exact t181
  have fr184 : ∀ m, 100 ≤ m → st_t S184 m = none := fun m hm => by rw [e184]; exact fr181 m (by omega)
  clear e184
  have gl := gL0_J J184.1.1
  obtain ⟨⟨⟨⟨a1, a2, a3, a4, a5, a6, a7, a8, a9, a10, a11, a12, a13, a14⟩, ⟨b1, b2, b3, b4⟩, _, d1, d2, d3, d4⟩, ⟨j1, j2, j3, j4, j5⟩, ⟨k1, k2, k3, k4⟩, l⟩, r17⟩ := J184
  refine i_144 (S := S184) ⟨a1, a2, a3, a4, a5, a6, a7, a8, a9, a10, a11, a12, a13, a14, j1, t184, j2, j3, j4, j5, r17, i1⟩ ⟨d1, d2, d3, k1, k2, k3, k4⟩ O184 ?_ gl d4 (fun m _ => l m) ⟨i2, i3.1, i4, i5, i6, i7, i8, i9, i10, i11, fun k hk => ⟨(G184 k hk).2.1, (G184 k hk).2.2.1, (G184 k hk).2.2.2.1⟩⟩ ⟨⟨fun p hp => (i3.2.1 p hp).trans (V0_50 (by omega)).symm, fun j hj => ⟨(i3.2.2 j hj).1.trans (V0_50 (by omega)).symm, (i3.2.2 j hj).2.1.trans (V0_50 (by omega)).symm, (i3.2.2 j hj).2.2.trans (V0_50 (by omega)).symm⟩⟩, i12, i13, i14, i15, i16, fun k hk => ⟨(D184 k hk).trans (V0_48 hk).symm, fun n => absurd (V0_48 hk) n⟩⟩ ⟨fun i => i, fun i hi => ⟨hi, (G184 i hi).1⟩, fun i j h1 _ => Nat.ne_of_lt h1, fun i hi => nlt hi (vn_z rfl)⟩ fr184 (by decide) (by decide) h
  unfold gT
  rw [tT_0 (tL_0 154), tL_0]
  exact ⟨b1, b2, b3, TX_0, b4.trans nI_0.symm, fun s hs => absurd hs (Nat.not_lt_zero s)⟩
