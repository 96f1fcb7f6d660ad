def rm_X2_setDiversion : Room := { frames := 1, cells := 0, slots := 0, locals := 20 }
theorem dX2_setDiversion_0 : decode cX2_setDiversion 0 = .ok (.aload_n 0, 1) := by decide +kernel
theorem dX2_setDiversion_1 : decode cX2_setDiversion 1 = .ok (.getfield 40, 3) := by decide +kernel
theorem dX2_setDiversion_4 : decode cX2_setDiversion 4 = .ok (.iload_n 2, 1) := by decide +kernel
theorem dX2_setDiversion_5 : decode cX2_setDiversion 5 = .ok (.iload_n 1, 1) := by decide +kernel
theorem dX2_setDiversion_6 : decode cX2_setDiversion 6 = .ok (.iastore, 1) := by decide +kernel
theorem dX2_setDiversion_7 : decode cX2_setDiversion 7 = .ok (.aload_n 0, 1) := by decide +kernel
theorem dX2_setDiversion_8 : decode cX2_setDiversion 8 = .ok (.getfield 44, 3) := by decide +kernel
theorem dX2_setDiversion_11 : decode cX2_setDiversion 11 = .ok (.iload_n 2, 1) := by decide +kernel
theorem dX2_setDiversion_12 : decode cX2_setDiversion 12 = .ok (.iload_n 1, 1) := by decide +kernel
theorem dX2_setDiversion_13 : decode cX2_setDiversion 13 = .ok (.iconst (-1), 1) := by decide +kernel
theorem dX2_setDiversion_14 : decode cX2_setDiversion 14 = .ok (.if_icmp .ne 7, 3) := by decide +kernel
theorem dX2_setDiversion_17 : decode cX2_setDiversion 17 = .ok (.iconst (-1), 1) := by decide +kernel
theorem dX2_setDiversion_18 : decode cX2_setDiversion 18 = .ok (.goto 4, 3) := by decide +kernel
theorem dX2_setDiversion_21 : decode cX2_setDiversion 21 = .ok (.iload_n 3, 1) := by decide +kernel
theorem dX2_setDiversion_22 : decode cX2_setDiversion 22 = .ok (.iastore, 1) := by decide +kernel
theorem dX2_setDiversion_23 : decode cX2_setDiversion 23 = .ok (.iconst 0, 1) := by decide +kernel
theorem dX2_setDiversion_24 : decode cX2_setDiversion 24 = .ok (.istore 4, 2) := by decide +kernel
theorem dX2_setDiversion_26 : decode cX2_setDiversion 26 = .ok (.iconst 0, 1) := by decide +kernel
theorem dX2_setDiversion_27 : decode cX2_setDiversion 27 = .ok (.istore 5, 2) := by decide +kernel
theorem dX2_setDiversion_29 : decode cX2_setDiversion 29 = .ok (.iload 5, 2) := by decide +kernel
theorem dX2_setDiversion_31 : decode cX2_setDiversion 31 = .ok (.bipush 16, 2) := by decide +kernel
theorem dX2_setDiversion_33 : decode cX2_setDiversion 33 = .ok (.if_icmp .ge 30, 3) := by decide +kernel
theorem dX2_setDiversion_36 : decode cX2_setDiversion 36 = .ok (.iload 4, 2) := by decide +kernel
theorem dX2_setDiversion_38 : decode cX2_setDiversion 38 = .ok (.aload_n 0, 1) := by decide +kernel
theorem dX2_setDiversion_39 : decode cX2_setDiversion 39 = .ok (.getfield 40, 3) := by decide +kernel
theorem dX2_setDiversion_42 : decode cX2_setDiversion 42 = .ok (.iload 5, 2) := by decide +kernel
theorem dX2_setDiversion_44 : decode cX2_setDiversion 44 = .ok (.iaload, 1) := by decide +kernel
theorem dX2_setDiversion_45 : decode cX2_setDiversion 45 = .ok (.iconst (-1), 1) := by decide +kernel
theorem dX2_setDiversion_46 : decode cX2_setDiversion 46 = .ok (.if_icmp .ne 7, 3) := by decide +kernel
theorem dX2_setDiversion_49 : decode cX2_setDiversion 49 = .ok (.iconst 0, 1) := by decide +kernel
theorem dX2_setDiversion_50 : decode cX2_setDiversion 50 = .ok (.goto 4, 3) := by decide +kernel
theorem dX2_setDiversion_53 : decode cX2_setDiversion 53 = .ok (.iconst 1, 1) := by decide +kernel
theorem dX2_setDiversion_54 : decode cX2_setDiversion 54 = .ok (.iadd, 1) := by decide +kernel
theorem dX2_setDiversion_55 : decode cX2_setDiversion 55 = .ok (.istore 4, 2) := by decide +kernel
theorem dX2_setDiversion_57 : decode cX2_setDiversion 57 = .ok (.iinc 5 1, 3) := by decide +kernel
theorem dX2_setDiversion_60 : decode cX2_setDiversion 60 = .ok (.goto (-31), 3) := by decide +kernel
theorem dX2_setDiversion_63 : decode cX2_setDiversion 63 = .ok (.iload 4, 2) := by decide +kernel
theorem dX2_setDiversion_65 : decode cX2_setDiversion 65 = .ok (.ireturn, 1) := by decide +kernel
def wp_X2_setDiversion_54 (h : Nat) (x5 : Int32) (s0 : Int32) (s1 : Int32) (S : xm_S) (g : Int32 → xm_S → Prop) (Z29 : Int32 → Int32 → xm_S → Prop) : Prop :=
  ∀ y1, y1 = (s1 + s0) → ∀ y3, y3 = (x5 + (1 : Int32)) → Z29 y1 y3 S
set_option maxRecDepth 100000 in
set_option maxHeartbeats 4000000 in
theorem kp_X2_setDiversion_54 {K : xm_K} (h : Nat) (x5 : Int32) (s0 : Int32) (s1 : Int32) (S : xm_S) {g : Int32 → xm_S → Prop} {Z29 : Int32 → Int32 → xm_S → Prop} (C : xm_Cx K cX2_setDiversion RX2 6 (some (FieldType.int)) rm_X2_setDiversion) (N : xm_Nx K) (hg : ∀ v S, g v S → xm_q K (some (xm_i v)) S) (hZ29 : ∀ x4 x5 S, Z29 x4 x5 S → xm_W K 0 0 29 [(0, xm_r (some h)), (4, xm_i x4), (5, xm_i x5)] [] S) (h1 : wp_X2_setDiversion_54 h x5 s0 s1 S g Z29) : xm_W K 0 0 54 [(0, xm_r (some h)), (5, xm_i x5)] [xm_i s0, xm_i s1] S := by
  unfold wp_X2_setDiversion_54 at h1
  refine x_iadd C dX2_setDiversion_54 ?_
  refine x_topi (fun y1 e2 => ?_)
  have h1 := h1 y1 e2
  refine x_istore (L' := [(4, xm_i y1), (0, xm_r (some h)), (5, xm_i x5)]) C dX2_setDiversion_55 (by decide) rfl ?_
  obtain ⟨y3, e4⟩ : ∃ y3, y3 = (x5 + (1 : Int32)) := ⟨_, rfl⟩
  have h1 := h1 y3 e4
  refine x_iinc (v := y3) (L' := [(5, xm_i y3), (4, xm_i y1), (0, xm_r (some h))]) C 2 dX2_setDiversion_57 rfl (by rw [e4]; rfl) (by decide) rfl ?_
  refine x_goto (tgt := 29) C dX2_setDiversion_60 (by decide) ?_
  refine x_keep (L' := [(0, xm_r (some h)), (4, xm_i y1), (5, xm_i y3)]) C [2, 1, 0] rfl ?_
  exact hZ29 y1 y3 S h1
def wp_X2_setDiversion_29B (h : Nat) (x4 : Int32) (x5 : Int32) (S : xm_S) (g : Int32 → xm_S → Prop) (Z29 : Int32 → Int32 → xm_S → Prop) : Prop :=
  ((nI 16) ≤ x5 → g x4 S) ∧ (¬ (nI 16) ≤ x5 → st_t S h = some (2, 0) ∧ ∃ n6, (st_r S h 7) = some n6 ∧ ∃ z9, st_t S n6 = some (100, z9) ∧ vp_in x5 z9 ∧ (¬ (st_i S n6 (x5).toNatClampNeg) = (-1 : Int32) → wp_X2_setDiversion_54 h x5 (1 : Int32) x4 S g Z29) ∧ ((st_i S n6 (x5).toNatClampNeg) = (-1 : Int32) → wp_X2_setDiversion_54 h x5 (0 : Int32) x4 S g Z29))
def wp_X2_setDiversion_29 (h : Nat) (x4 : Int32) (x5 : Int32) (S : xm_S) (g : Int32 → xm_S → Prop) : Prop :=
  ∀ Z29 : Int32 → Int32 → xm_S → Prop, (∀ x4 x5 S, wp_X2_setDiversion_29B h x4 x5 S g Z29 → Z29 x4 x5 S) → Z29 x4 x5 S
set_option maxRecDepth 100000 in
set_option maxHeartbeats 4000000 in
theorem kp_X2_setDiversion_29B {K : xm_K} (h : Nat) (x4 : Int32) (x5 : Int32) (S : xm_S) {g : Int32 → xm_S → Prop} {Z29 : Int32 → Int32 → xm_S → Prop} (C : xm_Cx K cX2_setDiversion RX2 6 (some (FieldType.int)) rm_X2_setDiversion) (N : xm_Nx K) (hg : ∀ v S, g v S → xm_q K (some (xm_i v)) S) (hZ29 : ∀ x4 x5 S, Z29 x4 x5 S → xm_W K 0 0 29 [(0, xm_r (some h)), (4, xm_i x4), (5, xm_i x5)] [] S) (h1 : wp_X2_setDiversion_29B h x4 x5 S g Z29) : xm_W K 0 0 29 [(0, xm_r (some h)), (4, xm_i x4), (5, xm_i x5)] [] S := by
  unfold wp_X2_setDiversion_29B at h1
  refine x_iload C 2 dX2_setDiversion_29 rfl ?_
  refine x_bipush (v := (nI 16)) C dX2_setDiversion_31 (by decide) ?_
  refine x_icmp_ge (tgt := 63) C dX2_setDiversion_33 (by decide) (fun z9 => ?_) (fun z9 => ?_)
  · have h1 := h1.1 z9
    refine x_iload C 1 dX2_setDiversion_63 rfl ?_
    exact x_iret C (Nat.le_of_ble_eq_true rfl) (Nat.le_of_ble_eq_true rfl) rfl dX2_setDiversion_65 (hg _ _ h1)
  · have h1 := h1.2 z9
    refine x_iload C 1 dX2_setDiversion_36 rfl ?_
    refine x_aload_n C 0 dX2_setDiversion_38 rfl rfl ?_
    obtain ⟨ht5, h1⟩ := h1
    refine x_getf_r (n := h) C rfl ht5 fd_10 (by decide) dX2_setDiversion_39 ?_
    refine x_iload C 2 dX2_setDiversion_42 rfl ?_
    obtain ⟨n6, hr7, h1⟩ := h1
    obtain ⟨z9, ht8, h1⟩ := h1
    obtain ⟨hi10, h1⟩ := h1
    refine x_iald (n := n6) C hr7 ht8 hi10 dX2_setDiversion_44 ?_
    refine x_iconst (v := (-1 : Int32)) C dX2_setDiversion_45 (by decide) ?_
    refine x_icmp_ne (tgt := 53) C dX2_setDiversion_46 (by decide) (fun z9 => ?_) (fun z9 => ?_)
    · have h1 := h1.1 z9
      refine x_iconst (v := (1 : Int32)) C dX2_setDiversion_53 (by decide) ?_
      refine x_keep (L' := [(0, xm_r (some h)), (5, xm_i x5)]) C [0, 2] rfl ?_
      exact kp_X2_setDiversion_54 h x5 (1 : Int32) x4 S C N hg hZ29 h1
    · have h1 := h1.2 z9
      refine x_iconst (v := (0 : Int32)) C dX2_setDiversion_49 (by decide) ?_
      refine x_goto (tgt := 54) C dX2_setDiversion_50 (by decide) ?_
      refine x_keep (L' := [(0, xm_r (some h)), (5, xm_i x5)]) C [0, 2] rfl ?_
      exact kp_X2_setDiversion_54 h x5 (0 : Int32) x4 S C N hg hZ29 h1
theorem kp_X2_setDiversion_29 {K : xm_K} (h : Nat) (x4 : Int32) (x5 : Int32) (S : xm_S) {g : Int32 → xm_S → Prop} (C : xm_Cx K cX2_setDiversion RX2 6 (some (FieldType.int)) rm_X2_setDiversion) (N : xm_Nx K) (hg : ∀ v S, g v S → xm_q K (some (xm_i v)) S)  (h1 : wp_X2_setDiversion_29 h x4 x5 S g) : xm_W K 0 0 29 [(0, xm_r (some h)), (4, xm_i x4), (5, xm_i x5)] [] S :=
  h1 (fun x4 x5 S => xm_W K 0 0 29 [(0, xm_r (some h)), (4, xm_i x4), (5, xm_i x5)] [] S) (fun x4 x5 S hb => kp_X2_setDiversion_29B h x4 x5 S C N hg (fun x4 x5 S hz => hz) hb)
def wp_X2_setDiversion_22 (h : Nat) (s0 : Int32) (s1 : Int32) (s2 : Option Nat) (S : xm_S) (g : Int32 → xm_S → Prop) : Prop :=
  ∃ n11, s2 = some n11 ∧ ∃ z14, st_t S n11 = some (100, z14) ∧ vp_in s1 z14 ∧ ∀ S16, S16 = st_pi S n11 (s1).toNatClampNeg s0 → wp_X2_setDiversion_29 h (0 : Int32) (0 : Int32) S16 g
set_option maxRecDepth 100000 in
set_option maxHeartbeats 4000000 in
theorem kp_X2_setDiversion_22 {K : xm_K} (h : Nat) (s0 : Int32) (s1 : Int32) (s2 : Option Nat) (S : xm_S) {g : Int32 → xm_S → Prop} (C : xm_Cx K cX2_setDiversion RX2 6 (some (FieldType.int)) rm_X2_setDiversion) (N : xm_Nx K) (hg : ∀ v S, g v S → xm_q K (some (xm_i v)) S)  (h1 : wp_X2_setDiversion_22 h s0 s1 s2 S g) : xm_W K 0 0 22 [(0, xm_r (some h))] [xm_i s0, xm_i s1, xm_r s2] S := by
  unfold wp_X2_setDiversion_22 at h1
  obtain ⟨n11, hr12, h1⟩ := h1
  obtain ⟨z14, ht13, h1⟩ := h1
  obtain ⟨hi15, h1⟩ := h1
  refine x_iast (n := n11) C hr12 ht13 hi15 dX2_setDiversion_22 ?_
  refine x_topS (fun S16 e17 => ?_)
  have h1 := h1 S16 e17
  refine x_iconst (v := (0 : Int32)) C dX2_setDiversion_23 (by decide) ?_
  refine x_istore (L' := [(4, xm_i (0 : Int32)), (0, xm_r (some h))]) C dX2_setDiversion_24 (by decide) rfl ?_
  refine x_iconst (v := (0 : Int32)) C dX2_setDiversion_26 (by decide) ?_
  refine x_istore (L' := [(5, xm_i (0 : Int32)), (4, xm_i (0 : Int32)), (0, xm_r (some h))]) C dX2_setDiversion_27 (by decide) rfl ?_
  refine x_keep (L' := [(0, xm_r (some h)), (4, xm_i (0 : Int32)), (5, xm_i (0 : Int32))]) C [2, 1, 0] rfl ?_
  exact kp_X2_setDiversion_29 h (0 : Int32) (0 : Int32) S16 C N hg  h1
def wp_X2_setDiversion (h : Nat) (x1 : Int32) (x2 : Int32) (x3 : Int32) (S : xm_S) (g : Int32 → xm_S → Prop) : Prop :=
  st_t S h = some (2, 0) ∧ ∃ n19, (st_r S h 7) = some n19 ∧ ∃ z22, st_t S n19 = some (100, z22) ∧ vp_in x2 z22 ∧ ∀ S24, S24 = st_pi S n19 (x2).toNatClampNeg x1 → (¬ x1 = (-1 : Int32) → wp_X2_setDiversion_22 h x3 x2 (st_r S24 h 8) S24 g) ∧ (x1 = (-1 : Int32) → wp_X2_setDiversion_22 h (-1 : Int32) x2 (st_r S24 h 8) S24 g)
set_option maxRecDepth 100000 in
set_option maxHeartbeats 4000000 in
theorem kp_X2_setDiversion {K : xm_K} (h : Nat) (x1 : Int32) (x2 : Int32) (x3 : Int32) (S : xm_S) {g : Int32 → xm_S → Prop} (C : xm_Cx K cX2_setDiversion RX2 6 (some (FieldType.int)) rm_X2_setDiversion) (N : xm_Nx K) (hg : ∀ v S, g v S → xm_q K (some (xm_i v)) S)  (h1 : wp_X2_setDiversion h x1 x2 x3 S g) : xm_W K 0 0 0 [(0, xm_r (some h)), (1, xm_i x1), (2, xm_i x2), (3, xm_i x3)] [] S := by
  unfold wp_X2_setDiversion at h1
  refine x_aload_n C 0 dX2_setDiversion_0 rfl rfl ?_
  obtain ⟨ht18, h1⟩ := h1
  refine x_getf_r (n := h) C rfl ht18 fd_10 (by decide) dX2_setDiversion_1 ?_
  refine x_iload_n C 2 dX2_setDiversion_4 rfl rfl ?_
  refine x_iload_n C 1 dX2_setDiversion_5 rfl rfl ?_
  obtain ⟨n19, hr20, h1⟩ := h1
  obtain ⟨z22, ht21, h1⟩ := h1
  obtain ⟨hi23, h1⟩ := h1
  refine x_iast (n := n19) C hr20 ht21 hi23 dX2_setDiversion_6 ?_
  refine x_topS (fun S24 e25 => ?_)
  have h1 := h1 S24 e25
  refine x_aload_n C 0 dX2_setDiversion_7 rfl rfl ?_
  refine x_getf_r (n := h) C rfl (tk_p e25 ht18) fd_11 (by decide) dX2_setDiversion_8 ?_
  refine x_iload_n C 2 dX2_setDiversion_11 rfl rfl ?_
  refine x_iload_n C 1 dX2_setDiversion_12 rfl rfl ?_
  refine x_iconst (v := (-1 : Int32)) C dX2_setDiversion_13 (by decide) ?_
  refine x_icmp_ne (tgt := 21) C dX2_setDiversion_14 (by decide) (fun z9 => ?_) (fun z9 => ?_)
  · have h1 := h1.1 z9
    refine x_iload_n C 3 dX2_setDiversion_21 rfl rfl ?_
    refine x_keep (L' := [(0, xm_r (some h))]) C [0] rfl ?_
    exact kp_X2_setDiversion_22 h x3 x2 (st_r S24 h 8) S24 C N hg  h1
  · have h1 := h1.2 z9
    refine x_iconst (v := (-1 : Int32)) C dX2_setDiversion_17 (by decide) ?_
    refine x_goto (tgt := 22) C dX2_setDiversion_18 (by decide) ?_
    refine x_keep (L' := [(0, xm_r (some h))]) C [0] rfl ?_
    exact kp_X2_setDiversion_22 h (-1 : Int32) x2 (st_r S24 h 8) S24 C N hg  h1
theorem kp_X2_setDiversion_met {h : Nat} {x1 : Int32} {x2 : Int32} {x3 : Int32} {S : xm_S} {g : Int32 → xm_S → Prop}  (h1 : wp_X2_setDiversion h x1 x2 x3 S g) : xm_Met yX2_setDiversion cX2_setDiversion 6 (some (FieldType.int)) rm_X2_setDiversion [xm_r (some h), xm_i x1, xm_i x2, xm_i x3] S (xm_qi g) xm_nox :=
  xm_ofW RX2 (by decide +kernel) rfl (Nat.le_of_ble_eq_true rfl) (fun K C N hq hx hi => kp_X2_setDiversion h x1 x2 x3 S C N (fun v S h => by rw [hq]; exact ⟨v, rfl, h⟩)  h1)
def rm_X2_sweep : Room := { frames := 2, cells := 0, slots := 0, locals := 43 }
theorem dX2_sweep_0 : decode cX2_sweep 0 = .ok (.aload_n 0, 1) := by decide +kernel
theorem dX2_sweep_1 : decode cX2_sweep 1 = .ok (.getfield 24, 3) := by decide +kernel
theorem dX2_sweep_4 : decode cX2_sweep 4 = .ok (.istore_n 1, 1) := by decide +kernel
theorem dX2_sweep_5 : decode cX2_sweep 5 = .ok (.iload_n 1, 1) := by decide +kernel
theorem dX2_sweep_6 : decode cX2_sweep 6 = .ok (.iconst 1, 1) := by decide +kernel
theorem dX2_sweep_7 : decode cX2_sweep 7 = .ok (.isub, 1) := by decide +kernel
theorem dX2_sweep_8 : decode cX2_sweep 8 = .ok (.istore_n 2, 1) := by decide +kernel
theorem dX2_sweep_9 : decode cX2_sweep 9 = .ok (.iload_n 2, 1) := by decide +kernel
theorem dX2_sweep_10 : decode cX2_sweep 10 = .ok (.ifCond .lt 22, 3) := by decide +kernel
theorem dX2_sweep_13 : decode cX2_sweep 13 = .ok (.aload_n 0, 1) := by decide +kernel
theorem dX2_sweep_14 : decode cX2_sweep 14 = .ok (.iload_n 2, 1) := by decide +kernel
theorem dX2_sweep_15 : decode cX2_sweep 15 = .ok (.invokevirtual 139, 3) := by decide +kernel
theorem dX2_sweep_18 : decode cX2_sweep 18 = .ok (.ifCond .eq 8, 3) := by decide +kernel
theorem dX2_sweep_21 : decode cX2_sweep 21 = .ok (.aload_n 0, 1) := by decide +kernel
theorem dX2_sweep_22 : decode cX2_sweep 22 = .ok (.iload_n 2, 1) := by decide +kernel
theorem dX2_sweep_23 : decode cX2_sweep 23 = .ok (.invokevirtual 121, 3) := by decide +kernel
theorem dX2_sweep_26 : decode cX2_sweep 26 = .ok (.iinc 2 (-1), 3) := by decide +kernel
theorem dX2_sweep_29 : decode cX2_sweep 29 = .ok (.goto (-20), 3) := by decide +kernel
theorem dX2_sweep_32 : decode cX2_sweep 32 = .ok (.iload_n 1, 1) := by decide +kernel
theorem dX2_sweep_33 : decode cX2_sweep 33 = .ok (.aload_n 0, 1) := by decide +kernel
theorem dX2_sweep_34 : decode cX2_sweep 34 = .ok (.getfield 24, 3) := by decide +kernel
theorem dX2_sweep_37 : decode cX2_sweep 37 = .ok (.isub, 1) := by decide +kernel
theorem dX2_sweep_38 : decode cX2_sweep 38 = .ok (.ireturn, 1) := by decide +kernel
def wp_X2_sweep_26 (h : Nat) (x1 : Int32) (x2 : Int32) (S : xm_S) (g : Int32 → xm_S → Prop) (Z9 : Int32 → Int32 → xm_S → Prop) : Prop :=
  ∀ y1, y1 = (x2 + (-1 : Int32)) → Z9 x1 y1 S
set_option maxRecDepth 100000 in
set_option maxHeartbeats 4000000 in
theorem kp_X2_sweep_26 {K : xm_K} (h : Nat) (x1 : Int32) (x2 : Int32) (S : xm_S) {g : Int32 → xm_S → Prop} {Z9 : Int32 → Int32 → xm_S → Prop} (C : xm_Cx K cX2_sweep RX2 3 (some (FieldType.int)) rm_X2_sweep) (N : xm_Nx K) (hg : ∀ v S, g v S → xm_q K (some (xm_i v)) S) (hZ9 : ∀ x1 x2 S, Z9 x1 x2 S → xm_W K 0 0 9 [(0, xm_r (some h)), (1, xm_i x1), (2, xm_i x2)] [] S) (h1 : wp_X2_sweep_26 h x1 x2 S g Z9) : xm_W K 0 0 26 [(0, xm_r (some h)), (1, xm_i x1), (2, xm_i x2)] [] S := by
  unfold wp_X2_sweep_26 at h1
  obtain ⟨y1, e2⟩ : ∃ y1, y1 = (x2 + (-1 : Int32)) := ⟨_, rfl⟩
  have h1 := h1 y1 e2
  refine x_iinc (v := y1) (L' := [(2, xm_i y1), (0, xm_r (some h)), (1, xm_i x1)]) C 2 dX2_sweep_26 rfl (by rw [e2]; rfl) (by decide) rfl ?_
  refine x_goto (tgt := 9) C dX2_sweep_29 (by decide) ?_
  refine x_keep (L' := [(0, xm_r (some h)), (1, xm_i x1), (2, xm_i y1)]) C [1, 2, 0] rfl ?_
  exact hZ9 x1 y1 S h1
def wp_X2_sweep_9B (h : Nat) (x1 : Int32) (x2 : Int32) (S : xm_S) (g : Int32 → xm_S → Prop) (Z9 : Int32 → Int32 → xm_S → Prop) : Prop :=
  (x2 < 0 → st_t S h = some (2, 0) ∧ g (x1 - (st_i S h 2)) S) ∧ (¬ x2 < 0 → st_t S h = some (2, 0) ∧ wp_X2_canGo h x2 S (fun r6 S5 => (r6 = 0 → wp_X2_sweep_26 h x1 x2 S5 g Z9) ∧ (¬ r6 = 0 → st_t S5 h = some (2, 0) ∧ wp_X2_drop h x2 S5 (fun S8 => wp_X2_sweep_26 h x1 x2 S8 g Z9))))
def wp_X2_sweep_9 (h : Nat) (x1 : Int32) (x2 : Int32) (S : xm_S) (g : Int32 → xm_S → Prop) : Prop :=
  ∀ Z9 : Int32 → Int32 → xm_S → Prop, (∀ x1 x2 S, wp_X2_sweep_9B h x1 x2 S g Z9 → Z9 x1 x2 S) → Z9 x1 x2 S
set_option maxRecDepth 100000 in
set_option maxHeartbeats 4000000 in
theorem kp_X2_sweep_9B {K : xm_K} (h : Nat) (x1 : Int32) (x2 : Int32) (S : xm_S) {g : Int32 → xm_S → Prop} {Z9 : Int32 → Int32 → xm_S → Prop} (C : xm_Cx K cX2_sweep RX2 3 (some (FieldType.int)) rm_X2_sweep) (N : xm_Nx K) (hg : ∀ v S, g v S → xm_q K (some (xm_i v)) S) (hZ9 : ∀ x1 x2 S, Z9 x1 x2 S → xm_W K 0 0 9 [(0, xm_r (some h)), (1, xm_i x1), (2, xm_i x2)] [] S) (h1 : wp_X2_sweep_9B h x1 x2 S g Z9) : xm_W K 0 0 9 [(0, xm_r (some h)), (1, xm_i x1), (2, xm_i x2)] [] S := by
  unfold wp_X2_sweep_9B at h1
  refine x_iload_n C 2 dX2_sweep_9 rfl rfl ?_
  refine x_if_lt (tgt := 32) C dX2_sweep_10 (by decide) (fun z9 => ?_) (fun z9 => ?_)
  · have h1 := h1.1 z9
    refine x_iload_n C 1 dX2_sweep_32 rfl rfl ?_
    refine x_aload_n C 0 dX2_sweep_33 rfl rfl ?_
    obtain ⟨ht3, h1⟩ := h1
    refine x_getf_i (n := h) C rfl ht3 fd_18 (by decide) dX2_sweep_34 ?_
    refine x_isub C dX2_sweep_37 ?_
    exact x_iret C (Nat.le_of_ble_eq_true rfl) (Nat.le_of_ble_eq_true rfl) rfl dX2_sweep_38 (hg _ _ h1)
  · have h1 := h1.2 z9
    refine x_aload_n C 0 dX2_sweep_13 rfl rfl ?_
    refine x_iload_n C 2 dX2_sweep_14 rfl rfl ?_
    obtain ⟨ht4, h1⟩ := h1
    refine x_callV (rm' := rm_X2_canGo) (n := h) C (kp_X2_canGo_met h1) lk_4 gw_49 gw_50 xv_2 rfl rfl ht4 rfl (Nat.le_of_ble_eq_true rfl) ⟨Nat.le_of_ble_eq_true rfl, Nat.le_of_ble_eq_true rfl, (Nat.le_of_ble_eq_true rfl), (Nat.le_of_ble_eq_true rfl)⟩ dX2_sweep_15 xm_kx (xm_ki (fun r6 S5 h1 => ?_))
    refine x_if_eq (tgt := 26) C dX2_sweep_18 (by decide) (fun z9 => ?_) (fun z9 => ?_)
    · have h1 := h1.1 z9
      exact kp_X2_sweep_26 h x1 x2 S5 C N hg hZ9 h1
    · have h1 := h1.2 z9
      refine x_aload_n C 0 dX2_sweep_21 rfl rfl ?_
      refine x_iload_n C 2 dX2_sweep_22 rfl rfl ?_
      obtain ⟨ht7, h1⟩ := h1
      refine x_callV (rm' := rm_X2_drop) (n := h) C (kp_X2_drop_met h1) lk_8 gw_64 gw_65 xv_2 rfl rfl ht7 rfl (Nat.le_of_ble_eq_true rfl) ⟨Nat.le_of_ble_eq_true rfl, Nat.le_of_ble_eq_true rfl, (Nat.le_of_ble_eq_true rfl), (Nat.le_of_ble_eq_true rfl)⟩ dX2_sweep_23 xm_kx (xm_kv (fun S8 h1 => ?_))
      exact kp_X2_sweep_26 h x1 x2 S8 C N hg hZ9 h1
theorem kp_X2_sweep_9 {K : xm_K} (h : Nat) (x1 : Int32) (x2 : Int32) (S : xm_S) {g : Int32 → xm_S → Prop} (C : xm_Cx K cX2_sweep RX2 3 (some (FieldType.int)) rm_X2_sweep) (N : xm_Nx K) (hg : ∀ v S, g v S → xm_q K (some (xm_i v)) S)  (h1 : wp_X2_sweep_9 h x1 x2 S g) : xm_W K 0 0 9 [(0, xm_r (some h)), (1, xm_i x1), (2, xm_i x2)] [] S :=
  h1 (fun x1 x2 S => xm_W K 0 0 9 [(0, xm_r (some h)), (1, xm_i x1), (2, xm_i x2)] [] S) (fun x1 x2 S hb => kp_X2_sweep_9B h x1 x2 S C N hg (fun x1 x2 S hz => hz) hb)
def wp_X2_sweep (h : Nat)  (S : xm_S) (g : Int32 → xm_S → Prop) : Prop :=
  st_t S h = some (2, 0) ∧ ∀ y11, y11 = ((st_i S h 2) - (1 : Int32)) → wp_X2_sweep_9 h (st_i S h 2) y11 S g
set_option maxRecDepth 100000 in
set_option maxHeartbeats 4000000 in
theorem kp_X2_sweep {K : xm_K} (h : Nat)  (S : xm_S) {g : Int32 → xm_S → Prop} (C : xm_Cx K cX2_sweep RX2 3 (some (FieldType.int)) rm_X2_sweep) (N : xm_Nx K) (hg : ∀ v S, g v S → xm_q K (some (xm_i v)) S)  (h1 : wp_X2_sweep h  S g) : xm_W K 0 0 0 [(0, xm_r (some h))] [] S := by
  unfold wp_X2_sweep at h1
  refine x_aload_n C 0 dX2_sweep_0 rfl rfl ?_
  obtain ⟨ht10, h1⟩ := h1
  refine x_getf_i (n := h) C rfl ht10 fd_18 (by decide) dX2_sweep_1 ?_
  refine x_istore_n (L' := [(1, xm_i (st_i S h 2)), (0, xm_r (some h))]) C dX2_sweep_4 rfl (by decide) rfl ?_
  refine x_iload_n C 0 dX2_sweep_5 rfl rfl ?_
  refine x_iconst (v := (1 : Int32)) C dX2_sweep_6 (by decide) ?_
  refine x_isub C dX2_sweep_7 ?_
  refine x_topi (fun y11 e12 => ?_)
  have h1 := h1 y11 e12
  refine x_istore_n (L' := [(2, xm_i y11), (1, xm_i (st_i S h 2)), (0, xm_r (some h))]) C dX2_sweep_8 rfl (by decide) rfl ?_
  refine x_keep (L' := [(0, xm_r (some h)), (1, xm_i (st_i S h 2)), (2, xm_i y11)]) C [2, 1, 0] rfl ?_
  exact kp_X2_sweep_9 h (st_i S h 2) y11 S C N hg  h1
theorem kp_X2_sweep_met {h : Nat}  {S : xm_S} {g : Int32 → xm_S → Prop}  (h1 : wp_X2_sweep h  S g) : xm_Met yX2_sweep cX2_sweep 3 (some (FieldType.int)) rm_X2_sweep [xm_r (some h)] S (xm_qi g) xm_nox :=
  xm_ofW RX2 (by decide +kernel) rfl (Nat.le_of_ble_eq_true rfl) (fun K C N hq hx hi => kp_X2_sweep h  S C N (fun v S h => by rw [hq]; exact ⟨v, rfl, h⟩)  h1)
def rm_X4_init : Room := { frames := 1, cells := 0, slots := 0, locals := 20 }
theorem dX4_init_0 : decode cX4_init 0 = .ok (.aload_n 0, 1) := by decide +kernel
theorem dX4_init_1 : decode cX4_init 1 = .ok (.invokespecial 1, 3) := by decide +kernel
theorem dX4_init_4 : decode cX4_init 4 = .ok (.aload_n 0, 1) := by decide +kernel
theorem dX4_init_5 : decode cX4_init 5 = .ok (.iconst 0, 1) := by decide +kernel
theorem dX4_init_6 : decode cX4_init 6 = .ok (.putfield 7, 3) := by decide +kernel
theorem dX4_init_9 : decode cX4_init 9 = .ok (.aload_n 0, 1) := by decide +kernel
theorem dX4_init_10 : decode cX4_init 10 = .ok (.iload_n 1, 1) := by decide +kernel
theorem dX4_init_11 : decode cX4_init 11 = .ok (.putfield 13, 3) := by decide +kernel
theorem dX4_init_14 : decode cX4_init 14 = .ok (.aload_n 0, 1) := by decide +kernel
theorem dX4_init_15 : decode cX4_init 15 = .ok (.aload_n 2, 1) := by decide +kernel
theorem dX4_init_16 : decode cX4_init 16 = .ok (.putfield 16, 3) := by decide +kernel
theorem dX4_init_19 : decode cX4_init 19 = .ok (.aload_n 0, 1) := by decide +kernel
theorem dX4_init_20 : decode cX4_init 20 = .ok (.iload_n 3, 1) := by decide +kernel
theorem dX4_init_21 : decode cX4_init 21 = .ok (.putfield 20, 3) := by decide +kernel
theorem dX4_init_24 : decode cX4_init 24 = .ok (.aload_n 0, 1) := by decide +kernel
theorem dX4_init_25 : decode cX4_init 25 = .ok (.iload 4, 2) := by decide +kernel
theorem dX4_init_27 : decode cX4_init 27 = .ok (.putfield 23, 3) := by decide +kernel
theorem dX4_init_30 : decode cX4_init 30 = .ok (.aload_n 0, 1) := by decide +kernel
theorem dX4_init_31 : decode cX4_init 31 = .ok (.iload 5, 2) := by decide +kernel
theorem dX4_init_33 : decode cX4_init 33 = .ok (.putfield 26, 3) := by decide +kernel
theorem dX4_init_36 : decode cX4_init 36 = .ok (.return_, 1) := by decide +kernel
def wp_X4_init (h : Nat) (x1 : Int32) (x2 : Option Nat) (x3 : Int32) (x4 : Int32) (x5 : Int32) (S : xm_S) (g : xm_S → Prop) : Prop :=
  st_t S h = some (4, 0) ∧ ∀ S2, S2 = st_pi S h 5 (0 : Int32) → ∀ S4, S4 = st_pi S2 h 0 x1 → ∀ S6, S6 = st_pr S4 h 1 x2 → ∀ S8, S8 = st_pi S6 h 2 x3 → ∀ S10, S10 = st_pi S8 h 3 x4 → ∀ S12, S12 = st_pi S10 h 4 x5 → g S12
set_option maxRecDepth 100000 in
set_option maxHeartbeats 4000000 in
theorem kp_X4_init {K : xm_K} (h : Nat) (x1 : Int32) (x2 : Option Nat) (x3 : Int32) (x4 : Int32) (x5 : Int32) (S : xm_S) {g : xm_S → Prop} (C : xm_Cx K cX4_init RX4 6 none rm_X4_init) (N : xm_Nx K) (hini : xm_init K) (hg : ∀ S, g S → xm_q K none S)  (h1 : wp_X4_init h x1 x2 x3 x4 x5 S g) : xm_W K 0 0 0 [(0, xm_r (some h)), (1, xm_i x1), (2, xm_r x2), (3, xm_i x3), (4, xm_i x4), (5, xm_i x5)] [] S := by
  unfold wp_X4_init at h1
  refine x_aload_n C 0 dX4_init_0 rfl rfl ?_
  refine x_objInit (n := h) C rfl gw_105 (Nat.le_of_ble_eq_true rfl) (Nat.le_of_ble_eq_true rfl) (Nat.le_of_ble_eq_true rfl) dX4_init_1 gw_1 gw_2 ?_
  refine x_aload_n C 0 dX4_init_4 rfl rfl ?_
  refine x_iconst (v := (0 : Int32)) C dX4_init_5 (by decide) ?_
  obtain ⟨ht1, h1⟩ := h1
  refine x_putf_i (n := h) C rfl ht1 fd_32 xc_4 (by decide) rfl ⟨rfl, rfl⟩ dX4_init_6 ?_
  refine x_topS (fun S2 e3 => ?_)
  have h1 := h1 S2 e3
  refine x_aload_n C 0 dX4_init_9 rfl rfl ?_
  refine x_iload_n C 1 dX4_init_10 rfl rfl ?_
  refine x_putfF_i (n := h) C rfl (tk_p e3 ht1) fd_33 xc_4 (by decide) rfl hini rfl ⟨rfl, rfl⟩ dX4_init_11 ?_
  refine x_topS (fun S4 e5 => ?_)
  have h1 := h1 S4 e5
  refine x_aload_n C 0 dX4_init_14 rfl rfl ?_
  refine x_aload_n C 2 dX4_init_15 rfl rfl ?_
  refine x_putfF_r (n := h) C rfl (tk_p e5 (tk_p e3 ht1)) fd_34 xc_4 (by decide) rfl hini rfl (xm_nr rfl) dX4_init_16 ?_
  refine x_topS (fun S6 e7 => ?_)
  have h1 := h1 S6 e7
  refine x_aload_n C 0 dX4_init_19 rfl rfl ?_
  refine x_iload_n C 3 dX4_init_20 rfl rfl ?_
  refine x_putfF_i (n := h) C rfl (tk_p e7 (tk_p e5 (tk_p e3 ht1))) fd_35 xc_4 (by decide) rfl hini rfl ⟨rfl, rfl⟩ dX4_init_21 ?_
  refine x_topS (fun S8 e9 => ?_)
  have h1 := h1 S8 e9
  refine x_aload_n C 0 dX4_init_24 rfl rfl ?_
  refine x_iload C 4 dX4_init_25 rfl ?_
  refine x_putfF_i (n := h) C rfl (tk_p e9 (tk_p e7 (tk_p e5 (tk_p e3 ht1)))) fd_36 xc_4 (by decide) rfl hini rfl ⟨rfl, rfl⟩ dX4_init_27 ?_
  refine x_topS (fun S10 e11 => ?_)
  have h1 := h1 S10 e11
  refine x_aload_n C 0 dX4_init_30 rfl rfl ?_
  refine x_iload C 5 dX4_init_31 rfl ?_
  refine x_putfF_i (n := h) C rfl (tk_p e11 (tk_p e9 (tk_p e7 (tk_p e5 (tk_p e3 ht1))))) fd_37 xc_4 (by decide) rfl hini rfl ⟨rfl, rfl⟩ dX4_init_33 ?_
  refine x_topS (fun S12 e13 => ?_)
  have h1 := h1 S12 e13
  exact x_vret C (Nat.le_of_ble_eq_true rfl) (Nat.le_of_ble_eq_true rfl) rfl dX4_init_36 (hg _ h1)
theorem kp_X4_init_met {h : Nat} {x1 : Int32} {x2 : Option Nat} {x3 : Int32} {x4 : Int32} {x5 : Int32} {S : xm_S} {g : xm_S → Prop}  (h1 : wp_X4_init h x1 x2 x3 x4 x5 S g) : xm_Met yX4_init cX4_init 6 none rm_X4_init [xm_r (some h), xm_i x1, xm_r x2, xm_i x3, xm_i x4, xm_i x5] S (xm_qv g) xm_nox :=
  xm_ofW RX4 (by decide +kernel) rfl (Nat.le_of_ble_eq_true rfl) (fun K C N hq hx hi => kp_X4_init h x1 x2 x3 x4 x5 S C N (hi rfl) (fun S h => by rw [hq]; exact ⟨rfl, h⟩)  h1)
def rm_X5_init : Room := { frames := 1, cells := 1, slots := 4, locals := 20 }
theorem dX5_init_0 : decode cX5_init 0 = .ok (.aload_n 0, 1) := by decide +kernel
theorem dX5_init_1 : decode cX5_init 1 = .ok (.invokespecial 3, 3) := by decide +kernel
theorem dX5_init_4 : decode cX5_init 4 = .ok (.aload_n 0, 1) := by decide +kernel
theorem dX5_init_5 : decode cX5_init 5 = .ok (.iconst 0, 1) := by decide +kernel
theorem dX5_init_6 : decode cX5_init 6 = .ok (.putfield 9, 3) := by decide +kernel
theorem dX5_init_9 : decode cX5_init 9 = .ok (.aload_n 0, 1) := by decide +kernel
theorem dX5_init_10 : decode cX5_init 10 = .ok (.iconst 4, 1) := by decide +kernel
theorem dX5_init_11 : decode cX5_init 11 = .ok (.anewarray 15, 3) := by decide +kernel
theorem dX5_init_14 : decode cX5_init 14 = .ok (.putfield 17, 3) := by decide +kernel
theorem dX5_init_17 : decode cX5_init 17 = .ok (.aload_n 0, 1) := by decide +kernel
theorem dX5_init_18 : decode cX5_init 18 = .ok (.iconst 0, 1) := by decide +kernel
theorem dX5_init_19 : decode cX5_init 19 = .ok (.putfield 21, 3) := by decide +kernel
theorem dX5_init_22 : decode cX5_init 22 = .ok (.return_, 1) := by decide +kernel
def wp_X5_init (h : Nat)  (S : xm_S) (g : xm_S → Prop) : Prop :=
  st_t S h = some (5, 0) ∧ ∀ S2, S2 = st_pi S h 0 (0 : Int32) → ∃ n4, st_t S2 n4 = none ∧ ∀ S6, S6 = st_nw S2 n4 (120, 4) → ∀ S8, S8 = st_pr S6 h 1 (some n4) → ∀ S10, S10 = st_pi S8 h 2 (0 : Int32) → g S10
set_option maxRecDepth 100000 in
set_option maxHeartbeats 4000000 in
theorem kp_X5_init {K : xm_K} (h : Nat)  (S : xm_S) {g : xm_S → Prop} (C : xm_Cx K cX5_init RX5 1 none rm_X5_init) (N : xm_Nx K) (hini : xm_init K) (hg : ∀ S, g S → xm_q K none S)  (h1 : wp_X5_init h  S g) : xm_W K 0 0 0 [(0, xm_r (some h))] [] S := by
  unfold wp_X5_init at h1
  refine x_aload_n C 0 dX5_init_0 rfl rfl ?_
  refine x_objInit (n := h) C rfl gw_112 (Nat.le_of_ble_eq_true rfl) (Nat.le_of_ble_eq_true rfl) (Nat.le_of_ble_eq_true rfl) dX5_init_1 gw_1 gw_2 ?_
  refine x_aload_n C 0 dX5_init_4 rfl rfl ?_
  refine x_iconst (v := (0 : Int32)) C dX5_init_5 (by decide) ?_
  obtain ⟨ht1, h1⟩ := h1
  refine x_putf_i (n := h) C rfl ht1 fd_38 xc_5 (by decide) rfl ⟨rfl, rfl⟩ dX5_init_6 ?_
  refine x_topS (fun S2 e3 => ?_)
  have h1 := h1 S2 e3
  refine x_aload_n C 0 dX5_init_9 rfl rfl ?_
  refine x_iconst (v := (nI 4)) C dX5_init_10 (by decide) ?_
  obtain ⟨n4, hn5, h1⟩ := h1
  refine x_newq (n := n4) (ci := 10) (len := 4) C gw_114 (by decide +kernel) (by decide) rfl (by decide) (by decide) hn5 (Nat.le_of_ble_eq_true rfl) (Nat.le_of_ble_eq_true rfl) dX5_init_11 ?_
  refine x_topS (fun S6 e7 => ?_)
  have h1 := h1 S6 e7
  refine x_putfF_r (n := h) C rfl (tk_n e7 hn5 (tk_p e3 ht1)) fd_39 xc_5 (by decide) rfl hini rfl (xm_nr rfl) dX5_init_14 ?_
  refine x_topS (fun S8 e9 => ?_)
  have h1 := h1 S8 e9
  refine x_aload_n C 0 dX5_init_17 rfl rfl ?_
  refine x_iconst (v := (0 : Int32)) C dX5_init_18 (by decide) ?_
  refine x_putf_i (n := h) C rfl (tk_p e9 (tk_n e7 hn5 (tk_p e3 ht1))) fd_40 xc_5 (by decide) rfl ⟨rfl, rfl⟩ dX5_init_19 ?_
  refine x_topS (fun S10 e11 => ?_)
  have h1 := h1 S10 e11
  exact x_vret C (Nat.le_of_ble_eq_true rfl) (Nat.le_of_ble_eq_true rfl) rfl dX5_init_22 (hg _ h1)
theorem kp_X5_init_met {h : Nat}  {S : xm_S} {g : xm_S → Prop}  (h1 : wp_X5_init h  S g) : xm_Met yX5_init cX5_init 1 none rm_X5_init [xm_r (some h)] S (xm_qv g) xm_nox :=
  xm_ofW RX5 (by decide +kernel) rfl (Nat.le_of_ble_eq_true rfl) (fun K C N hq hx hi => kp_X5_init h  S C N (hi rfl) (fun S h => by rw [hq]; exact ⟨rfl, h⟩)  h1)
def rm_J6_compare_7cf53 : Room := { frames := 1, cells := 0, slots := 0, locals := 20 }
theorem dJ6_compare_7cf53_0 : decode cJ6_compare_7cf53 0 = .ok (.iload_n 0, 1) := by decide +kernel
theorem dJ6_compare_7cf53_1 : decode cJ6_compare_7cf53 1 = .ok (.iload_n 1, 1) := by decide +kernel
theorem dJ6_compare_7cf53_2 : decode cJ6_compare_7cf53 2 = .ok (.if_icmp .ge 7, 3) := by decide +kernel
theorem dJ6_compare_7cf53_5 : decode cJ6_compare_7cf53 5 = .ok (.iconst (-1), 1) := by decide +kernel
theorem dJ6_compare_7cf53_6 : decode cJ6_compare_7cf53 6 = .ok (.goto 13, 3) := by decide +kernel
theorem dJ6_compare_7cf53_9 : decode cJ6_compare_7cf53 9 = .ok (.iload_n 0, 1) := by decide +kernel
theorem dJ6_compare_7cf53_10 : decode cJ6_compare_7cf53 10 = .ok (.iload_n 1, 1) := by decide +kernel
theorem dJ6_compare_7cf53_11 : decode cJ6_compare_7cf53 11 = .ok (.if_icmp .ne 7, 3) := by decide +kernel
theorem dJ6_compare_7cf53_14 : decode cJ6_compare_7cf53 14 = .ok (.iconst 0, 1) := by decide +kernel
theorem dJ6_compare_7cf53_15 : decode cJ6_compare_7cf53 15 = .ok (.goto 4, 3) := by decide +kernel
theorem dJ6_compare_7cf53_18 : decode cJ6_compare_7cf53 18 = .ok (.iconst 1, 1) := by decide +kernel
theorem dJ6_compare_7cf53_19 : decode cJ6_compare_7cf53 19 = .ok (.ireturn, 1) := by decide +kernel
def wp_J6_compare_7cf53_19 (s0 : Int32) (S : xm_S) (g : Int32 → xm_S → Prop) : Prop :=
  g s0 S
set_option maxRecDepth 100000 in
set_option maxHeartbeats 4000000 in
theorem kp_J6_compare_7cf53_19 {K : xm_K} (s0 : Int32) (S : xm_S) {g : Int32 → xm_S → Prop} (C : xm_Cx K cJ6_compare_7cf53 RJ6 2 (some (FieldType.int)) rm_J6_compare_7cf53) (N : xm_Nx K) (hg : ∀ v S, g v S → xm_q K (some (xm_i v)) S)  (h1 : wp_J6_compare_7cf53_19 s0 S g) : xm_W K 0 0 19 [] [xm_i s0] S := by
  unfold wp_J6_compare_7cf53_19 at h1
  exact x_iret C (Nat.le_of_ble_eq_true rfl) (Nat.le_of_ble_eq_true rfl) rfl dJ6_compare_7cf53_19 (hg _ _ h1)
def wp_J6_compare_7cf53 (x0 : Int32) (x1 : Int32) (S : xm_S) (g : Int32 → xm_S → Prop) : Prop :=
  (x1 ≤ x0 → (¬ x0 = x1 → wp_J6_compare_7cf53_19 (1 : Int32) S g) ∧ (x0 = x1 → wp_J6_compare_7cf53_19 (0 : Int32) S g)) ∧ (¬ x1 ≤ x0 → wp_J6_compare_7cf53_19 (-1 : Int32) S g)
set_option maxRecDepth 100000 in
set_option maxHeartbeats 4000000 in
theorem kp_J6_compare_7cf53 {K : xm_K} (x0 : Int32) (x1 : Int32) (S : xm_S) {g : Int32 → xm_S → Prop} (C : xm_Cx K cJ6_compare_7cf53 RJ6 2 (some (FieldType.int)) rm_J6_compare_7cf53) (N : xm_Nx K) (hg : ∀ v S, g v S → xm_q K (some (xm_i v)) S)  (h1 : wp_J6_compare_7cf53 x0 x1 S g) : xm_W K 0 0 0 [(0, xm_i x0), (1, xm_i x1)] [] S := by
  unfold wp_J6_compare_7cf53 at h1
  refine x_iload_n C 0 dJ6_compare_7cf53_0 rfl rfl ?_
  refine x_iload_n C 1 dJ6_compare_7cf53_1 rfl rfl ?_
  refine x_icmp_ge (tgt := 9) C dJ6_compare_7cf53_2 (by decide) (fun z9 => ?_) (fun z9 => ?_)
  · have h1 := h1.1 z9
    refine x_iload_n C 0 dJ6_compare_7cf53_9 rfl rfl ?_
    refine x_iload_n C 1 dJ6_compare_7cf53_10 rfl rfl ?_
    refine x_icmp_ne (tgt := 18) C dJ6_compare_7cf53_11 (by decide) (fun z9 => ?_) (fun z9 => ?_)
    · have h1 := h1.1 z9
      refine x_iconst (v := (1 : Int32)) C dJ6_compare_7cf53_18 (by decide) ?_
      refine x_keep (L' := []) C [] rfl ?_
      exact kp_J6_compare_7cf53_19 (1 : Int32) S C N hg  h1
    · have h1 := h1.2 z9
      refine x_iconst (v := (0 : Int32)) C dJ6_compare_7cf53_14 (by decide) ?_
      refine x_goto (tgt := 19) C dJ6_compare_7cf53_15 (by decide) ?_
      refine x_keep (L' := []) C [] rfl ?_
      exact kp_J6_compare_7cf53_19 (0 : Int32) S C N hg  h1
  · have h1 := h1.2 z9
    refine x_iconst (v := (-1 : Int32)) C dJ6_compare_7cf53_5 (by decide) ?_
    refine x_goto (tgt := 19) C dJ6_compare_7cf53_6 (by decide) ?_
    refine x_keep (L' := []) C [] rfl ?_
    exact kp_J6_compare_7cf53_19 (-1 : Int32) S C N hg  h1
theorem kp_J6_compare_7cf53_met {x0 : Int32} {x1 : Int32} {S : xm_S} {g : Int32 → xm_S → Prop}  (h1 : wp_J6_compare_7cf53 x0 x1 S g) : xm_Met yJ6_compare_7cf53 cJ6_compare_7cf53 2 (some (FieldType.int)) rm_J6_compare_7cf53 [xm_i x0, xm_i x1] S (xm_qi g) xm_nox :=
  xm_ofW RJ6 (by decide +kernel) rfl (Nat.le_of_ble_eq_true rfl) (fun K C N hq hx hi => kp_J6_compare_7cf53 x0 x1 S C N (fun v S h => by rw [hq]; exact ⟨v, rfl, h⟩)  h1)
def rm_X9_rank : Room := { frames := 1, cells := 0, slots := 0, locals := 20 }
theorem dX9_rank_0 : decode cX9_rank 0 = .ok (.iload_n 1, 1) := by decide +kernel
theorem dX9_rank_1 : decode cX9_rank 1 = .ok (.iconst 1, 1) := by decide +kernel
theorem dX9_rank_2 : decode cX9_rank 2 = .ok (.if_icmp .ne 5, 3) := by decide +kernel
theorem dX9_rank_5 : decode cX9_rank 5 = .ok (.iload_n 0, 1) := by decide +kernel
theorem dX9_rank_6 : decode cX9_rank 6 = .ok (.ireturn, 1) := by decide +kernel
theorem dX9_rank_7 : decode cX9_rank 7 = .ok (.iload_n 1, 1) := by decide +kernel
theorem dX9_rank_8 : decode cX9_rank 8 = .ok (.iconst 2, 1) := by decide +kernel
theorem dX9_rank_9 : decode cX9_rank 9 = .ok (.if_icmp .ne 29, 3) := by decide +kernel
theorem dX9_rank_12 : decode cX9_rank 12 = .ok (.iload_n 0, 1) := by decide +kernel
theorem dX9_rank_13 : decode cX9_rank 13 = .ok (.iconst 4, 1) := by decide +kernel
theorem dX9_rank_14 : decode cX9_rank 14 = .ok (.ishr, 1) := by decide +kernel
theorem dX9_rank_15 : decode cX9_rank 15 = .ok (.bipush 15, 2) := by decide +kernel
theorem dX9_rank_17 : decode cX9_rank 17 = .ok (.iand, 1) := by decide +kernel
theorem dX9_rank_18 : decode cX9_rank 18 = .ok (.bipush 12, 2) := by decide +kernel
theorem dX9_rank_20 : decode cX9_rank 20 = .ok (.ishl, 1) := by decide +kernel
theorem dX9_rank_21 : decode cX9_rank 21 = .ok (.iload_n 0, 1) := by decide +kernel
theorem dX9_rank_22 : decode cX9_rank 22 = .ok (.bipush 8, 2) := by decide +kernel
theorem dX9_rank_24 : decode cX9_rank 24 = .ok (.ishr, 1) := by decide +kernel
theorem dX9_rank_25 : decode cX9_rank 25 = .ok (.sipush 255, 3) := by decide +kernel
theorem dX9_rank_28 : decode cX9_rank 28 = .ok (.iand, 1) := by decide +kernel
theorem dX9_rank_29 : decode cX9_rank 29 = .ok (.iconst 4, 1) := by decide +kernel
theorem dX9_rank_30 : decode cX9_rank 30 = .ok (.ishl, 1) := by decide +kernel
theorem dX9_rank_31 : decode cX9_rank 31 = .ok (.ior, 1) := by decide +kernel
theorem dX9_rank_32 : decode cX9_rank 32 = .ok (.iload_n 0, 1) := by decide +kernel
theorem dX9_rank_33 : decode cX9_rank 33 = .ok (.bipush 15, 2) := by decide +kernel
theorem dX9_rank_35 : decode cX9_rank 35 = .ok (.iand, 1) := by decide +kernel
theorem dX9_rank_36 : decode cX9_rank 36 = .ok (.ior, 1) := by decide +kernel
theorem dX9_rank_37 : decode cX9_rank 37 = .ok (.ireturn, 1) := by decide +kernel
theorem dX9_rank_38 : decode cX9_rank 38 = .ok (.iload_n 0, 1) := by decide +kernel
theorem dX9_rank_39 : decode cX9_rank 39 = .ok (.ldc 35, 2) := by decide +kernel
theorem dX9_rank_41 : decode cX9_rank 41 = .ok (.iand, 1) := by decide +kernel
theorem dX9_rank_42 : decode cX9_rank 42 = .ok (.ireturn, 1) := by decide +kernel
def wp_X9_rank (x0 : Int32) (x1 : Int32) (S : xm_S) (g : Int32 → xm_S → Prop) : Prop :=
  (¬ x1 = (1 : Int32) → (¬ x1 = (nI 2) → g (x0 &&& (nI 65535)) S) ∧ (x1 = (nI 2) → g (((((x0 >>> ((nI 4) &&& 31)) &&& (nI 15)) <<< ((nI 12) &&& 31)) ||| (((x0 >>> ((nI 8) &&& 31)) &&& (nI 255)) <<< ((nI 4) &&& 31))) ||| (x0 &&& (nI 15))) S)) ∧ (x1 = (1 : Int32) → g x0 S)
set_option maxRecDepth 100000 in
set_option maxHeartbeats 4000000 in
theorem kp_X9_rank {K : xm_K} (x0 : Int32) (x1 : Int32) (S : xm_S) {g : Int32 → xm_S → Prop} (C : xm_Cx K cX9_rank RX9 2 (some (FieldType.int)) rm_X9_rank) (N : xm_Nx K) (hg : ∀ v S, g v S → xm_q K (some (xm_i v)) S)  (h1 : wp_X9_rank x0 x1 S g) : xm_W K 0 0 0 [(0, xm_i x0), (1, xm_i x1)] [] S := by
  unfold wp_X9_rank at h1
  refine x_iload_n C 1 dX9_rank_0 rfl rfl ?_
  refine x_iconst (v := (1 : Int32)) C dX9_rank_1 (by decide) ?_
  refine x_icmp_ne (tgt := 7) C dX9_rank_2 (by decide) (fun z9 => ?_) (fun z9 => ?_)
  · have h1 := h1.1 z9
    refine x_iload_n C 1 dX9_rank_7 rfl rfl ?_
    refine x_iconst (v := (nI 2)) C dX9_rank_8 (by decide) ?_
    refine x_icmp_ne (tgt := 38) C dX9_rank_9 (by decide) (fun z9 => ?_) (fun z9 => ?_)
    · have h1 := h1.1 z9
      refine x_iload_n C 0 dX9_rank_38 rfl rfl ?_
      refine x_ldc (v := nI 65535) C gw_117 dX9_rank_39 ?_
      refine x_iand C dX9_rank_41 ?_
      exact x_iret C (Nat.le_of_ble_eq_true rfl) (Nat.le_of_ble_eq_true rfl) rfl dX9_rank_42 (hg _ _ h1)
    · have h1 := h1.2 z9
      refine x_iload_n C 0 dX9_rank_12 rfl rfl ?_
      refine x_iconst (v := (nI 4)) C dX9_rank_13 (by decide) ?_
      refine x_ishr C dX9_rank_14 ?_
      refine x_bipush (v := (nI 15)) C dX9_rank_15 (by decide) ?_
      refine x_iand C dX9_rank_17 ?_
      refine x_bipush (v := (nI 12)) C dX9_rank_18 (by decide) ?_
      refine x_ishl C dX9_rank_20 ?_
      refine x_iload_n C 0 dX9_rank_21 rfl rfl ?_
      refine x_bipush (v := (nI 8)) C dX9_rank_22 (by decide) ?_
      refine x_ishr C dX9_rank_24 ?_
      refine x_sipush (v := (nI 255)) C dX9_rank_25 (by decide) ?_
      refine x_iand C dX9_rank_28 ?_
      refine x_iconst (v := (nI 4)) C dX9_rank_29 (by decide) ?_
      refine x_ishl C dX9_rank_30 ?_
      refine x_ior C dX9_rank_31 ?_
      refine x_iload_n C 0 dX9_rank_32 rfl rfl ?_
      refine x_bipush (v := (nI 15)) C dX9_rank_33 (by decide) ?_
      refine x_iand C dX9_rank_35 ?_
      refine x_ior C dX9_rank_36 ?_
      exact x_iret C (Nat.le_of_ble_eq_true rfl) (Nat.le_of_ble_eq_true rfl) rfl dX9_rank_37 (hg _ _ h1)
  · have h1 := h1.2 z9
    refine x_iload_n C 0 dX9_rank_5 rfl rfl ?_
    exact x_iret C (Nat.le_of_ble_eq_true rfl) (Nat.le_of_ble_eq_true rfl) rfl dX9_rank_6 (hg _ _ h1)
theorem kp_X9_rank_met {x0 : Int32} {x1 : Int32} {S : xm_S} {g : Int32 → xm_S → Prop}  (h1 : wp_X9_rank x0 x1 S g) : xm_Met yX9_rank cX9_rank 2 (some (FieldType.int)) rm_X9_rank [xm_i x0, xm_i x1] S (xm_qi g) xm_nox :=
  xm_ofW RX9 (by decide +kernel) rfl (Nat.le_of_ble_eq_true rfl) (fun K C N hq hx hi => kp_X9_rank x0 x1 S C N (fun v S h => by rw [hq]; exact ⟨v, rfl, h⟩)  h1)
def rm_X5_order : Room := { frames := 2, cells := 0, slots := 0, locals := 41 }
theorem dX5_order_0 : decode cX5_order 0 = .ok (.aload_n 0, 1) := by decide +kernel
theorem dX5_order_1 : decode cX5_order 1 = .ok (.getfield 17, 3) := by decide +kernel
theorem dX5_order_4 : decode cX5_order 4 = .ok (.iload_n 1, 1) := by decide +kernel
theorem dX5_order_5 : decode cX5_order 5 = .ok (.aaload, 1) := by decide +kernel
theorem dX5_order_6 : decode cX5_order 6 = .ok (.getfield 24, 3) := by decide +kernel
theorem dX5_order_9 : decode cX5_order 9 = .ok (.aload_n 0, 1) := by decide +kernel
theorem dX5_order_10 : decode cX5_order 10 = .ok (.getfield 9, 3) := by decide +kernel
theorem dX5_order_13 : decode cX5_order 13 = .ok (.invokestatic 27, 3) := by decide +kernel
theorem dX5_order_16 : decode cX5_order 16 = .ok (.aload_n 0, 1) := by decide +kernel
theorem dX5_order_17 : decode cX5_order 17 = .ok (.getfield 17, 3) := by decide +kernel
theorem dX5_order_20 : decode cX5_order 20 = .ok (.iload_n 2, 1) := by decide +kernel
theorem dX5_order_21 : decode cX5_order 21 = .ok (.aaload, 1) := by decide +kernel
theorem dX5_order_22 : decode cX5_order 22 = .ok (.getfield 24, 3) := by decide +kernel
theorem dX5_order_25 : decode cX5_order 25 = .ok (.aload_n 0, 1) := by decide +kernel
theorem dX5_order_26 : decode cX5_order 26 = .ok (.getfield 9, 3) := by decide +kernel
theorem dX5_order_29 : decode cX5_order 29 = .ok (.invokestatic 27, 3) := by decide +kernel
theorem dX5_order_32 : decode cX5_order 32 = .ok (.invokestatic 33, 3) := by decide +kernel
theorem dX5_order_35 : decode cX5_order 35 = .ok (.istore_n 3, 1) := by decide +kernel
theorem dX5_order_36 : decode cX5_order 36 = .ok (.iload_n 3, 1) := by decide +kernel
theorem dX5_order_37 : decode cX5_order 37 = .ok (.ifCond .eq 7, 3) := by decide +kernel
theorem dX5_order_40 : decode cX5_order 40 = .ok (.iload_n 3, 1) := by decide +kernel
theorem dX5_order_41 : decode cX5_order 41 = .ok (.goto 8, 3) := by decide +kernel
theorem dX5_order_44 : decode cX5_order 44 = .ok (.iload_n 1, 1) := by decide +kernel
theorem dX5_order_45 : decode cX5_order 45 = .ok (.iload_n 2, 1) := by decide +kernel
theorem dX5_order_46 : decode cX5_order 46 = .ok (.invokestatic 33, 3) := by decide +kernel
theorem dX5_order_49 : decode cX5_order 49 = .ok (.ireturn, 1) := by decide +kernel
def wp_X5_order_49 (h : Nat) (s0 : Int32) (S : xm_S) (g : Int32 → xm_S → Prop) : Prop :=
  g s0 S
set_option maxRecDepth 100000 in
set_option maxHeartbeats 4000000 in
theorem kp_X5_order_49 {K : xm_K} (h : Nat) (s0 : Int32) (S : xm_S) {g : Int32 → xm_S → Prop} (C : xm_Cx K cX5_order RX5 4 (some (FieldType.int)) rm_X5_order) (N : xm_Nx K) (hg : ∀ v S, g v S → xm_q K (some (xm_i v)) S)  (h1 : wp_X5_order_49 h s0 S g) : xm_W K 0 0 49 [] [xm_i s0] S := by
  unfold wp_X5_order_49 at h1
  exact x_iret C (Nat.le_of_ble_eq_true rfl) (Nat.le_of_ble_eq_true rfl) rfl dX5_order_49 (hg _ _ h1)
def wp_X5_order (h : Nat) (x1 : Int32) (x2 : Int32) (S : xm_S) (g : Int32 → xm_S → Prop) : Prop :=
  st_t S h = some (5, 0) ∧ ∃ n2, (st_r S h 1) = some n2 ∧ ∃ z5, st_t S n2 = some (120, z5) ∧ vp_in x1 z5 ∧ ∃ n7, (st_r S n2 (x1).toNatClampNeg) = some n7 ∧ st_t S n7 = some (10, 0) ∧ wp_X9_rank (st_i S n7 0) (st_i S h 0) S (fun r11 S10 => st_t S10 h = some (5, 0) ∧ ∃ n13, (st_r S10 h 1) = some n13 ∧ ∃ z16, st_t S10 n13 = some (120, z16) ∧ vp_in x2 z16 ∧ ∃ n18, (st_r S10 n13 (x2).toNatClampNeg) = some n18 ∧ st_t S10 n18 = some (10, 0) ∧ wp_X9_rank (st_i S10 n18 0) (st_i S10 h 0) S10 (fun r22 S21 => wp_J6_compare_7cf53 r11 r22 S21 (fun r24 S23 => (r24 = 0 → wp_J6_compare_7cf53 x1 x2 S23 (fun r26 S25 => wp_X5_order_49 h r26 S25 g)) ∧ (¬ r24 = 0 → wp_X5_order_49 h r24 S23 g))))
set_option maxRecDepth 100000 in
set_option maxHeartbeats 4000000 in
theorem kp_X5_order {K : xm_K} (h : Nat) (x1 : Int32) (x2 : Int32) (S : xm_S) {g : Int32 → xm_S → Prop} (C : xm_Cx K cX5_order RX5 4 (some (FieldType.int)) rm_X5_order) (N : xm_Nx K) (hg : ∀ v S, g v S → xm_q K (some (xm_i v)) S)  (h1 : wp_X5_order h x1 x2 S g) : xm_W K 0 0 0 [(0, xm_r (some h)), (1, xm_i x1), (2, xm_i x2)] [] S := by
  unfold wp_X5_order at h1
  refine x_aload_n C 0 dX5_order_0 rfl rfl ?_
  obtain ⟨ht1, h1⟩ := h1
  refine x_getf_r (n := h) C rfl ht1 fd_39 (by decide) dX5_order_1 ?_
  refine x_iload_n C 1 dX5_order_4 rfl rfl ?_
  obtain ⟨n2, hr3, h1⟩ := h1
  obtain ⟨z5, ht4, h1⟩ := h1
  obtain ⟨hi6, h1⟩ := h1
  refine x_aald (n := n2) C hr3 (by decide) rfl ht4 hi6 dX5_order_5 ?_
  obtain ⟨n7, hr8, h1⟩ := h1
  obtain ⟨ht9, h1⟩ := h1
  refine x_getf_i (n := n7) C hr8 ht9 fd_41 (by decide) dX5_order_6 ?_
  refine x_aload_n C 0 dX5_order_9 rfl rfl ?_
  refine x_getf_i (n := h) C rfl ht1 fd_38 (by decide) dX5_order_10 ?_
  refine x_callS (rm' := rm_X9_rank) C (kp_X9_rank_met h1) lk_15 gw_122 rfl (Nat.le_of_ble_eq_true rfl) ⟨Nat.le_of_ble_eq_true rfl, Nat.le_of_ble_eq_true rfl, (Nat.le_of_ble_eq_true rfl), (Nat.le_of_ble_eq_true rfl)⟩ dX5_order_13 xm_kx (xm_ki (fun r11 S10 h1 => ?_))
  refine x_aload_n C 0 dX5_order_16 rfl rfl ?_
  obtain ⟨ht12, h1⟩ := h1
  refine x_getf_r (n := h) C rfl ht12 fd_39 (by decide) dX5_order_17 ?_
  refine x_iload_n C 2 dX5_order_20 rfl rfl ?_
  obtain ⟨n13, hr14, h1⟩ := h1
  obtain ⟨z16, ht15, h1⟩ := h1
  obtain ⟨hi17, h1⟩ := h1
  refine x_aald (n := n13) C hr14 (by decide) rfl ht15 hi17 dX5_order_21 ?_
  obtain ⟨n18, hr19, h1⟩ := h1
  obtain ⟨ht20, h1⟩ := h1
  refine x_getf_i (n := n18) C hr19 ht20 fd_41 (by decide) dX5_order_22 ?_
  refine x_aload_n C 0 dX5_order_25 rfl rfl ?_
  refine x_getf_i (n := h) C rfl ht12 fd_38 (by decide) dX5_order_26 ?_
  refine x_callS (rm' := rm_X9_rank) C (kp_X9_rank_met h1) lk_15 gw_122 rfl (Nat.le_of_ble_eq_true rfl) ⟨Nat.le_of_ble_eq_true rfl, Nat.le_of_ble_eq_true rfl, (Nat.le_of_ble_eq_true rfl), (Nat.le_of_ble_eq_true rfl)⟩ dX5_order_29 xm_kx (xm_ki (fun r22 S21 h1 => ?_))
  refine x_callS (rm' := rm_J6_compare_7cf53) C (kp_J6_compare_7cf53_met h1) lk_16 gw_126 rfl (Nat.le_of_ble_eq_true rfl) ⟨Nat.le_of_ble_eq_true rfl, Nat.le_of_ble_eq_true rfl, (Nat.le_of_ble_eq_true rfl), (Nat.le_of_ble_eq_true rfl)⟩ dX5_order_32 xm_kx (xm_ki (fun r24 S23 h1 => ?_))
  refine x_istore_n (L' := [(3, xm_i r24), (0, xm_r (some h)), (1, xm_i x1), (2, xm_i x2)]) C dX5_order_35 rfl (by decide) rfl ?_
  refine x_iload_n C 0 dX5_order_36 rfl rfl ?_
  refine x_if_eq (tgt := 44) C dX5_order_37 (by decide) (fun z9 => ?_) (fun z9 => ?_)
  · have h1 := h1.1 z9
    refine x_iload_n C 2 dX5_order_44 rfl rfl ?_
    refine x_iload_n C 3 dX5_order_45 rfl rfl ?_
    refine x_callS (rm' := rm_J6_compare_7cf53) C (kp_J6_compare_7cf53_met h1) lk_16 gw_126 rfl (Nat.le_of_ble_eq_true rfl) ⟨Nat.le_of_ble_eq_true rfl, Nat.le_of_ble_eq_true rfl, (Nat.le_of_ble_eq_true rfl), (Nat.le_of_ble_eq_true rfl)⟩ dX5_order_46 xm_kx (xm_ki (fun r26 S25 h1 => ?_))
    refine x_keep (L' := []) C [] rfl ?_
    exact kp_X5_order_49 h r26 S25 C N hg  h1
  · have h1 := h1.2 z9
    refine x_iload_n C 0 dX5_order_40 rfl rfl ?_
    refine x_goto (tgt := 49) C dX5_order_41 (by decide) ?_
    refine x_keep (L' := []) C [] rfl ?_
    exact kp_X5_order_49 h r24 S23 C N hg  h1
theorem kp_X5_order_met {h : Nat} {x1 : Int32} {x2 : Int32} {S : xm_S} {g : Int32 → xm_S → Prop}  (h1 : wp_X5_order h x1 x2 S g) : xm_Met yX5_order cX5_order 4 (some (FieldType.int)) rm_X5_order [xm_r (some h), xm_i x1, xm_i x2] S (xm_qi g) xm_nox :=
  xm_ofW RX5 (by decide +kernel) rfl (Nat.le_of_ble_eq_true rfl) (fun K C N hq hx hi => kp_X5_order h x1 x2 S C N (fun v S h => by rw [hq]; exact ⟨v, rfl, h⟩)  h1)
def rm_J6_bitCount_0f7a4 : Room := { frames := 1, cells := 0, slots := 0, locals := 20 }
theorem dJ6_bitCount_0f7a4_0 : decode cJ6_bitCount_0f7a4 0 = .ok (.iload_n 0, 1) := by decide +kernel
theorem dJ6_bitCount_0f7a4_1 : decode cJ6_bitCount_0f7a4 1 = .ok (.iload_n 0, 1) := by decide +kernel
theorem dJ6_bitCount_0f7a4_2 : decode cJ6_bitCount_0f7a4 2 = .ok (.iconst 1, 1) := by decide +kernel
theorem dJ6_bitCount_0f7a4_3 : decode cJ6_bitCount_0f7a4 3 = .ok (.iushr, 1) := by decide +kernel
theorem dJ6_bitCount_0f7a4_4 : decode cJ6_bitCount_0f7a4 4 = .ok (.ldc_w 265, 3) := by decide +kernel
theorem dJ6_bitCount_0f7a4_7 : decode cJ6_bitCount_0f7a4 7 = .ok (.iand, 1) := by decide +kernel
theorem dJ6_bitCount_0f7a4_8 : decode cJ6_bitCount_0f7a4 8 = .ok (.isub, 1) := by decide +kernel
theorem dJ6_bitCount_0f7a4_9 : decode cJ6_bitCount_0f7a4 9 = .ok (.istore_n 0, 1) := by decide +kernel
theorem dJ6_bitCount_0f7a4_10 : decode cJ6_bitCount_0f7a4 10 = .ok (.iload_n 0, 1) := by decide +kernel
theorem dJ6_bitCount_0f7a4_11 : decode cJ6_bitCount_0f7a4 11 = .ok (.ldc_w 266, 3) := by decide +kernel
theorem dJ6_bitCount_0f7a4_14 : decode cJ6_bitCount_0f7a4 14 = .ok (.iand, 1) := by decide +kernel
theorem dJ6_bitCount_0f7a4_15 : decode cJ6_bitCount_0f7a4 15 = .ok (.iload_n 0, 1) := by decide +kernel
theorem dJ6_bitCount_0f7a4_16 : decode cJ6_bitCount_0f7a4 16 = .ok (.iconst 2, 1) := by decide +kernel
theorem dJ6_bitCount_0f7a4_17 : decode cJ6_bitCount_0f7a4 17 = .ok (.iushr, 1) := by decide +kernel
theorem dJ6_bitCount_0f7a4_18 : decode cJ6_bitCount_0f7a4 18 = .ok (.ldc_w 266, 3) := by decide +kernel
theorem dJ6_bitCount_0f7a4_21 : decode cJ6_bitCount_0f7a4 21 = .ok (.iand, 1) := by decide +kernel
theorem dJ6_bitCount_0f7a4_22 : decode cJ6_bitCount_0f7a4 22 = .ok (.iadd, 1) := by decide +kernel
theorem dJ6_bitCount_0f7a4_23 : decode cJ6_bitCount_0f7a4 23 = .ok (.istore_n 0, 1) := by decide +kernel
theorem dJ6_bitCount_0f7a4_24 : decode cJ6_bitCount_0f7a4 24 = .ok (.iload_n 0, 1) := by decide +kernel
theorem dJ6_bitCount_0f7a4_25 : decode cJ6_bitCount_0f7a4 25 = .ok (.iload_n 0, 1) := by decide +kernel
theorem dJ6_bitCount_0f7a4_26 : decode cJ6_bitCount_0f7a4 26 = .ok (.iconst 4, 1) := by decide +kernel
theorem dJ6_bitCount_0f7a4_27 : decode cJ6_bitCount_0f7a4 27 = .ok (.iushr, 1) := by decide +kernel
theorem dJ6_bitCount_0f7a4_28 : decode cJ6_bitCount_0f7a4 28 = .ok (.iadd, 1) := by decide +kernel
theorem dJ6_bitCount_0f7a4_29 : decode cJ6_bitCount_0f7a4 29 = .ok (.ldc_w 267, 3) := by decide +kernel
theorem dJ6_bitCount_0f7a4_32 : decode cJ6_bitCount_0f7a4 32 = .ok (.iand, 1) := by decide +kernel
theorem dJ6_bitCount_0f7a4_33 : decode cJ6_bitCount_0f7a4 33 = .ok (.istore_n 0, 1) := by decide +kernel
theorem dJ6_bitCount_0f7a4_34 : decode cJ6_bitCount_0f7a4 34 = .ok (.iload_n 0, 1) := by decide +kernel
theorem dJ6_bitCount_0f7a4_35 : decode cJ6_bitCount_0f7a4 35 = .ok (.iload_n 0, 1) := by decide +kernel
theorem dJ6_bitCount_0f7a4_36 : decode cJ6_bitCount_0f7a4 36 = .ok (.bipush 8, 2) := by decide +kernel
theorem dJ6_bitCount_0f7a4_38 : decode cJ6_bitCount_0f7a4 38 = .ok (.iushr, 1) := by decide +kernel
theorem dJ6_bitCount_0f7a4_39 : decode cJ6_bitCount_0f7a4 39 = .ok (.iadd, 1) := by decide +kernel
theorem dJ6_bitCount_0f7a4_40 : decode cJ6_bitCount_0f7a4 40 = .ok (.istore_n 0, 1) := by decide +kernel
theorem dJ6_bitCount_0f7a4_41 : decode cJ6_bitCount_0f7a4 41 = .ok (.iload_n 0, 1) := by decide +kernel
theorem dJ6_bitCount_0f7a4_42 : decode cJ6_bitCount_0f7a4 42 = .ok (.iload_n 0, 1) := by decide +kernel
theorem dJ6_bitCount_0f7a4_43 : decode cJ6_bitCount_0f7a4 43 = .ok (.bipush 16, 2) := by decide +kernel
theorem dJ6_bitCount_0f7a4_45 : decode cJ6_bitCount_0f7a4 45 = .ok (.iushr, 1) := by decide +kernel
theorem dJ6_bitCount_0f7a4_46 : decode cJ6_bitCount_0f7a4 46 = .ok (.iadd, 1) := by decide +kernel
theorem dJ6_bitCount_0f7a4_47 : decode cJ6_bitCount_0f7a4 47 = .ok (.istore_n 0, 1) := by decide +kernel
theorem dJ6_bitCount_0f7a4_48 : decode cJ6_bitCount_0f7a4 48 = .ok (.iload_n 0, 1) := by decide +kernel
theorem dJ6_bitCount_0f7a4_49 : decode cJ6_bitCount_0f7a4 49 = .ok (.bipush 63, 2) := by decide +kernel
theorem dJ6_bitCount_0f7a4_51 : decode cJ6_bitCount_0f7a4 51 = .ok (.iand, 1) := by decide +kernel
theorem dJ6_bitCount_0f7a4_52 : decode cJ6_bitCount_0f7a4 52 = .ok (.ireturn, 1) := by decide +kernel
def wp_J6_bitCount_0f7a4 (x0 : Int32) (S : xm_S) (g : Int32 → xm_S → Prop) : Prop :=
  ∀ y1, y1 = (x0 - (((x0.toUInt32 >>> ((1 : Int32).toUInt32 &&& Int32.toUInt32 31)).toInt32) &&& (nI 1431655765))) → ∀ y3, y3 = ((y1 &&& (nI 858993459)) + (((y1.toUInt32 >>> ((nI 2).toUInt32 &&& Int32.toUInt32 31)).toInt32) &&& (nI 858993459))) → ∀ y5, y5 = ((y3 + ((y3.toUInt32 >>> ((nI 4).toUInt32 &&& Int32.toUInt32 31)).toInt32)) &&& (nI 252645135)) → ∀ y7, y7 = (y5 + ((y5.toUInt32 >>> ((nI 8).toUInt32 &&& Int32.toUInt32 31)).toInt32)) → ∀ y9, y9 = (y7 + ((y7.toUInt32 >>> ((nI 16).toUInt32 &&& Int32.toUInt32 31)).toInt32)) → g (y9 &&& (nI 63)) S
set_option maxRecDepth 100000 in
set_option maxHeartbeats 4000000 in
theorem kp_J6_bitCount_0f7a4 {K : xm_K} (x0 : Int32) (S : xm_S) {g : Int32 → xm_S → Prop} (C : xm_Cx K cJ6_bitCount_0f7a4 RJ6 1 (some (FieldType.int)) rm_J6_bitCount_0f7a4) (N : xm_Nx K) (hg : ∀ v S, g v S → xm_q K (some (xm_i v)) S)  (h1 : wp_J6_bitCount_0f7a4 x0 S g) : xm_W K 0 0 0 [(0, xm_i x0)] [] S := by
  unfold wp_J6_bitCount_0f7a4 at h1
  refine x_iload_n C 0 dJ6_bitCount_0f7a4_0 rfl rfl ?_
  refine x_iload_n C 0 dJ6_bitCount_0f7a4_1 rfl rfl ?_
  refine x_iconst (v := (1 : Int32)) C dJ6_bitCount_0f7a4_2 (by decide) ?_
  refine x_iushr C dJ6_bitCount_0f7a4_3 ?_
  refine x_ldcw (v := nI 1431655765) C gw_127 dJ6_bitCount_0f7a4_4 ?_
  refine x_iand C dJ6_bitCount_0f7a4_7 ?_
  refine x_isub C dJ6_bitCount_0f7a4_8 ?_
  refine x_topi (fun y1 e2 => ?_)
  have h1 := h1 y1 e2
  refine x_istore_n (L' := [(0, xm_i y1)]) C dJ6_bitCount_0f7a4_9 rfl (by decide) rfl ?_
  refine x_iload_n C 0 dJ6_bitCount_0f7a4_10 rfl rfl ?_
  refine x_ldcw (v := nI 858993459) C gw_128 dJ6_bitCount_0f7a4_11 ?_
  refine x_iand C dJ6_bitCount_0f7a4_14 ?_
  refine x_iload_n C 0 dJ6_bitCount_0f7a4_15 rfl rfl ?_
  refine x_iconst (v := (nI 2)) C dJ6_bitCount_0f7a4_16 (by decide) ?_
  refine x_iushr C dJ6_bitCount_0f7a4_17 ?_
  refine x_ldcw (v := nI 858993459) C gw_128 dJ6_bitCount_0f7a4_18 ?_
  refine x_iand C dJ6_bitCount_0f7a4_21 ?_
  refine x_iadd C dJ6_bitCount_0f7a4_22 ?_
  refine x_topi (fun y3 e4 => ?_)
  have h1 := h1 y3 e4
  refine x_istore_n (L' := [(0, xm_i y3)]) C dJ6_bitCount_0f7a4_23 rfl (by decide) rfl ?_
  refine x_iload_n C 0 dJ6_bitCount_0f7a4_24 rfl rfl ?_
  refine x_iload_n C 0 dJ6_bitCount_0f7a4_25 rfl rfl ?_
  refine x_iconst (v := (nI 4)) C dJ6_bitCount_0f7a4_26 (by decide) ?_
  refine x_iushr C dJ6_bitCount_0f7a4_27 ?_
  refine x_iadd C dJ6_bitCount_0f7a4_28 ?_
  refine x_ldcw (v := nI 252645135) C gw_129 dJ6_bitCount_0f7a4_29 ?_
  refine x_iand C dJ6_bitCount_0f7a4_32 ?_
  refine x_topi (fun y5 e6 => ?_)
  have h1 := h1 y5 e6
  refine x_istore_n (L' := [(0, xm_i y5)]) C dJ6_bitCount_0f7a4_33 rfl (by decide) rfl ?_
  refine x_iload_n C 0 dJ6_bitCount_0f7a4_34 rfl rfl ?_
  refine x_iload_n C 0 dJ6_bitCount_0f7a4_35 rfl rfl ?_
  refine x_bipush (v := (nI 8)) C dJ6_bitCount_0f7a4_36 (by decide) ?_
  refine x_iushr C dJ6_bitCount_0f7a4_38 ?_
  refine x_iadd C dJ6_bitCount_0f7a4_39 ?_
  refine x_topi (fun y7 e8 => ?_)
  have h1 := h1 y7 e8
  refine x_istore_n (L' := [(0, xm_i y7)]) C dJ6_bitCount_0f7a4_40 rfl (by decide) rfl ?_
  refine x_iload_n C 0 dJ6_bitCount_0f7a4_41 rfl rfl ?_
  refine x_iload_n C 0 dJ6_bitCount_0f7a4_42 rfl rfl ?_
  refine x_bipush (v := (nI 16)) C dJ6_bitCount_0f7a4_43 (by decide) ?_
  refine x_iushr C dJ6_bitCount_0f7a4_45 ?_
  refine x_iadd C dJ6_bitCount_0f7a4_46 ?_
  refine x_topi (fun y9 e10 => ?_)
  have h1 := h1 y9 e10
  refine x_istore_n (L' := [(0, xm_i y9)]) C dJ6_bitCount_0f7a4_47 rfl (by decide) rfl ?_
  refine x_iload_n C 0 dJ6_bitCount_0f7a4_48 rfl rfl ?_
  refine x_bipush (v := (nI 63)) C dJ6_bitCount_0f7a4_49 (by decide) ?_
  refine x_iand C dJ6_bitCount_0f7a4_51 ?_
  exact x_iret C (Nat.le_of_ble_eq_true rfl) (Nat.le_of_ble_eq_true rfl) rfl dJ6_bitCount_0f7a4_52 (hg _ _ h1)
theorem kp_J6_bitCount_0f7a4_met {x0 : Int32} {S : xm_S} {g : Int32 → xm_S → Prop}  (h1 : wp_J6_bitCount_0f7a4 x0 S g) : xm_Met yJ6_bitCount_0f7a4 cJ6_bitCount_0f7a4 1 (some (FieldType.int)) rm_J6_bitCount_0f7a4 [xm_i x0] S (xm_qi g) xm_nox :=
  xm_ofW RJ6 (by decide +kernel) rfl (Nat.le_of_ble_eq_true rfl) (fun K C N hq hx hi => kp_J6_bitCount_0f7a4 x0 S C N (fun v S h => by rw [hq]; exact ⟨v, rfl, h⟩)  h1)
def rm_X6_add : Room := { frames := 1, cells := 0, slots := 0, locals := 20 }
theorem dX6_add_0 : decode cX6_add 0 = .ok (.aload_n 0, 1) := by decide +kernel
theorem dX6_add_1 : decode cX6_add 1 = .ok (.getfield 17, 3) := by decide +kernel
theorem dX6_add_4 : decode cX6_add 4 = .ok (.bipush 20, 2) := by decide +kernel
theorem dX6_add_6 : decode cX6_add 6 = .ok (.if_icmp .ge 23, 3) := by decide +kernel
theorem dX6_add_9 : decode cX6_add 9 = .ok (.aload_n 0, 1) := by decide +kernel
theorem dX6_add_10 : decode cX6_add 10 = .ok (.getfield 11, 3) := by decide +kernel
theorem dX6_add_13 : decode cX6_add 13 = .ok (.aload_n 0, 1) := by decide +kernel
theorem dX6_add_14 : decode cX6_add 14 = .ok (.getfield 17, 3) := by decide +kernel
theorem dX6_add_17 : decode cX6_add 17 = .ok (.aload_n 1, 1) := by decide +kernel
theorem dX6_add_18 : decode cX6_add 18 = .ok (.aastore, 1) := by decide +kernel
theorem dX6_add_19 : decode cX6_add 19 = .ok (.aload_n 0, 1) := by decide +kernel
theorem dX6_add_20 : decode cX6_add 20 = .ok (.dup, 1) := by decide +kernel
theorem dX6_add_21 : decode cX6_add 21 = .ok (.getfield 17, 3) := by decide +kernel
theorem dX6_add_24 : decode cX6_add 24 = .ok (.iconst 1, 1) := by decide +kernel
theorem dX6_add_25 : decode cX6_add 25 = .ok (.iadd, 1) := by decide +kernel
theorem dX6_add_26 : decode cX6_add 26 = .ok (.putfield 17, 3) := by decide +kernel
theorem dX6_add_29 : decode cX6_add 29 = .ok (.return_, 1) := by decide +kernel
def wp_X6_add_29 (h : Nat)  (S : xm_S) (g : xm_S → Prop) : Prop :=
  g S
set_option maxRecDepth 100000 in
set_option maxHeartbeats 4000000 in
theorem kp_X6_add_29 {K : xm_K} (h : Nat)  (S : xm_S) {g : xm_S → Prop} (C : xm_Cx K cX6_add RX6 2 none rm_X6_add) (N : xm_Nx K) (hg : ∀ S, g S → xm_q K none S)  (h1 : wp_X6_add_29 h  S g) : xm_W K 0 0 29 [] [] S := by
  unfold wp_X6_add_29 at h1
  exact x_vret C (Nat.le_of_ble_eq_true rfl) (Nat.le_of_ble_eq_true rfl) rfl dX6_add_29 (hg _ h1)
def wp_X6_add (h : Nat) (x1 : Option Nat) (S : xm_S) (g : xm_S → Prop) : Prop :=
  st_t S h = some (6, 0) ∧ ((nI 20) ≤ (st_i S h 1) → wp_X6_add_29 h S g) ∧ (¬ (nI 20) ≤ (st_i S h 1) → ∃ n2, (st_r S h 0) = some n2 ∧ ∃ z5, st_t S n2 = some (119, z5) ∧ vp_in (st_i S h 1) z5 ∧ (∀ v9, x1 = some v9 → st_t S v9 = some (9, 0)) ∧ ∀ S8, S8 = st_pr S n2 ((st_i S h 1)).toNatClampNeg x1 → ∀ S10, S10 = st_pi S8 h 1 ((st_i S8 h 1) + (1 : Int32)) → wp_X6_add_29 h S10 g)
set_option maxRecDepth 100000 in
set_option maxHeartbeats 4000000 in
theorem kp_X6_add {K : xm_K} (h : Nat) (x1 : Option Nat) (S : xm_S) {g : xm_S → Prop} (C : xm_Cx K cX6_add RX6 2 none rm_X6_add) (N : xm_Nx K) (hg : ∀ S, g S → xm_q K none S)  (h1 : wp_X6_add h x1 S g) : xm_W K 0 0 0 [(0, xm_r (some h)), (1, xm_r x1)] [] S := by
  unfold wp_X6_add at h1
  refine x_aload_n C 0 dX6_add_0 rfl rfl ?_
  obtain ⟨ht1, h1⟩ := h1
  refine x_getf_i (n := h) C rfl ht1 fd_42 (by decide) dX6_add_1 ?_
  refine x_bipush (v := (nI 20)) C dX6_add_4 (by decide) ?_
  refine x_icmp_ge (tgt := 29) C dX6_add_6 (by decide) (fun z9 => ?_) (fun z9 => ?_)
  · have h1 := h1.1 z9
    refine x_keep (L' := []) C [] rfl ?_
    exact kp_X6_add_29 h S C N hg  h1
  · have h1 := h1.2 z9
    refine x_aload_n C 0 dX6_add_9 rfl rfl ?_
    refine x_getf_r (n := h) C rfl ht1 fd_43 (by decide) dX6_add_10 ?_
    refine x_aload_n C 0 dX6_add_13 rfl rfl ?_
    refine x_getf_i (n := h) C rfl ht1 fd_42 (by decide) dX6_add_14 ?_
    refine x_aload_n C 1 dX6_add_17 rfl rfl ?_
    obtain ⟨n2, hr3, h1⟩ := h1
    obtain ⟨z5, ht4, h1⟩ := h1
    obtain ⟨hi6, h1⟩ := h1
    obtain ⟨hv7, h1⟩ := h1
    refine x_aast (n := n2) (ci := 9) C hr3 (by decide) rfl rfl ht4 hi6 hv7 dX6_add_18 ?_
    refine x_topS (fun S8 e9 => ?_)
    have h1 := h1 S8 e9
    refine x_aload_n C 0 dX6_add_19 rfl rfl ?_
    refine x_dup_r C dX6_add_20 ?_
    refine x_getf_i (n := h) C rfl (tk_p e9 ht1) fd_42 (by decide) dX6_add_21 ?_
    refine x_iconst (v := (1 : Int32)) C dX6_add_24 (by decide) ?_
    refine x_iadd C dX6_add_25 ?_
    refine x_putf_i (n := h) C rfl (tk_p e9 ht1) fd_42 xc_6 (by decide) rfl ⟨rfl, rfl⟩ dX6_add_26 ?_
    refine x_topS (fun S10 e11 => ?_)
    have h1 := h1 S10 e11
    refine x_keep (L' := []) C [] rfl ?_
    exact kp_X6_add_29 h S10 C N hg  h1
theorem kp_X6_add_met {h : Nat} {x1 : Option Nat} {S : xm_S} {g : xm_S → Prop}  (h1 : wp_X6_add h x1 S g) : xm_Met yX6_add cX6_add 2 none rm_X6_add [xm_r (some h), xm_r x1] S (xm_qv g) xm_nox :=
  xm_ofW RX6 (by decide +kernel) rfl (Nat.le_of_ble_eq_true rfl) (fun K C N hq hx hi => kp_X6_add h x1 S C N (fun S h => by rw [hq]; exact ⟨rfl, h⟩)  h1)
def rm_X9_tellsPreviewOf : Room := { frames := 1, cells := 0, slots := 0, locals := 20 }
theorem dX9_tellsPreviewOf_0 : decode cX9_tellsPreviewOf 0 = .ok (.aload_n 0, 1) := by decide +kernel
theorem dX9_tellsPreviewOf_1 : decode cX9_tellsPreviewOf 1 = .ok (.getfield 18, 3) := by decide +kernel
theorem dX9_tellsPreviewOf_4 : decode cX9_tellsPreviewOf 4 = .ok (.bipush 15, 2) := by decide +kernel
theorem dX9_tellsPreviewOf_6 : decode cX9_tellsPreviewOf 6 = .ok (.iand, 1) := by decide +kernel
theorem dX9_tellsPreviewOf_7 : decode cX9_tellsPreviewOf 7 = .ok (.bipush 10, 2) := by decide +kernel
theorem dX9_tellsPreviewOf_9 : decode cX9_tellsPreviewOf 9 = .ok (.if_icmp .eq 19, 3) := by decide +kernel
theorem dX9_tellsPreviewOf_12 : decode cX9_tellsPreviewOf 12 = .ok (.aload_n 0, 1) := by decide +kernel
theorem dX9_tellsPreviewOf_13 : decode cX9_tellsPreviewOf 13 = .ok (.getfield 18, 3) := by decide +kernel
theorem dX9_tellsPreviewOf_16 : decode cX9_tellsPreviewOf 16 = .ok (.iconst 4, 1) := by decide +kernel
theorem dX9_tellsPreviewOf_17 : decode cX9_tellsPreviewOf 17 = .ok (.ishr, 1) := by decide +kernel
theorem dX9_tellsPreviewOf_18 : decode cX9_tellsPreviewOf 18 = .ok (.iload_n 1, 1) := by decide +kernel
theorem dX9_tellsPreviewOf_19 : decode cX9_tellsPreviewOf 19 = .ok (.iconst 4, 1) := by decide +kernel
theorem dX9_tellsPreviewOf_20 : decode cX9_tellsPreviewOf 20 = .ok (.ishr, 1) := by decide +kernel
theorem dX9_tellsPreviewOf_21 : decode cX9_tellsPreviewOf 21 = .ok (.if_icmp .ne 7, 3) := by decide +kernel
theorem dX9_tellsPreviewOf_24 : decode cX9_tellsPreviewOf 24 = .ok (.iconst 1, 1) := by decide +kernel
theorem dX9_tellsPreviewOf_25 : decode cX9_tellsPreviewOf 25 = .ok (.goto 4, 3) := by decide +kernel
theorem dX9_tellsPreviewOf_28 : decode cX9_tellsPreviewOf 28 = .ok (.iconst 0, 1) := by decide +kernel
theorem dX9_tellsPreviewOf_29 : decode cX9_tellsPreviewOf 29 = .ok (.ireturn, 1) := by decide +kernel
def wp_X9_tellsPreviewOf_29 (h : Nat) (s0 : Int32) (S : xm_S) (g : Int32 → xm_S → Prop) : Prop :=
  (s0 = 0 ∨ s0 = 1) ∧ g s0 S
set_option maxRecDepth 100000 in
set_option maxHeartbeats 4000000 in
theorem kp_X9_tellsPreviewOf_29 {K : xm_K} (h : Nat) (s0 : Int32) (S : xm_S) {g : Int32 → xm_S → Prop} (C : xm_Cx K cX9_tellsPreviewOf RX9 2 (some (FieldType.boolean)) rm_X9_tellsPreviewOf) (N : xm_Nx K) (hg : ∀ v S, g v S → xm_q K (some (xm_i v)) S)  (h1 : wp_X9_tellsPreviewOf_29 h s0 S g) : xm_W K 0 0 29 [] [xm_i s0] S := by
  unfold wp_X9_tellsPreviewOf_29 at h1
  exact x_zret C (Nat.le_of_ble_eq_true rfl) (Nat.le_of_ble_eq_true rfl) rfl h1.1 dX9_tellsPreviewOf_29 (hg _ _ h1.2)
def wp_X9_tellsPreviewOf_28 (h : Nat)  (S : xm_S) (g : Int32 → xm_S → Prop) : Prop :=
  wp_X9_tellsPreviewOf_29 h (0 : Int32) S g
set_option maxRecDepth 100000 in
set_option maxHeartbeats 4000000 in
theorem kp_X9_tellsPreviewOf_28 {K : xm_K} (h : Nat)  (S : xm_S) {g : Int32 → xm_S → Prop} (C : xm_Cx K cX9_tellsPreviewOf RX9 2 (some (FieldType.boolean)) rm_X9_tellsPreviewOf) (N : xm_Nx K) (hg : ∀ v S, g v S → xm_q K (some (xm_i v)) S)  (h1 : wp_X9_tellsPreviewOf_28 h  S g) : xm_W K 0 0 28 [] [] S := by
  unfold wp_X9_tellsPreviewOf_28 at h1
  refine x_iconst (v := (0 : Int32)) C dX9_tellsPreviewOf_28 (by decide) ?_
  exact kp_X9_tellsPreviewOf_29 h (0 : Int32) S C N hg  h1
def wp_X9_tellsPreviewOf (h : Nat) (x1 : Int32) (S : xm_S) (g : Int32 → xm_S → Prop) : Prop :=
  st_t S h = some (9, 0) ∧ (((st_i S h 0) &&& (nI 15)) = (nI 10) → wp_X9_tellsPreviewOf_28 h S g) ∧ (¬ ((st_i S h 0) &&& (nI 15)) = (nI 10) → (¬ ((st_i S h 0) >>> ((nI 4) &&& 31)) = (x1 >>> ((nI 4) &&& 31)) → wp_X9_tellsPreviewOf_28 h S g) ∧ (((st_i S h 0) >>> ((nI 4) &&& 31)) = (x1 >>> ((nI 4) &&& 31)) → wp_X9_tellsPreviewOf_29 h (1 : Int32) S g))
set_option maxRecDepth 100000 in
set_option maxHeartbeats 4000000 in
theorem kp_X9_tellsPreviewOf {K : xm_K} (h : Nat) (x1 : Int32) (S : xm_S) {g : Int32 → xm_S → Prop} (C : xm_Cx K cX9_tellsPreviewOf RX9 2 (some (FieldType.boolean)) rm_X9_tellsPreviewOf) (N : xm_Nx K) (hg : ∀ v S, g v S → xm_q K (some (xm_i v)) S)  (h1 : wp_X9_tellsPreviewOf h x1 S g) : xm_W K 0 0 0 [(0, xm_r (some h)), (1, xm_i x1)] [] S := by
  unfold wp_X9_tellsPreviewOf at h1
  refine x_aload_n C 0 dX9_tellsPreviewOf_0 rfl rfl ?_
  obtain ⟨ht1, h1⟩ := h1
  refine x_getf_i (n := h) C rfl ht1 fd_44 (by decide) dX9_tellsPreviewOf_1 ?_
  refine x_bipush (v := (nI 15)) C dX9_tellsPreviewOf_4 (by decide) ?_
  refine x_iand C dX9_tellsPreviewOf_6 ?_
  refine x_bipush (v := (nI 10)) C dX9_tellsPreviewOf_7 (by decide) ?_
  refine x_icmp_eq (tgt := 28) C dX9_tellsPreviewOf_9 (by decide) (fun z9 => ?_) (fun z9 => ?_)
  · have h1 := h1.1 z9
    refine x_keep (L' := []) C [] rfl ?_
    exact kp_X9_tellsPreviewOf_28 h S C N hg  h1
  · have h1 := h1.2 z9
    refine x_aload_n C 0 dX9_tellsPreviewOf_12 rfl rfl ?_
    refine x_getf_i (n := h) C rfl ht1 fd_44 (by decide) dX9_tellsPreviewOf_13 ?_
    refine x_iconst (v := (nI 4)) C dX9_tellsPreviewOf_16 (by decide) ?_
    refine x_ishr C dX9_tellsPreviewOf_17 ?_
    refine x_iload_n C 1 dX9_tellsPreviewOf_18 rfl rfl ?_
    refine x_iconst (v := (nI 4)) C dX9_tellsPreviewOf_19 (by decide) ?_
    refine x_ishr C dX9_tellsPreviewOf_20 ?_
    refine x_icmp_ne (tgt := 28) C dX9_tellsPreviewOf_21 (by decide) (fun z9 => ?_) (fun z9 => ?_)
    · have h1 := h1.1 z9
      refine x_keep (L' := []) C [] rfl ?_
      exact kp_X9_tellsPreviewOf_28 h S C N hg  h1
    · have h1 := h1.2 z9
      refine x_iconst (v := (1 : Int32)) C dX9_tellsPreviewOf_24 (by decide) ?_
      refine x_goto (tgt := 29) C dX9_tellsPreviewOf_25 (by decide) ?_
      refine x_keep (L' := []) C [] rfl ?_
      exact kp_X9_tellsPreviewOf_29 h (1 : Int32) S C N hg  h1
theorem kp_X9_tellsPreviewOf_met {h : Nat} {x1 : Int32} {S : xm_S} {g : Int32 → xm_S → Prop}  (h1 : wp_X9_tellsPreviewOf h x1 S g) : xm_Met yX9_tellsPreviewOf cX9_tellsPreviewOf 2 (some (FieldType.boolean)) rm_X9_tellsPreviewOf [xm_r (some h), xm_i x1] S (xm_qi g) xm_nox :=
  xm_ofW RX9 (by decide +kernel) rfl (Nat.le_of_ble_eq_true rfl) (fun K C N hq hx hi => kp_X9_tellsPreviewOf h x1 S C N (fun v S h => by rw [hq]; exact ⟨v, rfl, h⟩)  h1)
def rm_X6_includes : Room := { frames := 2, cells := 0, slots := 0, locals := 41 }
theorem dX6_includes_0 : decode cX6_includes 0 = .ok (.iload_n 1, 1) := by decide +kernel
theorem dX6_includes_1 : decode cX6_includes 1 = .ok (.iload_n 2, 1) := by decide +kernel
theorem dX6_includes_2 : decode cX6_includes 2 = .ok (.invokestatic 21, 3) := by decide +kernel
theorem dX6_includes_5 : decode cX6_includes 5 = .ok (.istore_n 3, 1) := by decide +kernel
theorem dX6_includes_6 : decode cX6_includes 6 = .ok (.iload_n 1, 1) := by decide +kernel
theorem dX6_includes_7 : decode cX6_includes 7 = .ok (.bipush 15, 2) := by decide +kernel
theorem dX6_includes_9 : decode cX6_includes 9 = .ok (.iand, 1) := by decide +kernel
theorem dX6_includes_10 : decode cX6_includes 10 = .ok (.bipush 10, 2) := by decide +kernel
theorem dX6_includes_12 : decode cX6_includes 12 = .ok (.if_icmp .ne 7, 3) := by decide +kernel
theorem dX6_includes_15 : decode cX6_includes 15 = .ok (.iconst 1, 1) := by decide +kernel
theorem dX6_includes_16 : decode cX6_includes 16 = .ok (.goto 4, 3) := by decide +kernel
theorem dX6_includes_19 : decode cX6_includes 19 = .ok (.iconst 0, 1) := by decide +kernel
theorem dX6_includes_20 : decode cX6_includes 20 = .ok (.istore 4, 2) := by decide +kernel
theorem dX6_includes_22 : decode cX6_includes 22 = .ok (.iconst 0, 1) := by decide +kernel
theorem dX6_includes_23 : decode cX6_includes 23 = .ok (.istore 5, 2) := by decide +kernel
theorem dX6_includes_25 : decode cX6_includes 25 = .ok (.iconst 0, 1) := by decide +kernel
theorem dX6_includes_26 : decode cX6_includes 26 = .ok (.istore 6, 2) := by decide +kernel
theorem dX6_includes_28 : decode cX6_includes 28 = .ok (.iconst 0, 1) := by decide +kernel
theorem dX6_includes_29 : decode cX6_includes 29 = .ok (.istore 7, 2) := by decide +kernel
theorem dX6_includes_31 : decode cX6_includes 31 = .ok (.iload 7, 2) := by decide +kernel
theorem dX6_includes_33 : decode cX6_includes 33 = .ok (.aload_n 0, 1) := by decide +kernel
theorem dX6_includes_34 : decode cX6_includes 34 = .ok (.getfield 17, 3) := by decide +kernel
theorem dX6_includes_37 : decode cX6_includes 37 = .ok (.if_icmp .ge 100, 3) := by decide +kernel
theorem dX6_includes_40 : decode cX6_includes 40 = .ok (.aload_n 0, 1) := by decide +kernel
theorem dX6_includes_41 : decode cX6_includes 41 = .ok (.getfield 11, 3) := by decide +kernel
theorem dX6_includes_44 : decode cX6_includes 44 = .ok (.iload 7, 2) := by decide +kernel
theorem dX6_includes_46 : decode cX6_includes 46 = .ok (.aaload, 1) := by decide +kernel
theorem dX6_includes_47 : decode cX6_includes 47 = .ok (.astore 8, 2) := by decide +kernel
theorem dX6_includes_49 : decode cX6_includes 49 = .ok (.aload 8, 2) := by decide +kernel
theorem dX6_includes_51 : decode cX6_includes 51 = .ok (.getfield 25, 3) := by decide +kernel
theorem dX6_includes_54 : decode cX6_includes 54 = .ok (.ifCond .eq 22, 3) := by decide +kernel
theorem dX6_includes_57 : decode cX6_includes 57 = .ok (.iload 5, 2) := by decide +kernel
theorem dX6_includes_59 : decode cX6_includes 59 = .ok (.ifCond .eq 10, 3) := by decide +kernel
theorem dX6_includes_62 : decode cX6_includes 62 = .ok (.iload 6, 2) := by decide +kernel
theorem dX6_includes_64 : decode cX6_includes 64 = .ok (.ifCond .eq 5, 3) := by decide +kernel
theorem dX6_includes_67 : decode cX6_includes 67 = .ok (.iconst 1, 1) := by decide +kernel
theorem dX6_includes_68 : decode cX6_includes 68 = .ok (.ireturn, 1) := by decide +kernel
theorem dX6_includes_69 : decode cX6_includes 69 = .ok (.iconst 1, 1) := by decide +kernel
theorem dX6_includes_70 : decode cX6_includes 70 = .ok (.istore 5, 2) := by decide +kernel
theorem dX6_includes_72 : decode cX6_includes 72 = .ok (.iload 4, 2) := by decide +kernel
theorem dX6_includes_74 : decode cX6_includes 74 = .ok (.istore 6, 2) := by decide +kernel
theorem dX6_includes_76 : decode cX6_includes 76 = .ok (.iload 5, 2) := by decide +kernel
theorem dX6_includes_78 : decode cX6_includes 78 = .ok (.ifCond .eq 29, 3) := by decide +kernel
theorem dX6_includes_81 : decode cX6_includes 81 = .ok (.aload 8, 2) := by decide +kernel
theorem dX6_includes_83 : decode cX6_includes 83 = .ok (.getfield 29, 3) := by decide +kernel
theorem dX6_includes_86 : decode cX6_includes 86 = .ok (.iload_n 2, 1) := by decide +kernel
theorem dX6_includes_87 : decode cX6_includes 87 = .ok (.iaload, 1) := by decide +kernel
theorem dX6_includes_88 : decode cX6_includes 88 = .ok (.iload_n 3, 1) := by decide +kernel
theorem dX6_includes_89 : decode cX6_includes 89 = .ok (.if_icmp .gt 18, 3) := by decide +kernel
theorem dX6_includes_92 : decode cX6_includes 92 = .ok (.iload_n 3, 1) := by decide +kernel
theorem dX6_includes_93 : decode cX6_includes 93 = .ok (.aload 8, 2) := by decide +kernel
theorem dX6_includes_95 : decode cX6_includes 95 = .ok (.getfield 33, 3) := by decide +kernel
theorem dX6_includes_98 : decode cX6_includes 98 = .ok (.iload_n 2, 1) := by decide +kernel
theorem dX6_includes_99 : decode cX6_includes 99 = .ok (.iaload, 1) := by decide +kernel
theorem dX6_includes_100 : decode cX6_includes 100 = .ok (.if_icmp .ge 7, 3) := by decide +kernel
theorem dX6_includes_103 : decode cX6_includes 103 = .ok (.iconst 1, 1) := by decide +kernel
theorem dX6_includes_104 : decode cX6_includes 104 = .ok (.goto 4, 3) := by decide +kernel
theorem dX6_includes_107 : decode cX6_includes 107 = .ok (.iconst 0, 1) := by decide +kernel
theorem dX6_includes_108 : decode cX6_includes 108 = .ok (.istore 5, 2) := by decide +kernel
theorem dX6_includes_110 : decode cX6_includes 110 = .ok (.iload 6, 2) := by decide +kernel
theorem dX6_includes_112 : decode cX6_includes 112 = .ok (.ifCond .ne 12, 3) := by decide +kernel
theorem dX6_includes_115 : decode cX6_includes 115 = .ok (.aload 8, 2) := by decide +kernel
theorem dX6_includes_117 : decode cX6_includes 117 = .ok (.iload_n 1, 1) := by decide +kernel
theorem dX6_includes_118 : decode cX6_includes 118 = .ok (.invokevirtual 36, 3) := by decide +kernel
theorem dX6_includes_121 : decode cX6_includes 121 = .ok (.ifCond .eq 7, 3) := by decide +kernel
theorem dX6_includes_124 : decode cX6_includes 124 = .ok (.iconst 1, 1) := by decide +kernel
theorem dX6_includes_125 : decode cX6_includes 125 = .ok (.goto 4, 3) := by decide +kernel
theorem dX6_includes_128 : decode cX6_includes 128 = .ok (.iconst 0, 1) := by decide +kernel
theorem dX6_includes_129 : decode cX6_includes 129 = .ok (.istore 6, 2) := by decide +kernel
theorem dX6_includes_131 : decode cX6_includes 131 = .ok (.iinc 7 1, 3) := by decide +kernel
theorem dX6_includes_134 : decode cX6_includes 134 = .ok (.goto (-103), 3) := by decide +kernel
theorem dX6_includes_137 : decode cX6_includes 137 = .ok (.iload 5, 2) := by decide +kernel
theorem dX6_includes_139 : decode cX6_includes 139 = .ok (.ifCond .eq 12, 3) := by decide +kernel
theorem dX6_includes_142 : decode cX6_includes 142 = .ok (.iload 6, 2) := by decide +kernel
theorem dX6_includes_144 : decode cX6_includes 144 = .ok (.ifCond .eq 7, 3) := by decide +kernel
theorem dX6_includes_147 : decode cX6_includes 147 = .ok (.iconst 1, 1) := by decide +kernel
theorem dX6_includes_148 : decode cX6_includes 148 = .ok (.goto 4, 3) := by decide +kernel
theorem dX6_includes_151 : decode cX6_includes 151 = .ok (.iconst 0, 1) := by decide +kernel
theorem dX6_includes_152 : decode cX6_includes 152 = .ok (.ireturn, 1) := by decide +kernel
def wp_X6_includes_129 (h : Nat) (x1 : Int32) (x2 : Int32) (x3 : Int32) (x4 : Int32) (x5 : Int32) (x7 : Int32) (s0 : Int32) (S : xm_S) (g : Int32 → xm_S → Prop) (Z31 : Int32 → Int32 → Int32 → Int32 → Int32 → Int32 → Int32 → xm_S → Prop) : Prop :=
  ∀ y1, y1 = (x7 + (1 : Int32)) → Z31 x1 x2 x3 x4 x5 s0 y1 S
set_option maxRecDepth 100000 in
set_option maxHeartbeats 4000000 in
theorem kp_X6_includes_129 {K : xm_K} (h : Nat) (x1 : Int32) (x2 : Int32) (x3 : Int32) (x4 : Int32) (x5 : Int32) (x7 : Int32) (s0 : Int32) (S : xm_S) {g : Int32 → xm_S → Prop} {Z31 : Int32 → Int32 → Int32 → Int32 → Int32 → Int32 → Int32 → xm_S → Prop} (C : xm_Cx K cX6_includes RX6 9 (some (FieldType.boolean)) rm_X6_includes) (N : xm_Nx K) (hg : ∀ v S, g v S → xm_q K (some (xm_i v)) S) (hZ31 : ∀ x1 x2 x3 x4 x5 x6 x7 S, Z31 x1 x2 x3 x4 x5 x6 x7 S → xm_W K 0 0 31 [(0, xm_r (some h)), (1, xm_i x1), (2, xm_i x2), (3, xm_i x3), (4, xm_i x4), (5, xm_i x5), (6, xm_i x6), (7, xm_i x7)] [] S) (h1 : wp_X6_includes_129 h x1 x2 x3 x4 x5 x7 s0 S g Z31) : xm_W K 0 0 129 [(0, xm_r (some h)), (1, xm_i x1), (2, xm_i x2), (3, xm_i x3), (4, xm_i x4), (5, xm_i x5), (7, xm_i x7)] [xm_i s0] S := by
  unfold wp_X6_includes_129 at h1
  refine x_istore (L' := [(6, xm_i s0), (0, xm_r (some h)), (1, xm_i x1), (2, xm_i x2), (3, xm_i x3), (4, xm_i x4), (5, xm_i x5), (7, xm_i x7)]) C dX6_includes_129 (by decide) rfl ?_
  obtain ⟨y1, e2⟩ : ∃ y1, y1 = (x7 + (1 : Int32)) := ⟨_, rfl⟩
  have h1 := h1 y1 e2
  refine x_iinc (v := y1) (L' := [(7, xm_i y1), (6, xm_i s0), (0, xm_r (some h)), (1, xm_i x1), (2, xm_i x2), (3, xm_i x3), (4, xm_i x4), (5, xm_i x5)]) C 7 dX6_includes_131 rfl (by rw [e2]; rfl) (by decide) rfl ?_
  refine x_goto (tgt := 31) C dX6_includes_134 (by decide) ?_
  refine x_keep (L' := [(0, xm_r (some h)), (1, xm_i x1), (2, xm_i x2), (3, xm_i x3), (4, xm_i x4), (5, xm_i x5), (6, xm_i s0), (7, xm_i y1)]) C [2, 3, 4, 5, 6, 7, 1, 0] rfl ?_
  exact hZ31 x1 x2 x3 x4 x5 s0 y1 S h1
def wp_X6_includes_124 (h : Nat) (x1 : Int32) (x2 : Int32) (x3 : Int32) (x4 : Int32) (x5 : Int32) (x7 : Int32) (S : xm_S) (g : Int32 → xm_S → Prop) (Z31 : Int32 → Int32 → Int32 → Int32 → Int32 → Int32 → Int32 → xm_S → Prop) : Prop :=
  wp_X6_includes_129 h x1 x2 x3 x4 x5 x7 (1 : Int32) S g Z31
set_option maxRecDepth 100000 in
set_option maxHeartbeats 4000000 in
theorem kp_X6_includes_124 {K : xm_K} (h : Nat) (x1 : Int32) (x2 : Int32) (x3 : Int32) (x4 : Int32) (x5 : Int32) (x7 : Int32) (S : xm_S) {g : Int32 → xm_S → Prop} {Z31 : Int32 → Int32 → Int32 → Int32 → Int32 → Int32 → Int32 → xm_S → Prop} (C : xm_Cx K cX6_includes RX6 9 (some (FieldType.boolean)) rm_X6_includes) (N : xm_Nx K) (hg : ∀ v S, g v S → xm_q K (some (xm_i v)) S) (hZ31 : ∀ x1 x2 x3 x4 x5 x6 x7 S, Z31 x1 x2 x3 x4 x5 x6 x7 S → xm_W K 0 0 31 [(0, xm_r (some h)), (1, xm_i x1), (2, xm_i x2), (3, xm_i x3), (4, xm_i x4), (5, xm_i x5), (6, xm_i x6), (7, xm_i x7)] [] S) (h1 : wp_X6_includes_124 h x1 x2 x3 x4 x5 x7 S g Z31) : xm_W K 0 0 124 [(0, xm_r (some h)), (1, xm_i x1), (2, xm_i x2), (3, xm_i x3), (4, xm_i x4), (5, xm_i x5), (7, xm_i x7)] [] S := by
  unfold wp_X6_includes_124 at h1
  refine x_iconst (v := (1 : Int32)) C dX6_includes_124 (by decide) ?_
  refine x_goto (tgt := 129) C dX6_includes_125 (by decide) ?_
  exact kp_X6_includes_129 h x1 x2 x3 x4 x5 x7 (1 : Int32) S C N hg hZ31 h1
def wp_X6_includes_108 (h : Nat) (x1 : Int32) (x2 : Int32) (x3 : Int32) (x4 : Int32) (x6 : Int32) (x7 : Int32) (x8 : Option Nat) (s0 : Int32) (S : xm_S) (g : Int32 → xm_S → Prop) (Z31 : Int32 → Int32 → Int32 → Int32 → Int32 → Int32 → Int32 → xm_S → Prop) : Prop :=
  (¬ x6 = 0 → wp_X6_includes_124 h x1 x2 x3 x4 s0 x7 S g Z31) ∧ (x6 = 0 → ∃ n3, x8 = some n3 ∧ st_t S n3 = some (9, 0) ∧ wp_X9_tellsPreviewOf n3 x1 S (fun r7 S6 => (r7 = 0 → wp_X6_includes_129 h x1 x2 x3 x4 s0 x7 (0 : Int32) S6 g Z31) ∧ (¬ r7 = 0 → wp_X6_includes_124 h x1 x2 x3 x4 s0 x7 S6 g Z31)))
set_option maxRecDepth 100000 in
set_option maxHeartbeats 4000000 in
theorem kp_X6_includes_108 {K : xm_K} (h : Nat) (x1 : Int32) (x2 : Int32) (x3 : Int32) (x4 : Int32) (x6 : Int32) (x7 : Int32) (x8 : Option Nat) (s0 : Int32) (S : xm_S) {g : Int32 → xm_S → Prop} {Z31 : Int32 → Int32 → Int32 → Int32 → Int32 → Int32 → Int32 → xm_S → Prop} (C : xm_Cx K cX6_includes RX6 9 (some (FieldType.boolean)) rm_X6_includes) (N : xm_Nx K) (hg : ∀ v S, g v S → xm_q K (some (xm_i v)) S) (hZ31 : ∀ x1 x2 x3 x4 x5 x6 x7 S, Z31 x1 x2 x3 x4 x5 x6 x7 S → xm_W K 0 0 31 [(0, xm_r (some h)), (1, xm_i x1), (2, xm_i x2), (3, xm_i x3), (4, xm_i x4), (5, xm_i x5), (6, xm_i x6), (7, xm_i x7)] [] S) (h1 : wp_X6_includes_108 h x1 x2 x3 x4 x6 x7 x8 s0 S g Z31) : xm_W K 0 0 108 [(0, xm_r (some h)), (1, xm_i x1), (2, xm_i x2), (3, xm_i x3), (4, xm_i x4), (6, xm_i x6), (7, xm_i x7), (8, xm_r x8)] [xm_i s0] S := by
  unfold wp_X6_includes_108 at h1
  refine x_istore (L' := [(5, xm_i s0), (0, xm_r (some h)), (1, xm_i x1), (2, xm_i x2), (3, xm_i x3), (4, xm_i x4), (6, xm_i x6), (7, xm_i x7), (8, xm_r x8)]) C dX6_includes_108 (by decide) rfl ?_
  refine x_iload C 6 dX6_includes_110 rfl ?_
  refine x_if_ne (tgt := 124) C dX6_includes_112 (by decide) (fun z9 => ?_) (fun z9 => ?_)
  · have h1 := h1.1 z9
    refine x_keep (L' := [(0, xm_r (some h)), (1, xm_i x1), (2, xm_i x2), (3, xm_i x3), (4, xm_i x4), (5, xm_i s0), (7, xm_i x7)]) C [1, 2, 3, 4, 5, 0, 7] rfl ?_
    exact kp_X6_includes_124 h x1 x2 x3 x4 s0 x7 S C N hg hZ31 h1
  · have h1 := h1.2 z9
    refine x_aload C 8 dX6_includes_115 rfl ?_
    refine x_iload_n C 2 dX6_includes_117 rfl rfl ?_
    obtain ⟨n3, hr4, h1⟩ := h1
    obtain ⟨ht5, h1⟩ := h1
    refine x_callV (rm' := rm_X9_tellsPreviewOf) (n := n3) C (kp_X9_tellsPreviewOf_met h1) lk_17 gw_135 gw_136 xv_9 rfl hr4 ht5 rfl (Nat.le_of_ble_eq_true rfl) ⟨Nat.le_of_ble_eq_true rfl, Nat.le_of_ble_eq_true rfl, (Nat.le_of_ble_eq_true rfl), (Nat.le_of_ble_eq_true rfl)⟩ dX6_includes_118 xm_kx (xm_ki (fun r7 S6 h1 => ?_))
    refine x_if_eq (tgt := 128) C dX6_includes_121 (by decide) (fun z9 => ?_) (fun z9 => ?_)
    · have h1 := h1.1 z9
      refine x_iconst (v := (0 : Int32)) C dX6_includes_128 (by decide) ?_
      refine x_keep (L' := [(0, xm_r (some h)), (1, xm_i x1), (2, xm_i x2), (3, xm_i x3), (4, xm_i x4), (5, xm_i s0), (7, xm_i x7)]) C [1, 2, 3, 4, 5, 0, 7] rfl ?_
      exact kp_X6_includes_129 h x1 x2 x3 x4 s0 x7 (0 : Int32) S6 C N hg hZ31 h1
    · have h1 := h1.2 z9
      refine x_keep (L' := [(0, xm_r (some h)), (1, xm_i x1), (2, xm_i x2), (3, xm_i x3), (4, xm_i x4), (5, xm_i s0), (7, xm_i x7)]) C [1, 2, 3, 4, 5, 0, 7] rfl ?_
      exact kp_X6_includes_124 h x1 x2 x3 x4 s0 x7 S6 C N hg hZ31 h1
def wp_X6_includes_107 (h : Nat) (x1 : Int32) (x2 : Int32) (x3 : Int32) (x4 : Int32) (x6 : Int32) (x7 : Int32) (x8 : Option Nat) (S : xm_S) (g : Int32 → xm_S → Prop) (Z31 : Int32 → Int32 → Int32 → Int32 → Int32 → Int32 → Int32 → xm_S → Prop) : Prop :=
  wp_X6_includes_108 h x1 x2 x3 x4 x6 x7 x8 (0 : Int32) S g Z31
set_option maxRecDepth 100000 in
set_option maxHeartbeats 4000000 in
theorem kp_X6_includes_107 {K : xm_K} (h : Nat) (x1 : Int32) (x2 : Int32) (x3 : Int32) (x4 : Int32) (x6 : Int32) (x7 : Int32) (x8 : Option Nat) (S : xm_S) {g : Int32 → xm_S → Prop} {Z31 : Int32 → Int32 → Int32 → Int32 → Int32 → Int32 → Int32 → xm_S → Prop} (C : xm_Cx K cX6_includes RX6 9 (some (FieldType.boolean)) rm_X6_includes) (N : xm_Nx K) (hg : ∀ v S, g v S → xm_q K (some (xm_i v)) S) (hZ31 : ∀ x1 x2 x3 x4 x5 x6 x7 S, Z31 x1 x2 x3 x4 x5 x6 x7 S → xm_W K 0 0 31 [(0, xm_r (some h)), (1, xm_i x1), (2, xm_i x2), (3, xm_i x3), (4, xm_i x4), (5, xm_i x5), (6, xm_i x6), (7, xm_i x7)] [] S) (h1 : wp_X6_includes_107 h x1 x2 x3 x4 x6 x7 x8 S g Z31) : xm_W K 0 0 107 [(0, xm_r (some h)), (1, xm_i x1), (2, xm_i x2), (3, xm_i x3), (4, xm_i x4), (6, xm_i x6), (7, xm_i x7), (8, xm_r x8)] [] S := by
  unfold wp_X6_includes_107 at h1
  refine x_iconst (v := (0 : Int32)) C dX6_includes_107 (by decide) ?_
  exact kp_X6_includes_108 h x1 x2 x3 x4 x6 x7 x8 (0 : Int32) S C N hg hZ31 h1
def wp_X6_includes_76 (h : Nat) (x1 : Int32) (x2 : Int32) (x3 : Int32) (x4 : Int32) (x5 : Int32) (x6 : Int32) (x7 : Int32) (x8 : Option Nat) (S : xm_S) (g : Int32 → xm_S → Prop) (Z31 : Int32 → Int32 → Int32 → Int32 → Int32 → Int32 → Int32 → xm_S → Prop) : Prop :=
  (x5 = 0 → wp_X6_includes_107 h x1 x2 x3 x4 x6 x7 x8 S g Z31) ∧ (¬ x5 = 0 → ∃ n8, x8 = some n8 ∧ st_t S n8 = some (9, 0) ∧ ∃ n11, (st_r S n8 2) = some n11 ∧ ∃ z14, st_t S n11 = some (100, z14) ∧ vp_in x2 z14 ∧ (x3 < (st_i S n11 (x2).toNatClampNeg) → wp_X6_includes_107 h x1 x2 x3 x4 x6 x7 x8 S g Z31) ∧ (¬ x3 < (st_i S n11 (x2).toNatClampNeg) → ∃ n16, x8 = some n16 ∧ st_t S n16 = some (9, 0) ∧ ∃ n19, (st_r S n16 3) = some n19 ∧ ∃ z22, st_t S n19 = some (100, z22) ∧ vp_in x2 z22 ∧ ((st_i S n19 (x2).toNatClampNeg) ≤ x3 → wp_X6_includes_107 h x1 x2 x3 x4 x6 x7 x8 S g Z31) ∧ (¬ (st_i S n19 (x2).toNatClampNeg) ≤ x3 → wp_X6_includes_108 h x1 x2 x3 x4 x6 x7 x8 (1 : Int32) S g Z31)))
set_option maxRecDepth 100000 in
set_option maxHeartbeats 4000000 in
theorem kp_X6_includes_76 {K : xm_K} (h : Nat) (x1 : Int32) (x2 : Int32) (x3 : Int32) (x4 : Int32) (x5 : Int32) (x6 : Int32) (x7 : Int32) (x8 : Option Nat) (S : xm_S) {g : Int32 → xm_S → Prop} {Z31 : Int32 → Int32 → Int32 → Int32 → Int32 → Int32 → Int32 → xm_S → Prop} (C : xm_Cx K cX6_includes RX6 9 (some (FieldType.boolean)) rm_X6_includes) (N : xm_Nx K) (hg : ∀ v S, g v S → xm_q K (some (xm_i v)) S) (hZ31 : ∀ x1 x2 x3 x4 x5 x6 x7 S, Z31 x1 x2 x3 x4 x5 x6 x7 S → xm_W K 0 0 31 [(0, xm_r (some h)), (1, xm_i x1), (2, xm_i x2), (3, xm_i x3), (4, xm_i x4), (5, xm_i x5), (6, xm_i x6), (7, xm_i x7)] [] S) (h1 : wp_X6_includes_76 h x1 x2 x3 x4 x5 x6 x7 x8 S g Z31) : xm_W K 0 0 76 [(0, xm_r (some h)), (1, xm_i x1), (2, xm_i x2), (3, xm_i x3), (4, xm_i x4), (5, xm_i x5), (6, xm_i x6), (7, xm_i x7), (8, xm_r x8)] [] S := by
  unfold wp_X6_includes_76 at h1
  refine x_iload C 5 dX6_includes_76 rfl ?_
  refine x_if_eq (tgt := 107) C dX6_includes_78 (by decide) (fun z9 => ?_) (fun z9 => ?_)
  · have h1 := h1.1 z9
    refine x_keep (L' := [(0, xm_r (some h)), (1, xm_i x1), (2, xm_i x2), (3, xm_i x3), (4, xm_i x4), (6, xm_i x6), (7, xm_i x7), (8, xm_r x8)]) C [0, 1, 2, 3, 4, 6, 7, 8] rfl ?_
    exact kp_X6_includes_107 h x1 x2 x3 x4 x6 x7 x8 S C N hg hZ31 h1
  · have h1 := h1.2 z9
    refine x_aload C 8 dX6_includes_81 rfl ?_
    obtain ⟨n8, hr9, h1⟩ := h1
    obtain ⟨ht10, h1⟩ := h1
    refine x_getf_r (n := n8) C hr9 ht10 fd_45 (by decide) dX6_includes_83 ?_
    refine x_iload_n C 2 dX6_includes_86 rfl rfl ?_
    obtain ⟨n11, hr12, h1⟩ := h1
    obtain ⟨z14, ht13, h1⟩ := h1
    obtain ⟨hi15, h1⟩ := h1
    refine x_iald (n := n11) C hr12 ht13 hi15 dX6_includes_87 ?_
    refine x_iload_n C 3 dX6_includes_88 rfl rfl ?_
    refine x_icmp_gt (tgt := 107) C dX6_includes_89 (by decide) (fun z9 => ?_) (fun z9 => ?_)
    · have h1 := h1.1 z9
      refine x_keep (L' := [(0, xm_r (some h)), (1, xm_i x1), (2, xm_i x2), (3, xm_i x3), (4, xm_i x4), (6, xm_i x6), (7, xm_i x7), (8, xm_r x8)]) C [0, 1, 2, 3, 4, 6, 7, 8] rfl ?_
      exact kp_X6_includes_107 h x1 x2 x3 x4 x6 x7 x8 S C N hg hZ31 h1
    · have h1 := h1.2 z9
      refine x_iload_n C 3 dX6_includes_92 rfl rfl ?_
      refine x_aload C 8 dX6_includes_93 rfl ?_
      obtain ⟨n16, hr17, h1⟩ := h1
      obtain ⟨ht18, h1⟩ := h1
      refine x_getf_r (n := n16) C hr17 ht18 fd_46 (by decide) dX6_includes_95 ?_
      refine x_iload_n C 2 dX6_includes_98 rfl rfl ?_
      obtain ⟨n19, hr20, h1⟩ := h1
      obtain ⟨z22, ht21, h1⟩ := h1
      obtain ⟨hi23, h1⟩ := h1
      refine x_iald (n := n19) C hr20 ht21 hi23 dX6_includes_99 ?_
      refine x_icmp_ge (tgt := 107) C dX6_includes_100 (by decide) (fun z9 => ?_) (fun z9 => ?_)
      · have h1 := h1.1 z9
        refine x_keep (L' := [(0, xm_r (some h)), (1, xm_i x1), (2, xm_i x2), (3, xm_i x3), (4, xm_i x4), (6, xm_i x6), (7, xm_i x7), (8, xm_r x8)]) C [0, 1, 2, 3, 4, 6, 7, 8] rfl ?_
        exact kp_X6_includes_107 h x1 x2 x3 x4 x6 x7 x8 S C N hg hZ31 h1
      · have h1 := h1.2 z9
        refine x_iconst (v := (1 : Int32)) C dX6_includes_103 (by decide) ?_
        refine x_goto (tgt := 108) C dX6_includes_104 (by decide) ?_
        refine x_keep (L' := [(0, xm_r (some h)), (1, xm_i x1), (2, xm_i x2), (3, xm_i x3), (4, xm_i x4), (6, xm_i x6), (7, xm_i x7), (8, xm_r x8)]) C [0, 1, 2, 3, 4, 6, 7, 8] rfl ?_
        exact kp_X6_includes_108 h x1 x2 x3 x4 x6 x7 x8 (1 : Int32) S C N hg hZ31 h1
def wp_X6_includes_69 (h : Nat) (x1 : Int32) (x2 : Int32) (x3 : Int32) (x4 : Int32) (x7 : Int32) (x8 : Option Nat) (S : xm_S) (g : Int32 → xm_S → Prop) (Z31 : Int32 → Int32 → Int32 → Int32 → Int32 → Int32 → Int32 → xm_S → Prop) : Prop :=
  wp_X6_includes_76 h x1 x2 x3 x4 (1 : Int32) x4 x7 x8 S g Z31
set_option maxRecDepth 100000 in
set_option maxHeartbeats 4000000 in
theorem kp_X6_includes_69 {K : xm_K} (h : Nat) (x1 : Int32) (x2 : Int32) (x3 : Int32) (x4 : Int32) (x7 : Int32) (x8 : Option Nat) (S : xm_S) {g : Int32 → xm_S → Prop} {Z31 : Int32 → Int32 → Int32 → Int32 → Int32 → Int32 → Int32 → xm_S → Prop} (C : xm_Cx K cX6_includes RX6 9 (some (FieldType.boolean)) rm_X6_includes) (N : xm_Nx K) (hg : ∀ v S, g v S → xm_q K (some (xm_i v)) S) (hZ31 : ∀ x1 x2 x3 x4 x5 x6 x7 S, Z31 x1 x2 x3 x4 x5 x6 x7 S → xm_W K 0 0 31 [(0, xm_r (some h)), (1, xm_i x1), (2, xm_i x2), (3, xm_i x3), (4, xm_i x4), (5, xm_i x5), (6, xm_i x6), (7, xm_i x7)] [] S) (h1 : wp_X6_includes_69 h x1 x2 x3 x4 x7 x8 S g Z31) : xm_W K 0 0 69 [(0, xm_r (some h)), (1, xm_i x1), (2, xm_i x2), (3, xm_i x3), (4, xm_i x4), (7, xm_i x7), (8, xm_r x8)] [] S := by
  unfold wp_X6_includes_69 at h1
  refine x_iconst (v := (1 : Int32)) C dX6_includes_69 (by decide) ?_
  refine x_istore (L' := [(5, xm_i (1 : Int32)), (0, xm_r (some h)), (1, xm_i x1), (2, xm_i x2), (3, xm_i x3), (4, xm_i x4), (7, xm_i x7), (8, xm_r x8)]) C dX6_includes_70 (by decide) rfl ?_
  refine x_iload C 5 dX6_includes_72 rfl ?_
  refine x_istore (L' := [(6, xm_i x4), (5, xm_i (1 : Int32)), (0, xm_r (some h)), (1, xm_i x1), (2, xm_i x2), (3, xm_i x3), (4, xm_i x4), (7, xm_i x7), (8, xm_r x8)]) C dX6_includes_74 (by decide) rfl ?_
  refine x_keep (L' := [(0, xm_r (some h)), (1, xm_i x1), (2, xm_i x2), (3, xm_i x3), (4, xm_i x4), (5, xm_i (1 : Int32)), (6, xm_i x4), (7, xm_i x7), (8, xm_r x8)]) C [2, 3, 4, 5, 6, 1, 0, 7, 8] rfl ?_
  exact kp_X6_includes_76 h x1 x2 x3 x4 (1 : Int32) x4 x7 x8 S C N hg hZ31 h1
def wp_X6_includes_152 (h : Nat) (s0 : Int32) (S : xm_S) (g : Int32 → xm_S → Prop) : Prop :=
  (s0 = 0 ∨ s0 = 1) ∧ g s0 S
set_option maxRecDepth 100000 in
set_option maxHeartbeats 4000000 in
theorem kp_X6_includes_152 {K : xm_K} (h : Nat) (s0 : Int32) (S : xm_S) {g : Int32 → xm_S → Prop} (C : xm_Cx K cX6_includes RX6 9 (some (FieldType.boolean)) rm_X6_includes) (N : xm_Nx K) (hg : ∀ v S, g v S → xm_q K (some (xm_i v)) S)  (h1 : wp_X6_includes_152 h s0 S g) : xm_W K 0 0 152 [] [xm_i s0] S := by
  unfold wp_X6_includes_152 at h1
  exact x_zret C (Nat.le_of_ble_eq_true rfl) (Nat.le_of_ble_eq_true rfl) rfl h1.1 dX6_includes_152 (hg _ _ h1.2)
def wp_X6_includes_151 (h : Nat)  (S : xm_S) (g : Int32 → xm_S → Prop) : Prop :=
  wp_X6_includes_152 h (0 : Int32) S g
set_option maxRecDepth 100000 in
set_option maxHeartbeats 4000000 in
theorem kp_X6_includes_151 {K : xm_K} (h : Nat)  (S : xm_S) {g : Int32 → xm_S → Prop} (C : xm_Cx K cX6_includes RX6 9 (some (FieldType.boolean)) rm_X6_includes) (N : xm_Nx K) (hg : ∀ v S, g v S → xm_q K (some (xm_i v)) S)  (h1 : wp_X6_includes_151 h  S g) : xm_W K 0 0 151 [] [] S := by
  unfold wp_X6_includes_151 at h1
  refine x_iconst (v := (0 : Int32)) C dX6_includes_151 (by decide) ?_
  exact kp_X6_includes_152 h (0 : Int32) S C N hg  h1
def wp_X6_includes_31B (h : Nat) (x1 : Int32) (x2 : Int32) (x3 : Int32) (x4 : Int32) (x5 : Int32) (x6 : Int32) (x7 : Int32) (S : xm_S) (g : Int32 → xm_S → Prop) (Z31 : Int32 → Int32 → Int32 → Int32 → Int32 → Int32 → Int32 → xm_S → Prop) : Prop :=
  st_t S h = some (6, 0) ∧ ((st_i S h 1) ≤ x7 → (x5 = 0 → wp_X6_includes_151 h S g) ∧ (¬ x5 = 0 → (x6 = 0 → wp_X6_includes_151 h S g) ∧ (¬ x6 = 0 → wp_X6_includes_152 h (1 : Int32) S g))) ∧ (¬ (st_i S h 1) ≤ x7 → ∃ n25, (st_r S h 0) = some n25 ∧ ∃ z28, st_t S n25 = some (119, z28) ∧ vp_in x7 z28 ∧ ∃ n30, (st_r S n25 (x7).toNatClampNeg) = some n30 ∧ st_t S n30 = some (9, 0) ∧ ((st_i S n30 1) = 0 → wp_X6_includes_76 h x1 x2 x3 x4 x5 x6 x7 (st_r S n25 (x7).toNatClampNeg) S g Z31) ∧ (¬ (st_i S n30 1) = 0 → (x5 = 0 → wp_X6_includes_69 h x1 x2 x3 x4 x7 (st_r S n25 (x7).toNatClampNeg) S g Z31) ∧ (¬ x5 = 0 → (x6 = 0 → wp_X6_includes_69 h x1 x2 x3 x4 x7 (st_r S n25 (x7).toNatClampNeg) S g Z31) ∧ (¬ x6 = 0 → g (1 : Int32) S))))
def wp_X6_includes_31 (h : Nat) (x1 : Int32) (x2 : Int32) (x3 : Int32) (x4 : Int32) (x5 : Int32) (x6 : Int32) (x7 : Int32) (S : xm_S) (g : Int32 → xm_S → Prop) : Prop :=
  ∀ Z31 : Int32 → Int32 → Int32 → Int32 → Int32 → Int32 → Int32 → xm_S → Prop, (∀ x1 x2 x3 x4 x5 x6 x7 S, wp_X6_includes_31B h x1 x2 x3 x4 x5 x6 x7 S g Z31 → Z31 x1 x2 x3 x4 x5 x6 x7 S) → Z31 x1 x2 x3 x4 x5 x6 x7 S
set_option maxRecDepth 100000 in
set_option maxHeartbeats 4000000 in
theorem kp_X6_includes_31B {K : xm_K} (h : Nat) (x1 : Int32) (x2 : Int32) (x3 : Int32) (x4 : Int32) (x5 : Int32) (x6 : Int32) (x7 : Int32) (S : xm_S) {g : Int32 → xm_S → Prop} {Z31 : Int32 → Int32 → Int32 → Int32 → Int32 → Int32 → Int32 → xm_S → Prop} (C : xm_Cx K cX6_includes RX6 9 (some (FieldType.boolean)) rm_X6_includes) (N : xm_Nx K) (hg : ∀ v S, g v S → xm_q K (some (xm_i v)) S) (hZ31 : ∀ x1 x2 x3 x4 x5 x6 x7 S, Z31 x1 x2 x3 x4 x5 x6 x7 S → xm_W K 0 0 31 [(0, xm_r (some h)), (1, xm_i x1), (2, xm_i x2), (3, xm_i x3), (4, xm_i x4), (5, xm_i x5), (6, xm_i x6), (7, xm_i x7)] [] S) (h1 : wp_X6_includes_31B h x1 x2 x3 x4 x5 x6 x7 S g Z31) : xm_W K 0 0 31 [(0, xm_r (some h)), (1, xm_i x1), (2, xm_i x2), (3, xm_i x3), (4, xm_i x4), (5, xm_i x5), (6, xm_i x6), (7, xm_i x7)] [] S := by
  unfold wp_X6_includes_31B at h1
  refine x_iload C 7 dX6_includes_31 rfl ?_
  refine x_aload_n C 0 dX6_includes_33 rfl rfl ?_
  obtain ⟨ht24, h1⟩ := h1
  refine x_getf_i (n := h) C rfl ht24 fd_42 (by decide) dX6_includes_34 ?_
  refine x_icmp_ge (tgt := 137) C dX6_includes_37 (by decide) (fun z9 => ?_) (fun z9 => ?_)
  · have h1 := h1.1 z9
    refine x_iload C 5 dX6_includes_137 rfl ?_
    refine x_if_eq (tgt := 151) C dX6_includes_139 (by decide) (fun z9 => ?_) (fun z9 => ?_)
    · have h1 := h1.1 z9
      refine x_keep (L' := []) C [] rfl ?_
      exact kp_X6_includes_151 h S C N hg  h1
    · have h1 := h1.2 z9
      refine x_iload C 6 dX6_includes_142 rfl ?_
      refine x_if_eq (tgt := 151) C dX6_includes_144 (by decide) (fun z9 => ?_) (fun z9 => ?_)
      · have h1 := h1.1 z9
        refine x_keep (L' := []) C [] rfl ?_
        exact kp_X6_includes_151 h S C N hg  h1
      · have h1 := h1.2 z9
        refine x_iconst (v := (1 : Int32)) C dX6_includes_147 (by decide) ?_
        refine x_goto (tgt := 152) C dX6_includes_148 (by decide) ?_
        refine x_keep (L' := []) C [] rfl ?_
        exact kp_X6_includes_152 h (1 : Int32) S C N hg  h1
  · have h1 := h1.2 z9
    refine x_aload_n C 0 dX6_includes_40 rfl rfl ?_
    refine x_getf_r (n := h) C rfl ht24 fd_43 (by decide) dX6_includes_41 ?_
    refine x_iload C 7 dX6_includes_44 rfl ?_
    obtain ⟨n25, hr26, h1⟩ := h1
    obtain ⟨z28, ht27, h1⟩ := h1
    obtain ⟨hi29, h1⟩ := h1
    refine x_aald (n := n25) C hr26 (by decide) rfl ht27 hi29 dX6_includes_46 ?_
    refine x_astore (L' := [(8, xm_r (st_r S n25 (x7).toNatClampNeg)), (0, xm_r (some h)), (1, xm_i x1), (2, xm_i x2), (3, xm_i x3), (4, xm_i x4), (5, xm_i x5), (6, xm_i x6), (7, xm_i x7)]) C dX6_includes_47 (by decide) rfl ?_
    refine x_aload C 0 dX6_includes_49 rfl ?_
    obtain ⟨n30, hr31, h1⟩ := h1
    obtain ⟨ht32, h1⟩ := h1
    refine x_getf_i (n := n30) C hr31 ht32 fd_47 (by decide) dX6_includes_51 ?_
    refine x_if_eq (tgt := 76) C dX6_includes_54 (by decide) (fun z9 => ?_) (fun z9 => ?_)
    · have h1 := h1.1 z9
      refine x_keep (L' := [(0, xm_r (some h)), (1, xm_i x1), (2, xm_i x2), (3, xm_i x3), (4, xm_i x4), (5, xm_i x5), (6, xm_i x6), (7, xm_i x7), (8, xm_r (st_r S n25 (x7).toNatClampNeg))]) C [1, 2, 3, 4, 5, 6, 7, 8, 0] rfl ?_
      exact kp_X6_includes_76 h x1 x2 x3 x4 x5 x6 x7 (st_r S n25 (x7).toNatClampNeg) S C N hg hZ31 h1
    · have h1 := h1.2 z9
      refine x_iload C 6 dX6_includes_57 rfl ?_
      refine x_if_eq (tgt := 69) C dX6_includes_59 (by decide) (fun z9 => ?_) (fun z9 => ?_)
      · have h1 := h1.1 z9
        refine x_keep (L' := [(0, xm_r (some h)), (1, xm_i x1), (2, xm_i x2), (3, xm_i x3), (4, xm_i x4), (7, xm_i x7), (8, xm_r (st_r S n25 (x7).toNatClampNeg))]) C [1, 2, 3, 4, 5, 8, 0] rfl ?_
        exact kp_X6_includes_69 h x1 x2 x3 x4 x7 (st_r S n25 (x7).toNatClampNeg) S C N hg hZ31 h1
      · have h1 := h1.2 z9
        refine x_iload C 7 dX6_includes_62 rfl ?_
        refine x_if_eq (tgt := 69) C dX6_includes_64 (by decide) (fun z9 => ?_) (fun z9 => ?_)
        · have h1 := h1.1 z9
          refine x_keep (L' := [(0, xm_r (some h)), (1, xm_i x1), (2, xm_i x2), (3, xm_i x3), (4, xm_i x4), (7, xm_i x7), (8, xm_r (st_r S n25 (x7).toNatClampNeg))]) C [1, 2, 3, 4, 5, 8, 0] rfl ?_
          exact kp_X6_includes_69 h x1 x2 x3 x4 x7 (st_r S n25 (x7).toNatClampNeg) S C N hg hZ31 h1
        · have h1 := h1.2 z9
          refine x_iconst (v := (1 : Int32)) C dX6_includes_67 (by decide) ?_
          exact x_zret C (Nat.le_of_ble_eq_true rfl) (Nat.le_of_ble_eq_true rfl) rfl (by decide) dX6_includes_68 (hg _ _ h1)
theorem kp_X6_includes_31 {K : xm_K} (h : Nat) (x1 : Int32) (x2 : Int32) (x3 : Int32) (x4 : Int32) (x5 : Int32) (x6 : Int32) (x7 : Int32) (S : xm_S) {g : Int32 → xm_S → Prop} (C : xm_Cx K cX6_includes RX6 9 (some (FieldType.boolean)) rm_X6_includes) (N : xm_Nx K) (hg : ∀ v S, g v S → xm_q K (some (xm_i v)) S)  (h1 : wp_X6_includes_31 h x1 x2 x3 x4 x5 x6 x7 S g) : xm_W K 0 0 31 [(0, xm_r (some h)), (1, xm_i x1), (2, xm_i x2), (3, xm_i x3), (4, xm_i x4), (5, xm_i x5), (6, xm_i x6), (7, xm_i x7)] [] S :=
  h1 (fun x1 x2 x3 x4 x5 x6 x7 S => xm_W K 0 0 31 [(0, xm_r (some h)), (1, xm_i x1), (2, xm_i x2), (3, xm_i x3), (4, xm_i x4), (5, xm_i x5), (6, xm_i x6), (7, xm_i x7)] [] S) (fun x1 x2 x3 x4 x5 x6 x7 S hb => kp_X6_includes_31B h x1 x2 x3 x4 x5 x6 x7 S C N hg (fun x1 x2 x3 x4 x5 x6 x7 S hz => hz) hb)
def wp_X6_includes_20 (h : Nat) (x1 : Int32) (x2 : Int32) (x3 : Int32) (s0 : Int32) (S : xm_S) (g : Int32 → xm_S → Prop) : Prop :=
  wp_X6_includes_31 h x1 x2 x3 s0 (0 : Int32) (0 : Int32) (0 : Int32) S g
set_option maxRecDepth 100000 in
set_option maxHeartbeats 4000000 in
theorem kp_X6_includes_20 {K : xm_K} (h : Nat) (x1 : Int32) (x2 : Int32) (x3 : Int32) (s0 : Int32) (S : xm_S) {g : Int32 → xm_S → Prop} (C : xm_Cx K cX6_includes RX6 9 (some (FieldType.boolean)) rm_X6_includes) (N : xm_Nx K) (hg : ∀ v S, g v S → xm_q K (some (xm_i v)) S)  (h1 : wp_X6_includes_20 h x1 x2 x3 s0 S g) : xm_W K 0 0 20 [(0, xm_r (some h)), (1, xm_i x1), (2, xm_i x2), (3, xm_i x3)] [xm_i s0] S := by
  unfold wp_X6_includes_20 at h1
  refine x_istore (L' := [(4, xm_i s0), (0, xm_r (some h)), (1, xm_i x1), (2, xm_i x2), (3, xm_i x3)]) C dX6_includes_20 (by decide) rfl ?_
  refine x_iconst (v := (0 : Int32)) C dX6_includes_22 (by decide) ?_
  refine x_istore (L' := [(5, xm_i (0 : Int32)), (4, xm_i s0), (0, xm_r (some h)), (1, xm_i x1), (2, xm_i x2), (3, xm_i x3)]) C dX6_includes_23 (by decide) rfl ?_
  refine x_iconst (v := (0 : Int32)) C dX6_includes_25 (by decide) ?_
  refine x_istore (L' := [(6, xm_i (0 : Int32)), (5, xm_i (0 : Int32)), (4, xm_i s0), (0, xm_r (some h)), (1, xm_i x1), (2, xm_i x2), (3, xm_i x3)]) C dX6_includes_26 (by decide) rfl ?_
  refine x_iconst (v := (0 : Int32)) C dX6_includes_28 (by decide) ?_
  refine x_istore (L' := [(7, xm_i (0 : Int32)), (6, xm_i (0 : Int32)), (5, xm_i (0 : Int32)), (4, xm_i s0), (0, xm_r (some h)), (1, xm_i x1), (2, xm_i x2), (3, xm_i x3)]) C dX6_includes_29 (by decide) rfl ?_
  refine x_keep (L' := [(0, xm_r (some h)), (1, xm_i x1), (2, xm_i x2), (3, xm_i x3), (4, xm_i s0), (5, xm_i (0 : Int32)), (6, xm_i (0 : Int32)), (7, xm_i (0 : Int32))]) C [4, 5, 6, 7, 3, 2, 1, 0] rfl ?_
  exact kp_X6_includes_31 h x1 x2 x3 s0 (0 : Int32) (0 : Int32) (0 : Int32) S C N hg  h1
def wp_X6_includes (h : Nat) (x1 : Int32) (x2 : Int32) (S : xm_S) (g : Int32 → xm_S → Prop) : Prop :=
  wp_X9_rank x1 x2 S (fun r34 S33 => (¬ (x1 &&& (nI 15)) = (nI 10) → wp_X6_includes_20 h x1 x2 r34 (0 : Int32) S33 g) ∧ ((x1 &&& (nI 15)) = (nI 10) → wp_X6_includes_20 h x1 x2 r34 (1 : Int32) S33 g))
set_option maxRecDepth 100000 in
set_option maxHeartbeats 4000000 in
theorem kp_X6_includes {K : xm_K} (h : Nat) (x1 : Int32) (x2 : Int32) (S : xm_S) {g : Int32 → xm_S → Prop} (C : xm_Cx K cX6_includes RX6 9 (some (FieldType.boolean)) rm_X6_includes) (N : xm_Nx K) (hg : ∀ v S, g v S → xm_q K (some (xm_i v)) S)  (h1 : wp_X6_includes h x1 x2 S g) : xm_W K 0 0 0 [(0, xm_r (some h)), (1, xm_i x1), (2, xm_i x2)] [] S := by
  unfold wp_X6_includes at h1
  refine x_iload_n C 1 dX6_includes_0 rfl rfl ?_
  refine x_iload_n C 2 dX6_includes_1 rfl rfl ?_
  refine x_callS (rm' := rm_X9_rank) C (kp_X9_rank_met h1) lk_18 gw_122 rfl (Nat.le_of_ble_eq_true rfl) ⟨Nat.le_of_ble_eq_true rfl, Nat.le_of_ble_eq_true rfl, (Nat.le_of_ble_eq_true rfl), (Nat.le_of_ble_eq_true rfl)⟩ dX6_includes_2 xm_kx (xm_ki (fun r34 S33 h1 => ?_))
  refine x_istore_n (L' := [(3, xm_i r34), (0, xm_r (some h)), (1, xm_i x1), (2, xm_i x2)]) C dX6_includes_5 rfl (by decide) rfl ?_
  refine x_iload_n C 2 dX6_includes_6 rfl rfl ?_
  refine x_bipush (v := (nI 15)) C dX6_includes_7 (by decide) ?_
  refine x_iand C dX6_includes_9 ?_
  refine x_bipush (v := (nI 10)) C dX6_includes_10 (by decide) ?_
  refine x_icmp_ne (tgt := 19) C dX6_includes_12 (by decide) (fun z9 => ?_) (fun z9 => ?_)
  · have h1 := h1.1 z9
    refine x_iconst (v := (0 : Int32)) C dX6_includes_19 (by decide) ?_
    refine x_keep (L' := [(0, xm_r (some h)), (1, xm_i x1), (2, xm_i x2), (3, xm_i r34)]) C [1, 2, 3, 0] rfl ?_
    exact kp_X6_includes_20 h x1 x2 r34 (0 : Int32) S33 C N hg  h1
  · have h1 := h1.2 z9
    refine x_iconst (v := (1 : Int32)) C dX6_includes_15 (by decide) ?_
    refine x_goto (tgt := 20) C dX6_includes_16 (by decide) ?_
    refine x_keep (L' := [(0, xm_r (some h)), (1, xm_i x1), (2, xm_i x2), (3, xm_i r34)]) C [1, 2, 3, 0] rfl ?_
    exact kp_X6_includes_20 h x1 x2 r34 (1 : Int32) S33 C N hg  h1
theorem kp_X6_includes_met {h : Nat} {x1 : Int32} {x2 : Int32} {S : xm_S} {g : Int32 → xm_S → Prop}  (h1 : wp_X6_includes h x1 x2 S g) : xm_Met yX6_includes cX6_includes 9 (some (FieldType.boolean)) rm_X6_includes [xm_r (some h), xm_i x1, xm_i x2] S (xm_qi g) xm_nox :=
  xm_ofW RX6 (by decide +kernel) rfl (Nat.le_of_ble_eq_true rfl) (fun K C N hq hx hi => kp_X6_includes h x1 x2 S C N (fun v S h => by rw [hq]; exact ⟨v, rfl, h⟩)  h1)
def rm_X6_init : Room := { frames := 1, cells := 1, slots := 20, locals := 20 }
theorem dX6_init_0 : decode cX6_init 0 = .ok (.aload_n 0, 1) := by decide +kernel
theorem dX6_init_1 : decode cX6_init 1 = .ok (.invokespecial 3, 3) := by decide +kernel
theorem dX6_init_4 : decode cX6_init 4 = .ok (.aload_n 0, 1) := by decide +kernel
theorem dX6_init_5 : decode cX6_init 5 = .ok (.bipush 20, 2) := by decide +kernel
theorem dX6_init_7 : decode cX6_init 7 = .ok (.anewarray 9, 3) := by decide +kernel
theorem dX6_init_10 : decode cX6_init 10 = .ok (.putfield 11, 3) := by decide +kernel
theorem dX6_init_13 : decode cX6_init 13 = .ok (.aload_n 0, 1) := by decide +kernel
theorem dX6_init_14 : decode cX6_init 14 = .ok (.iconst 0, 1) := by decide +kernel
theorem dX6_init_15 : decode cX6_init 15 = .ok (.putfield 17, 3) := by decide +kernel
theorem dX6_init_18 : decode cX6_init 18 = .ok (.return_, 1) := by decide +kernel
def wp_X6_init (h : Nat)  (S : xm_S) (g : xm_S → Prop) : Prop :=
  ∃ n1, st_t S n1 = none ∧ ∀ S3, S3 = st_nw S n1 (119, 20) → st_t S3 h = some (6, 0) ∧ ∀ S6, S6 = st_pr S3 h 0 (some n1) → ∀ S8, S8 = st_pi S6 h 1 (0 : Int32) → g S8
set_option maxRecDepth 100000 in
set_option maxHeartbeats 4000000 in
theorem kp_X6_init {K : xm_K} (h : Nat)  (S : xm_S) {g : xm_S → Prop} (C : xm_Cx K cX6_init RX6 1 none rm_X6_init) (N : xm_Nx K) (hini : xm_init K) (hg : ∀ S, g S → xm_q K none S)  (h1 : wp_X6_init h  S g) : xm_W K 0 0 0 [(0, xm_r (some h))] [] S := by
  unfold wp_X6_init at h1
  refine x_aload_n C 0 dX6_init_0 rfl rfl ?_
  refine x_objInit (n := h) C rfl gw_141 (Nat.le_of_ble_eq_true rfl) (Nat.le_of_ble_eq_true rfl) (Nat.le_of_ble_eq_true rfl) dX6_init_1 gw_1 gw_2 ?_
  refine x_aload_n C 0 dX6_init_4 rfl rfl ?_
  refine x_bipush (v := (nI 20)) C dX6_init_5 (by decide) ?_
  obtain ⟨n1, hn2, h1⟩ := h1
  refine x_newq (n := n1) (ci := 9) (len := 20) C gw_142 (by decide +kernel) (by decide) rfl (by decide) (by decide) hn2 (Nat.le_of_ble_eq_true rfl) (Nat.le_of_ble_eq_true rfl) dX6_init_7 ?_
  refine x_topS (fun S3 e4 => ?_)
  have h1 := h1 S3 e4
  obtain ⟨ht5, h1⟩ := h1
  refine x_putfF_r (n := h) C rfl ht5 fd_43 xc_6 (by decide) rfl hini rfl (xm_nr rfl) dX6_init_10 ?_
  refine x_topS (fun S6 e7 => ?_)
  have h1 := h1 S6 e7
  refine x_aload_n C 0 dX6_init_13 rfl rfl ?_
  refine x_iconst (v := (0 : Int32)) C dX6_init_14 (by decide) ?_
  refine x_putf_i (n := h) C rfl (tk_p e7 ht5) fd_42 xc_6 (by decide) rfl ⟨rfl, rfl⟩ dX6_init_15 ?_
  refine x_topS (fun S8 e9 => ?_)
  have h1 := h1 S8 e9
  exact x_vret C (Nat.le_of_ble_eq_true rfl) (Nat.le_of_ble_eq_true rfl) rfl dX6_init_18 (hg _ h1)
theorem kp_X6_init_met {h : Nat}  {S : xm_S} {g : xm_S → Prop}  (h1 : wp_X6_init h  S g) : xm_Met yX6_init cX6_init 1 none rm_X6_init [xm_r (some h)] S (xm_qv g) xm_nox :=
  xm_ofW RX6 (by decide +kernel) rfl (Nat.le_of_ble_eq_true rfl) (fun K C N hq hx hi => kp_X6_init h  S C N (hi rfl) (fun S h => by rw [hq]; exact ⟨rfl, h⟩)  h1)
def rm_X7_isMet : Room := { frames := 1, cells := 0, slots := 0, locals := 20 }
theorem dX7_isMet_0 : decode cX7_isMet 0 = .ok (.aload_n 1, 1) := by decide +kernel
theorem dX7_isMet_1 : decode cX7_isMet 1 = .ok (.getfield 73, 3) := by decide +kernel
theorem dX7_isMet_4 : decode cX7_isMet 4 = .ok (.iload_n 2, 1) := by decide +kernel
theorem dX7_isMet_5 : decode cX7_isMet 5 = .ok (.iand, 1) := by decide +kernel
theorem dX7_isMet_6 : decode cX7_isMet 6 = .ok (.istore_n 3, 1) := by decide +kernel
theorem dX7_isMet_7 : decode cX7_isMet 7 = .ok (.aload_n 0, 1) := by decide +kernel
theorem dX7_isMet_8 : decode cX7_isMet 8 = .ok (.dup, 1) := by decide +kernel
theorem dX7_isMet_9 : decode cX7_isMet 9 = .ok (.getfield 51, 3) := by decide +kernel
theorem dX7_isMet_12 : decode cX7_isMet 12 = .ok (.iload_n 3, 1) := by decide +kernel
theorem dX7_isMet_13 : decode cX7_isMet 13 = .ok (.ior, 1) := by decide +kernel
theorem dX7_isMet_14 : decode cX7_isMet 14 = .ok (.putfield 51, 3) := by decide +kernel
theorem dX7_isMet_17 : decode cX7_isMet 17 = .ok (.aload_n 0, 1) := by decide +kernel
theorem dX7_isMet_18 : decode cX7_isMet 18 = .ok (.dup, 1) := by decide +kernel
theorem dX7_isMet_19 : decode cX7_isMet 19 = .ok (.getfield 54, 3) := by decide +kernel
theorem dX7_isMet_22 : decode cX7_isMet 22 = .ok (.aload_n 1, 1) := by decide +kernel
theorem dX7_isMet_23 : decode cX7_isMet 23 = .ok (.getfield 119, 3) := by decide +kernel
theorem dX7_isMet_26 : decode cX7_isMet 26 = .ok (.aload_n 1, 1) := by decide +kernel
theorem dX7_isMet_27 : decode cX7_isMet 27 = .ok (.getfield 113, 3) := by decide +kernel
theorem dX7_isMet_30 : decode cX7_isMet 30 = .ok (.iconst 4, 1) := by decide +kernel
theorem dX7_isMet_31 : decode cX7_isMet 31 = .ok (.imul, 1) := by decide +kernel
theorem dX7_isMet_32 : decode cX7_isMet 32 = .ok (.ishl, 1) := by decide +kernel
theorem dX7_isMet_33 : decode cX7_isMet 33 = .ok (.ior, 1) := by decide +kernel
theorem dX7_isMet_34 : decode cX7_isMet 34 = .ok (.putfield 54, 3) := by decide +kernel
theorem dX7_isMet_37 : decode cX7_isMet 37 = .ok (.iload_n 3, 1) := by decide +kernel
theorem dX7_isMet_38 : decode cX7_isMet 38 = .ok (.ifCond .eq 7, 3) := by decide +kernel
theorem dX7_isMet_41 : decode cX7_isMet 41 = .ok (.iconst 1, 1) := by decide +kernel
theorem dX7_isMet_42 : decode cX7_isMet 42 = .ok (.goto 4, 3) := by decide +kernel
theorem dX7_isMet_45 : decode cX7_isMet 45 = .ok (.iconst 0, 1) := by decide +kernel
theorem dX7_isMet_46 : decode cX7_isMet 46 = .ok (.ireturn, 1) := by decide +kernel
def wp_X7_isMet_46 (h : Nat) (s0 : Int32) (S : xm_S) (g : Int32 → xm_S → Prop) : Prop :=
  (s0 = 0 ∨ s0 = 1) ∧ g s0 S
set_option maxRecDepth 100000 in
set_option maxHeartbeats 4000000 in
theorem kp_X7_isMet_46 {K : xm_K} (h : Nat) (s0 : Int32) (S : xm_S) {g : Int32 → xm_S → Prop} (C : xm_Cx K cX7_isMet RX7 4 (some (FieldType.boolean)) rm_X7_isMet) (N : xm_Nx K) (hg : ∀ v S, g v S → xm_q K (some (xm_i v)) S)  (h1 : wp_X7_isMet_46 h s0 S g) : xm_W K 0 0 46 [] [xm_i s0] S := by
  unfold wp_X7_isMet_46 at h1
  exact x_zret C (Nat.le_of_ble_eq_true rfl) (Nat.le_of_ble_eq_true rfl) rfl h1.1 dX7_isMet_46 (hg _ _ h1.2)
def wp_X7_isMet (h : Nat) (x1 : Option Nat) (x2 : Int32) (S : xm_S) (g : Int32 → xm_S → Prop) : Prop :=
  ∃ n1, x1 = some n1 ∧ st_t S n1 = some (4, 0) ∧ ∀ y4, y4 = ((st_i S n1 5) &&& x2) → st_t S h = some (7, 0) ∧ ∀ S7, S7 = st_pi S h 12 ((st_i S h 12) ||| y4) → ∃ n9, x1 = some n9 ∧ st_t S7 n9 = some (4, 0) ∧ ∃ n12, x1 = some n12 ∧ st_t S7 n12 = some (4, 0) ∧ ∀ S15, S15 = st_pi S7 h 13 ((st_i S7 h 13) ||| ((st_i S7 n9 2) <<< (((st_i S7 n12 0) * (nI 4)) &&& 31))) → (y4 = 0 → wp_X7_isMet_46 h (0 : Int32) S15 g) ∧ (¬ y4 = 0 → wp_X7_isMet_46 h (1 : Int32) S15 g)
set_option maxRecDepth 100000 in
set_option maxHeartbeats 4000000 in
theorem kp_X7_isMet {K : xm_K} (h : Nat) (x1 : Option Nat) (x2 : Int32) (S : xm_S) {g : Int32 → xm_S → Prop} (C : xm_Cx K cX7_isMet RX7 4 (some (FieldType.boolean)) rm_X7_isMet) (N : xm_Nx K) (hg : ∀ v S, g v S → xm_q K (some (xm_i v)) S)  (h1 : wp_X7_isMet h x1 x2 S g) : xm_W K 0 0 0 [(0, xm_r (some h)), (1, xm_r x1), (2, xm_i x2)] [] S := by
  unfold wp_X7_isMet at h1
  refine x_aload_n C 1 dX7_isMet_0 rfl rfl ?_
  obtain ⟨n1, hr2, h1⟩ := h1
  obtain ⟨ht3, h1⟩ := h1
  refine x_getf_i (n := n1) C hr2 ht3 fd_48 (by decide) dX7_isMet_1 ?_
  refine x_iload_n C 2 dX7_isMet_4 rfl rfl ?_
  refine x_iand C dX7_isMet_5 ?_
  refine x_topi (fun y4 e5 => ?_)
  have h1 := h1 y4 e5
  refine x_istore_n (L' := [(3, xm_i y4), (0, xm_r (some h)), (1, xm_r x1), (2, xm_i x2)]) C dX7_isMet_6 rfl (by decide) rfl ?_
  refine x_aload_n C 1 dX7_isMet_7 rfl rfl ?_
  refine x_dup_r C dX7_isMet_8 ?_
  obtain ⟨ht6, h1⟩ := h1
  refine x_getf_i (n := h) C rfl ht6 fd_49 (by decide) dX7_isMet_9 ?_
  refine x_iload_n C 0 dX7_isMet_12 rfl rfl ?_
  refine x_ior C dX7_isMet_13 ?_
  refine x_putf_i (n := h) C rfl ht6 fd_49 xc_7 (by decide) rfl ⟨rfl, rfl⟩ dX7_isMet_14 ?_
  refine x_topS (fun S7 e8 => ?_)
  have h1 := h1 S7 e8
  refine x_aload_n C 1 dX7_isMet_17 rfl rfl ?_
  refine x_dup_r C dX7_isMet_18 ?_
  refine x_getf_i (n := h) C rfl (tk_p e8 ht6) fd_50 (by decide) dX7_isMet_19 ?_
  refine x_aload_n C 2 dX7_isMet_22 rfl rfl ?_
  obtain ⟨n9, hr10, h1⟩ := h1
  obtain ⟨ht11, h1⟩ := h1
  refine x_getf_i (n := n9) C hr10 ht11 fd_51 (by decide) dX7_isMet_23 ?_
  refine x_aload_n C 2 dX7_isMet_26 rfl rfl ?_
  obtain ⟨n12, hr13, h1⟩ := h1
  obtain ⟨ht14, h1⟩ := h1
  refine x_getf_i (n := n12) C hr13 ht14 fd_52 (by decide) dX7_isMet_27 ?_
  refine x_iconst (v := (nI 4)) C dX7_isMet_30 (by decide) ?_
  refine x_imul C dX7_isMet_31 ?_
  refine x_ishl C dX7_isMet_32 ?_
  refine x_ior C dX7_isMet_33 ?_
  refine x_putf_i (n := h) C rfl (tk_p e8 ht6) fd_50 xc_7 (by decide) rfl ⟨rfl, rfl⟩ dX7_isMet_34 ?_
  refine x_topS (fun S15 e16 => ?_)
  have h1 := h1 S15 e16
  refine x_iload_n C 0 dX7_isMet_37 rfl rfl ?_
  refine x_if_eq (tgt := 45) C dX7_isMet_38 (by decide) (fun z9 => ?_) (fun z9 => ?_)
  · have h1 := h1.1 z9
    refine x_iconst (v := (0 : Int32)) C dX7_isMet_45 (by decide) ?_
    refine x_keep (L' := []) C [] rfl ?_
    exact kp_X7_isMet_46 h (0 : Int32) S15 C N hg  h1
  · have h1 := h1.2 z9
    refine x_iconst (v := (1 : Int32)) C dX7_isMet_41 (by decide) ?_
    refine x_goto (tgt := 46) C dX7_isMet_42 (by decide) ?_
    refine x_keep (L' := []) C [] rfl ?_
    exact kp_X7_isMet_46 h (1 : Int32) S15 C N hg  h1
theorem kp_X7_isMet_met {h : Nat} {x1 : Option Nat} {x2 : Int32} {S : xm_S} {g : Int32 → xm_S → Prop}  (h1 : wp_X7_isMet h x1 x2 S g) : xm_Met yX7_isMet cX7_isMet 4 (some (FieldType.boolean)) rm_X7_isMet [xm_r (some h), xm_r x1, xm_i x2] S (xm_qi g) xm_nox :=
  xm_ofW RX7 (by decide +kernel) rfl (Nat.le_of_ble_eq_true rfl) (fun K C N hq hx hi => kp_X7_isMet h x1 x2 S C N (fun v S h => by rw [hq]; exact ⟨v, rfl, h⟩)  h1)
def rm_X7_hasNeedsMet : Room := { frames := 2, cells := 0, slots := 0, locals := 43 }
theorem dX7_hasNeedsMet_0 : decode cX7_hasNeedsMet 0 = .ok (.aload_n 0, 1) := by decide +kernel
theorem dX7_hasNeedsMet_1 : decode cX7_hasNeedsMet 1 = .ok (.getfield 9, 3) := by decide +kernel
theorem dX7_hasNeedsMet_4 : decode cX7_hasNeedsMet 4 = .ok (.iload_n 1, 1) := by decide +kernel
theorem dX7_hasNeedsMet_5 : decode cX7_hasNeedsMet 5 = .ok (.aaload, 1) := by decide +kernel
theorem dX7_hasNeedsMet_6 : decode cX7_hasNeedsMet 6 = .ok (.getfield 83, 3) := by decide +kernel
theorem dX7_hasNeedsMet_9 : decode cX7_hasNeedsMet 9 = .ok (.aload_n 0, 1) := by decide +kernel
theorem dX7_hasNeedsMet_10 : decode cX7_hasNeedsMet 10 = .ok (.getfield 45, 3) := by decide +kernel
theorem dX7_hasNeedsMet_13 : decode cX7_hasNeedsMet 13 = .ok (.iload_n 1, 1) := by decide +kernel
theorem dX7_hasNeedsMet_14 : decode cX7_hasNeedsMet 14 = .ok (.iaload, 1) := by decide +kernel
theorem dX7_hasNeedsMet_15 : decode cX7_hasNeedsMet 15 = .ok (.aaload, 1) := by decide +kernel
theorem dX7_hasNeedsMet_16 : decode cX7_hasNeedsMet 16 = .ok (.astore_n 3, 1) := by decide +kernel
theorem dX7_hasNeedsMet_17 : decode cX7_hasNeedsMet 17 = .ok (.iconst 0, 1) := by decide +kernel
theorem dX7_hasNeedsMet_18 : decode cX7_hasNeedsMet 18 = .ok (.istore 4, 2) := by decide +kernel
theorem dX7_hasNeedsMet_20 : decode cX7_hasNeedsMet 20 = .ok (.iload 4, 2) := by decide +kernel
theorem dX7_hasNeedsMet_22 : decode cX7_hasNeedsMet 22 = .ok (.aload_n 3, 1) := by decide +kernel
theorem dX7_hasNeedsMet_23 : decode cX7_hasNeedsMet 23 = .ok (.getfield 87, 3) := by decide +kernel
theorem dX7_hasNeedsMet_26 : decode cX7_hasNeedsMet 26 = .ok (.if_icmp .ge 85, 3) := by decide +kernel
theorem dX7_hasNeedsMet_29 : decode cX7_hasNeedsMet 29 = .ok (.aload_n 3, 1) := by decide +kernel
theorem dX7_hasNeedsMet_30 : decode cX7_hasNeedsMet 30 = .ok (.getfield 92, 3) := by decide +kernel
theorem dX7_hasNeedsMet_33 : decode cX7_hasNeedsMet 33 = .ok (.iload 4, 2) := by decide +kernel
theorem dX7_hasNeedsMet_35 : decode cX7_hasNeedsMet 35 = .ok (.aaload, 1) := by decide +kernel
theorem dX7_hasNeedsMet_36 : decode cX7_hasNeedsMet 36 = .ok (.astore 5, 2) := by decide +kernel
theorem dX7_hasNeedsMet_38 : decode cX7_hasNeedsMet 38 = .ok (.aload_n 0, 1) := by decide +kernel
theorem dX7_hasNeedsMet_39 : decode cX7_hasNeedsMet 39 = .ok (.getfield 54, 3) := by decide +kernel
theorem dX7_hasNeedsMet_42 : decode cX7_hasNeedsMet 42 = .ok (.iload_n 1, 1) := by decide +kernel
theorem dX7_hasNeedsMet_43 : decode cX7_hasNeedsMet 43 = .ok (.iconst 4, 1) := by decide +kernel
theorem dX7_hasNeedsMet_44 : decode cX7_hasNeedsMet 44 = .ok (.imul, 1) := by decide +kernel
theorem dX7_hasNeedsMet_45 : decode cX7_hasNeedsMet 45 = .ok (.ishr, 1) := by decide +kernel
theorem dX7_hasNeedsMet_46 : decode cX7_hasNeedsMet 46 = .ok (.istore 6, 2) := by decide +kernel
theorem dX7_hasNeedsMet_48 : decode cX7_hasNeedsMet 48 = .ok (.aload 5, 2) := by decide +kernel
theorem dX7_hasNeedsMet_50 : decode cX7_hasNeedsMet 50 = .ok (.getfield 192, 3) := by decide +kernel
theorem dX7_hasNeedsMet_53 : decode cX7_hasNeedsMet 53 = .ok (.iconst (-1), 1) := by decide +kernel
theorem dX7_hasNeedsMet_54 : decode cX7_hasNeedsMet 54 = .ok (.if_icmp .eq 14, 3) := by decide +kernel
theorem dX7_hasNeedsMet_57 : decode cX7_hasNeedsMet 57 = .ok (.iload 6, 2) := by decide +kernel
theorem dX7_hasNeedsMet_59 : decode cX7_hasNeedsMet 59 = .ok (.aload 5, 2) := by decide +kernel
theorem dX7_hasNeedsMet_61 : decode cX7_hasNeedsMet 61 = .ok (.getfield 192, 3) := by decide +kernel
theorem dX7_hasNeedsMet_64 : decode cX7_hasNeedsMet 64 = .ok (.iand, 1) := by decide +kernel
theorem dX7_hasNeedsMet_65 : decode cX7_hasNeedsMet 65 = .ok (.ifCond .eq 7, 3) := by decide +kernel
theorem dX7_hasNeedsMet_68 : decode cX7_hasNeedsMet 68 = .ok (.iconst 1, 1) := by decide +kernel
theorem dX7_hasNeedsMet_69 : decode cX7_hasNeedsMet 69 = .ok (.goto 4, 3) := by decide +kernel
theorem dX7_hasNeedsMet_72 : decode cX7_hasNeedsMet 72 = .ok (.iconst 0, 1) := by decide +kernel
theorem dX7_hasNeedsMet_73 : decode cX7_hasNeedsMet 73 = .ok (.istore 7, 2) := by decide +kernel
theorem dX7_hasNeedsMet_75 : decode cX7_hasNeedsMet 75 = .ok (.iload 7, 2) := by decide +kernel
theorem dX7_hasNeedsMet_77 : decode cX7_hasNeedsMet 77 = .ok (.ifCond .eq 28, 3) := by decide +kernel
theorem dX7_hasNeedsMet_80 : decode cX7_hasNeedsMet 80 = .ok (.aload 5, 2) := by decide +kernel
theorem dX7_hasNeedsMet_82 : decode cX7_hasNeedsMet 82 = .ok (.getfield 161, 3) := by decide +kernel
theorem dX7_hasNeedsMet_85 : decode cX7_hasNeedsMet 85 = .ok (.aload_n 0, 1) := by decide +kernel
theorem dX7_hasNeedsMet_86 : decode cX7_hasNeedsMet 86 = .ok (.getfield 23, 3) := by decide +kernel
theorem dX7_hasNeedsMet_89 : decode cX7_hasNeedsMet 89 = .ok (.iand, 1) := by decide +kernel
theorem dX7_hasNeedsMet_90 : decode cX7_hasNeedsMet 90 = .ok (.ifCond .eq 15, 3) := by decide +kernel
theorem dX7_hasNeedsMet_93 : decode cX7_hasNeedsMet 93 = .ok (.aload_n 0, 1) := by decide +kernel
theorem dX7_hasNeedsMet_94 : decode cX7_hasNeedsMet 94 = .ok (.aload 5, 2) := by decide +kernel
theorem dX7_hasNeedsMet_96 : decode cX7_hasNeedsMet 96 = .ok (.iload_n 2, 1) := by decide +kernel
theorem dX7_hasNeedsMet_97 : decode cX7_hasNeedsMet 97 = .ok (.invokevirtual 181, 3) := by decide +kernel
theorem dX7_hasNeedsMet_100 : decode cX7_hasNeedsMet 100 = .ok (.ifCond .ne 5, 3) := by decide +kernel
theorem dX7_hasNeedsMet_103 : decode cX7_hasNeedsMet 103 = .ok (.iconst 0, 1) := by decide +kernel
theorem dX7_hasNeedsMet_104 : decode cX7_hasNeedsMet 104 = .ok (.ireturn, 1) := by decide +kernel
theorem dX7_hasNeedsMet_105 : decode cX7_hasNeedsMet 105 = .ok (.iinc 4 1, 3) := by decide +kernel
theorem dX7_hasNeedsMet_108 : decode cX7_hasNeedsMet 108 = .ok (.goto (-88), 3) := by decide +kernel
theorem dX7_hasNeedsMet_111 : decode cX7_hasNeedsMet 111 = .ok (.iconst 1, 1) := by decide +kernel
theorem dX7_hasNeedsMet_112 : decode cX7_hasNeedsMet 112 = .ok (.ireturn, 1) := by decide +kernel
def wp_X7_hasNeedsMet_105 (h : Nat) (x1 : Int32) (x2 : Int32) (x3 : Option Nat) (x4 : Int32) (S : xm_S) (g : Int32 → xm_S → Prop) (Z20 : Int32 → Int32 → Option Nat → Int32 → xm_S → Prop) : Prop :=
  ∀ y1, y1 = (x4 + (1 : Int32)) → Z20 x1 x2 x3 y1 S
set_option maxRecDepth 100000 in
set_option maxHeartbeats 4000000 in
theorem kp_X7_hasNeedsMet_105 {K : xm_K} (h : Nat) (x1 : Int32) (x2 : Int32) (x3 : Option Nat) (x4 : Int32) (S : xm_S) {g : Int32 → xm_S → Prop} {Z20 : Int32 → Int32 → Option Nat → Int32 → xm_S → Prop} (C : xm_Cx K cX7_hasNeedsMet RX7 8 (some (FieldType.boolean)) rm_X7_hasNeedsMet) (N : xm_Nx K) (hg : ∀ v S, g v S → xm_q K (some (xm_i v)) S) (hZ20 : ∀ x1 x2 x3 x4 S, Z20 x1 x2 x3 x4 S → xm_W K 0 0 20 [(0, xm_r (some h)), (1, xm_i x1), (2, xm_i x2), (3, xm_r x3), (4, xm_i x4)] [] S) (h1 : wp_X7_hasNeedsMet_105 h x1 x2 x3 x4 S g Z20) : xm_W K 0 0 105 [(0, xm_r (some h)), (1, xm_i x1), (2, xm_i x2), (3, xm_r x3), (4, xm_i x4)] [] S := by
  unfold wp_X7_hasNeedsMet_105 at h1
  obtain ⟨y1, e2⟩ : ∃ y1, y1 = (x4 + (1 : Int32)) := ⟨_, rfl⟩
  have h1 := h1 y1 e2
  refine x_iinc (v := y1) (L' := [(4, xm_i y1), (0, xm_r (some h)), (1, xm_i x1), (2, xm_i x2), (3, xm_r x3)]) C 4 dX7_hasNeedsMet_105 rfl (by rw [e2]; rfl) (by decide) rfl ?_
  refine x_goto (tgt := 20) C dX7_hasNeedsMet_108 (by decide) ?_
  refine x_keep (L' := [(0, xm_r (some h)), (1, xm_i x1), (2, xm_i x2), (3, xm_r x3), (4, xm_i y1)]) C [1, 2, 3, 4, 0] rfl ?_
  exact hZ20 x1 x2 x3 y1 S h1
def wp_X7_hasNeedsMet_73 (h : Nat) (x1 : Int32) (x2 : Int32) (x3 : Option Nat) (x4 : Int32) (x5 : Option Nat) (s0 : Int32) (S : xm_S) (g : Int32 → xm_S → Prop) (Z20 : Int32 → Int32 → Option Nat → Int32 → xm_S → Prop) : Prop :=
  (s0 = 0 → wp_X7_hasNeedsMet_105 h x1 x2 x3 x4 S g Z20) ∧ (¬ s0 = 0 → ∃ n3, x5 = some n3 ∧ st_t S n3 = some (4, 0) ∧ st_t S h = some (7, 0) ∧ (((st_i S n3 3) &&& (st_i S h 3)) = 0 → wp_X7_hasNeedsMet_105 h x1 x2 x3 x4 S g Z20) ∧ (¬ ((st_i S n3 3) &&& (st_i S h 3)) = 0 → wp_X7_isMet h x5 x2 S (fun r8 S7 => (¬ r8 = 0 → wp_X7_hasNeedsMet_105 h x1 x2 x3 x4 S7 g Z20) ∧ (r8 = 0 → g (0 : Int32) S7))))
set_option maxRecDepth 100000 in
set_option maxHeartbeats 4000000 in
theorem kp_X7_hasNeedsMet_73 {K : xm_K} (h : Nat) (x1 : Int32) (x2 : Int32) (x3 : Option Nat) (x4 : Int32) (x5 : Option Nat) (s0 : Int32) (S : xm_S) {g : Int32 → xm_S → Prop} {Z20 : Int32 → Int32 → Option Nat → Int32 → xm_S → Prop} (C : xm_Cx K cX7_hasNeedsMet RX7 8 (some (FieldType.boolean)) rm_X7_hasNeedsMet) (N : xm_Nx K) (hg : ∀ v S, g v S → xm_q K (some (xm_i v)) S) (hZ20 : ∀ x1 x2 x3 x4 S, Z20 x1 x2 x3 x4 S → xm_W K 0 0 20 [(0, xm_r (some h)), (1, xm_i x1), (2, xm_i x2), (3, xm_r x3), (4, xm_i x4)] [] S) (h1 : wp_X7_hasNeedsMet_73 h x1 x2 x3 x4 x5 s0 S g Z20) : xm_W K 0 0 73 [(0, xm_r (some h)), (1, xm_i x1), (2, xm_i x2), (3, xm_r x3), (4, xm_i x4), (5, xm_r x5)] [xm_i s0] S := by
  unfold wp_X7_hasNeedsMet_73 at h1
  refine x_istore (L' := [(7, xm_i s0), (0, xm_r (some h)), (1, xm_i x1), (2, xm_i x2), (3, xm_r x3), (4, xm_i x4), (5, xm_r x5)]) C dX7_hasNeedsMet_73 (by decide) rfl ?_
  refine x_iload C 0 dX7_hasNeedsMet_75 rfl ?_
  refine x_if_eq (tgt := 105) C dX7_hasNeedsMet_77 (by decide) (fun z9 => ?_) (fun z9 => ?_)
  · have h1 := h1.1 z9
    refine x_keep (L' := [(0, xm_r (some h)), (1, xm_i x1), (2, xm_i x2), (3, xm_r x3), (4, xm_i x4)]) C [1, 2, 3, 4, 5] rfl ?_
    exact kp_X7_hasNeedsMet_105 h x1 x2 x3 x4 S C N hg hZ20 h1
  · have h1 := h1.2 z9
    refine x_aload C 6 dX7_hasNeedsMet_80 rfl ?_
    obtain ⟨n3, hr4, h1⟩ := h1
    obtain ⟨ht5, h1⟩ := h1
    refine x_getf_i (n := n3) C hr4 ht5 fd_53 (by decide) dX7_hasNeedsMet_82 ?_
    refine x_aload_n C 1 dX7_hasNeedsMet_85 rfl rfl ?_
    obtain ⟨ht6, h1⟩ := h1
    refine x_getf_i (n := h) C rfl ht6 fd_54 (by decide) dX7_hasNeedsMet_86 ?_
    refine x_iand C dX7_hasNeedsMet_89 ?_
    refine x_if_eq (tgt := 105) C dX7_hasNeedsMet_90 (by decide) (fun z9 => ?_) (fun z9 => ?_)
    · have h1 := h1.1 z9
      refine x_keep (L' := [(0, xm_r (some h)), (1, xm_i x1), (2, xm_i x2), (3, xm_r x3), (4, xm_i x4)]) C [1, 2, 3, 4, 5] rfl ?_
      exact kp_X7_hasNeedsMet_105 h x1 x2 x3 x4 S C N hg hZ20 h1
    · have h1 := h1.2 z9
      refine x_aload_n C 1 dX7_hasNeedsMet_93 rfl rfl ?_
      refine x_aload C 6 dX7_hasNeedsMet_94 rfl ?_
      refine x_iload_n C 3 dX7_hasNeedsMet_96 rfl rfl ?_
      refine x_callV (rm' := rm_X7_isMet) (n := h) C (kp_X7_isMet_met h1) lk_19 gw_153 gw_154 xv_7 rfl rfl ht6 rfl (Nat.le_of_ble_eq_true rfl) ⟨Nat.le_of_ble_eq_true rfl, Nat.le_of_ble_eq_true rfl, (Nat.le_of_ble_eq_true rfl), (Nat.le_of_ble_eq_true rfl)⟩ dX7_hasNeedsMet_97 xm_kx (xm_ki (fun r8 S7 h1 => ?_))
      refine x_if_ne (tgt := 105) C dX7_hasNeedsMet_100 (by decide) (fun z9 => ?_) (fun z9 => ?_)
      · have h1 := h1.1 z9
        refine x_keep (L' := [(0, xm_r (some h)), (1, xm_i x1), (2, xm_i x2), (3, xm_r x3), (4, xm_i x4)]) C [1, 2, 3, 4, 5] rfl ?_
        exact kp_X7_hasNeedsMet_105 h x1 x2 x3 x4 S7 C N hg hZ20 h1
      · have h1 := h1.2 z9
        refine x_iconst (v := (0 : Int32)) C dX7_hasNeedsMet_103 (by decide) ?_
        exact x_zret C (Nat.le_of_ble_eq_true rfl) (Nat.le_of_ble_eq_true rfl) rfl (by decide) dX7_hasNeedsMet_104 (hg _ _ h1)
def wp_X7_hasNeedsMet_68 (h : Nat) (x1 : Int32) (x2 : Int32) (x3 : Option Nat) (x4 : Int32) (x5 : Option Nat) (S : xm_S) (g : Int32 → xm_S → Prop) (Z20 : Int32 → Int32 → Option Nat → Int32 → xm_S → Prop) : Prop :=
  wp_X7_hasNeedsMet_73 h x1 x2 x3 x4 x5 (1 : Int32) S g Z20
set_option maxRecDepth 100000 in
set_option maxHeartbeats 4000000 in
theorem kp_X7_hasNeedsMet_68 {K : xm_K} (h : Nat) (x1 : Int32) (x2 : Int32) (x3 : Option Nat) (x4 : Int32) (x5 : Option Nat) (S : xm_S) {g : Int32 → xm_S → Prop} {Z20 : Int32 → Int32 → Option Nat → Int32 → xm_S → Prop} (C : xm_Cx K cX7_hasNeedsMet RX7 8 (some (FieldType.boolean)) rm_X7_hasNeedsMet) (N : xm_Nx K) (hg : ∀ v S, g v S → xm_q K (some (xm_i v)) S) (hZ20 : ∀ x1 x2 x3 x4 S, Z20 x1 x2 x3 x4 S → xm_W K 0 0 20 [(0, xm_r (some h)), (1, xm_i x1), (2, xm_i x2), (3, xm_r x3), (4, xm_i x4)] [] S) (h1 : wp_X7_hasNeedsMet_68 h x1 x2 x3 x4 x5 S g Z20) : xm_W K 0 0 68 [(0, xm_r (some h)), (1, xm_i x1), (2, xm_i x2), (3, xm_r x3), (4, xm_i x4), (5, xm_r x5)] [] S := by
  unfold wp_X7_hasNeedsMet_68 at h1
  refine x_iconst (v := (1 : Int32)) C dX7_hasNeedsMet_68 (by decide) ?_
  refine x_goto (tgt := 73) C dX7_hasNeedsMet_69 (by decide) ?_
  exact kp_X7_hasNeedsMet_73 h x1 x2 x3 x4 x5 (1 : Int32) S C N hg hZ20 h1
def wp_X7_hasNeedsMet_20B (h : Nat) (x1 : Int32) (x2 : Int32) (x3 : Option Nat) (x4 : Int32) (S : xm_S) (g : Int32 → xm_S → Prop) (Z20 : Int32 → Int32 → Option Nat → Int32 → xm_S → Prop) : Prop :=
  ∃ n9, x3 = some n9 ∧ st_t S n9 = some (10, 0) ∧ ((st_i S n9 7) ≤ x4 → g (1 : Int32) S) ∧ (¬ (st_i S n9 7) ≤ x4 → ∃ n12, x3 = some n12 ∧ st_t S n12 = some (10, 0) ∧ ∃ n15, (st_r S n12 6) = some n15 ∧ ∃ z18, st_t S n15 = some (114, z18) ∧ vp_in x4 z18 ∧ st_t S h = some (7, 0) ∧ ∀ y21, y21 = ((st_i S h 13) >>> ((x1 * (nI 4)) &&& 31)) → ∃ n23, (st_r S n15 (x4).toNatClampNeg) = some n23 ∧ st_t S n23 = some (4, 0) ∧ ((st_i S n23 4) = (-1 : Int32) → wp_X7_hasNeedsMet_68 h x1 x2 x3 x4 (st_r S n15 (x4).toNatClampNeg) S g Z20) ∧ (¬ (st_i S n23 4) = (-1 : Int32) → ∃ n26, (st_r S n15 (x4).toNatClampNeg) = some n26 ∧ st_t S n26 = some (4, 0) ∧ ((y21 &&& (st_i S n26 4)) = 0 → wp_X7_hasNeedsMet_73 h x1 x2 x3 x4 (st_r S n15 (x4).toNatClampNeg) (0 : Int32) S g Z20) ∧ (¬ (y21 &&& (st_i S n26 4)) = 0 → wp_X7_hasNeedsMet_68 h x1 x2 x3 x4 (st_r S n15 (x4).toNatClampNeg) S g Z20)))
def wp_X7_hasNeedsMet_20 (h : Nat) (x1 : Int32) (x2 : Int32) (x3 : Option Nat) (x4 : Int32) (S : xm_S) (g : Int32 → xm_S → Prop) : Prop :=
  ∀ Z20 : Int32 → Int32 → Option Nat → Int32 → xm_S → Prop, (∀ x1 x2 x3 x4 S, wp_X7_hasNeedsMet_20B h x1 x2 x3 x4 S g Z20 → Z20 x1 x2 x3 x4 S) → Z20 x1 x2 x3 x4 S
set_option maxRecDepth 100000 in
set_option maxHeartbeats 4000000 in
theorem kp_X7_hasNeedsMet_20B {K : xm_K} (h : Nat) (x1 : Int32) (x2 : Int32) (x3 : Option Nat) (x4 : Int32) (S : xm_S) {g : Int32 → xm_S → Prop} {Z20 : Int32 → Int32 → Option Nat → Int32 → xm_S → Prop} (C : xm_Cx K cX7_hasNeedsMet RX7 8 (some (FieldType.boolean)) rm_X7_hasNeedsMet) (N : xm_Nx K) (hg : ∀ v S, g v S → xm_q K (some (xm_i v)) S) (hZ20 : ∀ x1 x2 x3 x4 S, Z20 x1 x2 x3 x4 S → xm_W K 0 0 20 [(0, xm_r (some h)), (1, xm_i x1), (2, xm_i x2), (3, xm_r x3), (4, xm_i x4)] [] S) (h1 : wp_X7_hasNeedsMet_20B h x1 x2 x3 x4 S g Z20) : xm_W K 0 0 20 [(0, xm_r (some h)), (1, xm_i x1), (2, xm_i x2), (3, xm_r x3), (4, xm_i x4)] [] S := by
  unfold wp_X7_hasNeedsMet_20B at h1
  refine x_iload C 4 dX7_hasNeedsMet_20 rfl ?_
  refine x_aload_n C 3 dX7_hasNeedsMet_22 rfl rfl ?_
  obtain ⟨n9, hr10, h1⟩ := h1
  obtain ⟨ht11, h1⟩ := h1
  refine x_getf_i (n := n9) C hr10 ht11 fd_55 (by decide) dX7_hasNeedsMet_23 ?_
  refine x_icmp_ge (tgt := 111) C dX7_hasNeedsMet_26 (by decide) (fun z9 => ?_) (fun z9 => ?_)
  · have h1 := h1.1 z9
    refine x_iconst (v := (1 : Int32)) C dX7_hasNeedsMet_111 (by decide) ?_
    exact x_zret C (Nat.le_of_ble_eq_true rfl) (Nat.le_of_ble_eq_true rfl) rfl (by decide) dX7_hasNeedsMet_112 (hg _ _ h1)
  · have h1 := h1.2 z9
    refine x_aload_n C 3 dX7_hasNeedsMet_29 rfl rfl ?_
    obtain ⟨n12, hr13, h1⟩ := h1
    obtain ⟨ht14, h1⟩ := h1
    refine x_getf_r (n := n12) C hr13 ht14 fd_56 (by decide) dX7_hasNeedsMet_30 ?_
    refine x_iload C 4 dX7_hasNeedsMet_33 rfl ?_
    obtain ⟨n15, hr16, h1⟩ := h1
    obtain ⟨z18, ht17, h1⟩ := h1
    obtain ⟨hi19, h1⟩ := h1
    refine x_aald (n := n15) C hr16 (by decide) rfl ht17 hi19 dX7_hasNeedsMet_35 ?_
    refine x_astore (L' := [(5, xm_r (st_r S n15 (x4).toNatClampNeg)), (0, xm_r (some h)), (1, xm_i x1), (2, xm_i x2), (3, xm_r x3), (4, xm_i x4)]) C dX7_hasNeedsMet_36 (by decide) rfl ?_
    refine x_aload_n C 1 dX7_hasNeedsMet_38 rfl rfl ?_
    obtain ⟨ht20, h1⟩ := h1
    refine x_getf_i (n := h) C rfl ht20 fd_50 (by decide) dX7_hasNeedsMet_39 ?_
    refine x_iload_n C 2 dX7_hasNeedsMet_42 rfl rfl ?_
    refine x_iconst (v := (nI 4)) C dX7_hasNeedsMet_43 (by decide) ?_
    refine x_imul C dX7_hasNeedsMet_44 ?_
    refine x_ishr C dX7_hasNeedsMet_45 ?_
    refine x_topi (fun y21 e22 => ?_)
    have h1 := h1 y21 e22
    refine x_istore (L' := [(6, xm_i y21), (5, xm_r (st_r S n15 (x4).toNatClampNeg)), (0, xm_r (some h)), (1, xm_i x1), (2, xm_i x2), (3, xm_r x3), (4, xm_i x4)]) C dX7_hasNeedsMet_46 (by decide) rfl ?_
    refine x_aload C 1 dX7_hasNeedsMet_48 rfl ?_
    obtain ⟨n23, hr24, h1⟩ := h1
    obtain ⟨ht25, h1⟩ := h1
    refine x_getf_i (n := n23) C hr24 ht25 fd_57 (by decide) dX7_hasNeedsMet_50 ?_
    refine x_iconst (v := (-1 : Int32)) C dX7_hasNeedsMet_53 (by decide) ?_
    refine x_icmp_eq (tgt := 68) C dX7_hasNeedsMet_54 (by decide) (fun z9 => ?_) (fun z9 => ?_)
    · have h1 := h1.1 z9
      refine x_keep (L' := [(0, xm_r (some h)), (1, xm_i x1), (2, xm_i x2), (3, xm_r x3), (4, xm_i x4), (5, xm_r (st_r S n15 (x4).toNatClampNeg))]) C [2, 3, 4, 5, 6, 1] rfl ?_
      exact kp_X7_hasNeedsMet_68 h x1 x2 x3 x4 (st_r S n15 (x4).toNatClampNeg) S C N hg hZ20 h1
    · have h1 := h1.2 z9
      refine x_iload C 0 dX7_hasNeedsMet_57 rfl ?_
      refine x_aload C 1 dX7_hasNeedsMet_59 rfl ?_
      obtain ⟨n26, hr27, h1⟩ := h1
      obtain ⟨ht28, h1⟩ := h1
      refine x_getf_i (n := n26) C hr27 ht28 fd_57 (by decide) dX7_hasNeedsMet_61 ?_
      refine x_iand C dX7_hasNeedsMet_64 ?_
      refine x_if_eq (tgt := 72) C dX7_hasNeedsMet_65 (by decide) (fun z9 => ?_) (fun z9 => ?_)
      · have h1 := h1.1 z9
        refine x_iconst (v := (0 : Int32)) C dX7_hasNeedsMet_72 (by decide) ?_
        refine x_keep (L' := [(0, xm_r (some h)), (1, xm_i x1), (2, xm_i x2), (3, xm_r x3), (4, xm_i x4), (5, xm_r (st_r S n15 (x4).toNatClampNeg))]) C [2, 3, 4, 5, 6, 1] rfl ?_
        exact kp_X7_hasNeedsMet_73 h x1 x2 x3 x4 (st_r S n15 (x4).toNatClampNeg) (0 : Int32) S C N hg hZ20 h1
      · have h1 := h1.2 z9
        refine x_keep (L' := [(0, xm_r (some h)), (1, xm_i x1), (2, xm_i x2), (3, xm_r x3), (4, xm_i x4), (5, xm_r (st_r S n15 (x4).toNatClampNeg))]) C [2, 3, 4, 5, 6, 1] rfl ?_
        exact kp_X7_hasNeedsMet_68 h x1 x2 x3 x4 (st_r S n15 (x4).toNatClampNeg) S C N hg hZ20 h1
theorem kp_X7_hasNeedsMet_20 {K : xm_K} (h : Nat) (x1 : Int32) (x2 : Int32) (x3 : Option Nat) (x4 : Int32) (S : xm_S) {g : Int32 → xm_S → Prop} (C : xm_Cx K cX7_hasNeedsMet RX7 8 (some (FieldType.boolean)) rm_X7_hasNeedsMet) (N : xm_Nx K) (hg : ∀ v S, g v S → xm_q K (some (xm_i v)) S)  (h1 : wp_X7_hasNeedsMet_20 h x1 x2 x3 x4 S g) : xm_W K 0 0 20 [(0, xm_r (some h)), (1, xm_i x1), (2, xm_i x2), (3, xm_r x3), (4, xm_i x4)] [] S :=
  h1 (fun x1 x2 x3 x4 S => xm_W K 0 0 20 [(0, xm_r (some h)), (1, xm_i x1), (2, xm_i x2), (3, xm_r x3), (4, xm_i x4)] [] S) (fun x1 x2 x3 x4 S hb => kp_X7_hasNeedsMet_20B h x1 x2 x3 x4 S C N hg (fun x1 x2 x3 x4 S hz => hz) hb)
def wp_X7_hasNeedsMet (h : Nat) (x1 : Int32) (x2 : Int32) (S : xm_S) (g : Int32 → xm_S → Prop) : Prop :=
  st_t S h = some (7, 0) ∧ ∃ n30, (st_r S h 0) = some n30 ∧ ∃ z33, st_t S n30 = some (115, z33) ∧ vp_in x1 z33 ∧ ∃ n35, (st_r S n30 (x1).toNatClampNeg) = some n35 ∧ st_t S n35 = some (5, 0) ∧ ∃ n38, (st_r S h 10) = some n38 ∧ ∃ z41, st_t S n38 = some (100, z41) ∧ vp_in x1 z41 ∧ ∃ n43, (st_r S n35 1) = some n43 ∧ ∃ z46, st_t S n43 = some (120, z46) ∧ vp_in (st_i S n38 (x1).toNatClampNeg) z46 ∧ wp_X7_hasNeedsMet_20 h x1 x2 (st_r S n43 ((st_i S n38 (x1).toNatClampNeg)).toNatClampNeg) (0 : Int32) S g
set_option maxRecDepth 100000 in
set_option maxHeartbeats 4000000 in
theorem kp_X7_hasNeedsMet {K : xm_K} (h : Nat) (x1 : Int32) (x2 : Int32) (S : xm_S) {g : Int32 → xm_S → Prop} (C : xm_Cx K cX7_hasNeedsMet RX7 8 (some (FieldType.boolean)) rm_X7_hasNeedsMet) (N : xm_Nx K) (hg : ∀ v S, g v S → xm_q K (some (xm_i v)) S)  (h1 : wp_X7_hasNeedsMet h x1 x2 S g) : xm_W K 0 0 0 [(0, xm_r (some h)), (1, xm_i x1), (2, xm_i x2)] [] S := by
  unfold wp_X7_hasNeedsMet at h1
  refine x_aload_n C 0 dX7_hasNeedsMet_0 rfl rfl ?_
  obtain ⟨ht29, h1⟩ := h1
  refine x_getf_r (n := h) C rfl ht29 fd_58 (by decide) dX7_hasNeedsMet_1 ?_
  refine x_iload_n C 1 dX7_hasNeedsMet_4 rfl rfl ?_
  obtain ⟨n30, hr31, h1⟩ := h1
  obtain ⟨z33, ht32, h1⟩ := h1
  obtain ⟨hi34, h1⟩ := h1
  refine x_aald (n := n30) C hr31 (by decide) rfl ht32 hi34 dX7_hasNeedsMet_5 ?_
  obtain ⟨n35, hr36, h1⟩ := h1
  obtain ⟨ht37, h1⟩ := h1
  refine x_getf_r (n := n35) C hr36 ht37 fd_59 (by decide) dX7_hasNeedsMet_6 ?_
  refine x_aload_n C 0 dX7_hasNeedsMet_9 rfl rfl ?_
  refine x_getf_r (n := h) C rfl ht29 fd_60 (by decide) dX7_hasNeedsMet_10 ?_
  refine x_iload_n C 1 dX7_hasNeedsMet_13 rfl rfl ?_
  obtain ⟨n38, hr39, h1⟩ := h1
  obtain ⟨z41, ht40, h1⟩ := h1
  obtain ⟨hi42, h1⟩ := h1
  refine x_iald (n := n38) C hr39 ht40 hi42 dX7_hasNeedsMet_14 ?_
  obtain ⟨n43, hr44, h1⟩ := h1
  obtain ⟨z46, ht45, h1⟩ := h1
  obtain ⟨hi47, h1⟩ := h1
  refine x_aald (n := n43) C hr44 (by decide) rfl ht45 hi47 dX7_hasNeedsMet_15 ?_
  refine x_astore_n (L' := [(3, xm_r (st_r S n43 ((st_i S n38 (x1).toNatClampNeg)).toNatClampNeg)), (0, xm_r (some h)), (1, xm_i x1), (2, xm_i x2)]) C dX7_hasNeedsMet_16 rfl (by decide) rfl ?_
  refine x_iconst (v := (0 : Int32)) C dX7_hasNeedsMet_17 (by decide) ?_
  refine x_istore (L' := [(4, xm_i (0 : Int32)), (3, xm_r (st_r S n43 ((st_i S n38 (x1).toNatClampNeg)).toNatClampNeg)), (0, xm_r (some h)), (1, xm_i x1), (2, xm_i x2)]) C dX7_hasNeedsMet_18 (by decide) rfl ?_
  refine x_keep (L' := [(0, xm_r (some h)), (1, xm_i x1), (2, xm_i x2), (3, xm_r (st_r S n43 ((st_i S n38 (x1).toNatClampNeg)).toNatClampNeg)), (4, xm_i (0 : Int32))]) C [2, 3, 4, 1, 0] rfl ?_
  exact kp_X7_hasNeedsMet_20 h x1 x2 (st_r S n43 ((st_i S n38 (x1).toNatClampNeg)).toNatClampNeg) (0 : Int32) S C N hg  h1
theorem kp_X7_hasNeedsMet_met {h : Nat} {x1 : Int32} {x2 : Int32} {S : xm_S} {g : Int32 → xm_S → Prop}  (h1 : wp_X7_hasNeedsMet h x1 x2 S g) : xm_Met yX7_hasNeedsMet cX7_hasNeedsMet 8 (some (FieldType.boolean)) rm_X7_hasNeedsMet [xm_r (some h), xm_i x1, xm_i x2] S (xm_qi g) xm_nox :=
  xm_ofW RX7 (by decide +kernel) rfl (Nat.le_of_ble_eq_true rfl) (fun K C N hq hx hi => kp_X7_hasNeedsMet h x1 x2 S C N (fun v S h => by rw [hq]; exact ⟨v, rfl, h⟩)  h1)
def rm_X7_bitOf : Room := { frames := 1, cells := 0, slots := 0, locals := 20 }
theorem dX7_bitOf_0 : decode cX7_bitOf 0 = .ok (.iconst 1, 1) := by decide +kernel
theorem dX7_bitOf_1 : decode cX7_bitOf 1 = .ok (.iload_n 0, 1) := by decide +kernel
theorem dX7_bitOf_2 : decode cX7_bitOf 2 = .ok (.iconst 4, 1) := by decide +kernel
theorem dX7_bitOf_3 : decode cX7_bitOf 3 = .ok (.imul, 1) := by decide +kernel
theorem dX7_bitOf_4 : decode cX7_bitOf 4 = .ok (.iload_n 1, 1) := by decide +kernel
theorem dX7_bitOf_5 : decode cX7_bitOf 5 = .ok (.iadd, 1) := by decide +kernel
theorem dX7_bitOf_6 : decode cX7_bitOf 6 = .ok (.ishl, 1) := by decide +kernel
theorem dX7_bitOf_7 : decode cX7_bitOf 7 = .ok (.ireturn, 1) := by decide +kernel
def wp_X7_bitOf (x0 : Int32) (x1 : Int32) (S : xm_S) (g : Int32 → xm_S → Prop) : Prop :=
  g ((1 : Int32) <<< (((x0 * (nI 4)) + x1) &&& 31)) S
set_option maxRecDepth 100000 in
set_option maxHeartbeats 4000000 in
theorem kp_X7_bitOf {K : xm_K} (x0 : Int32) (x1 : Int32) (S : xm_S) {g : Int32 → xm_S → Prop} (C : xm_Cx K cX7_bitOf RX7 2 (some (FieldType.int)) rm_X7_bitOf) (N : xm_Nx K) (hg : ∀ v S, g v S → xm_q K (some (xm_i v)) S)  (h1 : wp_X7_bitOf x0 x1 S g) : xm_W K 0 0 0 [(0, xm_i x0), (1, xm_i x1)] [] S := by
  unfold wp_X7_bitOf at h1
  refine x_iconst (v := (1 : Int32)) C dX7_bitOf_0 (by decide) ?_
  refine x_iload_n C 0 dX7_bitOf_1 rfl rfl ?_
  refine x_iconst (v := (nI 4)) C dX7_bitOf_2 (by decide) ?_
  refine x_imul C dX7_bitOf_3 ?_
  refine x_iload_n C 1 dX7_bitOf_4 rfl rfl ?_
  refine x_iadd C dX7_bitOf_5 ?_
  refine x_ishl C dX7_bitOf_6 ?_
  exact x_iret C (Nat.le_of_ble_eq_true rfl) (Nat.le_of_ble_eq_true rfl) rfl dX7_bitOf_7 (hg _ _ h1)
theorem kp_X7_bitOf_met {x0 : Int32} {x1 : Int32} {S : xm_S} {g : Int32 → xm_S → Prop}  (h1 : wp_X7_bitOf x0 x1 S g) : xm_Met yX7_bitOf cX7_bitOf 2 (some (FieldType.int)) rm_X7_bitOf [xm_i x0, xm_i x1] S (xm_qi g) xm_nox :=
  xm_ofW RX7 (by decide +kernel) rfl (Nat.le_of_ble_eq_true rfl) (fun K C N hq hx hi => kp_X7_bitOf x0 x1 S C N (fun v S h => by rw [hq]; exact ⟨v, rfl, h⟩)  h1)
def rm_X7_isReached : Room := { frames := 2, cells := 0, slots := 0, locals := 41 }
theorem dX7_isReached_0 : decode cX7_isReached 0 = .ok (.aload_n 0, 1) := by decide +kernel
theorem dX7_isReached_1 : decode cX7_isReached 1 = .ok (.getfield 45, 3) := by decide +kernel
theorem dX7_isReached_4 : decode cX7_isReached 4 = .ok (.iload_n 1, 1) := by decide +kernel
theorem dX7_isReached_5 : decode cX7_isReached 5 = .ok (.iaload, 1) := by decide +kernel
theorem dX7_isReached_6 : decode cX7_isReached 6 = .ok (.iconst (-1), 1) := by decide +kernel
theorem dX7_isReached_7 : decode cX7_isReached 7 = .ok (.if_icmp .eq 25, 3) := by decide +kernel
theorem dX7_isReached_10 : decode cX7_isReached 10 = .ok (.aload_n 0, 1) := by decide +kernel
theorem dX7_isReached_11 : decode cX7_isReached 11 = .ok (.getfield 51, 3) := by decide +kernel
theorem dX7_isReached_14 : decode cX7_isReached 14 = .ok (.iload_n 1, 1) := by decide +kernel
theorem dX7_isReached_15 : decode cX7_isReached 15 = .ok (.aload_n 0, 1) := by decide +kernel
theorem dX7_isReached_16 : decode cX7_isReached 16 = .ok (.getfield 45, 3) := by decide +kernel
theorem dX7_isReached_19 : decode cX7_isReached 19 = .ok (.iload_n 1, 1) := by decide +kernel
theorem dX7_isReached_20 : decode cX7_isReached 20 = .ok (.iaload, 1) := by decide +kernel
theorem dX7_isReached_21 : decode cX7_isReached 21 = .ok (.invokestatic 109, 3) := by decide +kernel
theorem dX7_isReached_24 : decode cX7_isReached 24 = .ok (.iand, 1) := by decide +kernel
theorem dX7_isReached_25 : decode cX7_isReached 25 = .ok (.ifCond .eq 7, 3) := by decide +kernel
theorem dX7_isReached_28 : decode cX7_isReached 28 = .ok (.iconst 1, 1) := by decide +kernel
theorem dX7_isReached_29 : decode cX7_isReached 29 = .ok (.goto 4, 3) := by decide +kernel
theorem dX7_isReached_32 : decode cX7_isReached 32 = .ok (.iconst 0, 1) := by decide +kernel
theorem dX7_isReached_33 : decode cX7_isReached 33 = .ok (.ireturn, 1) := by decide +kernel
def wp_X7_isReached_33 (h : Nat) (s0 : Int32) (S : xm_S) (g : Int32 → xm_S → Prop) : Prop :=
  (s0 = 0 ∨ s0 = 1) ∧ g s0 S
set_option maxRecDepth 100000 in
set_option maxHeartbeats 4000000 in
theorem kp_X7_isReached_33 {K : xm_K} (h : Nat) (s0 : Int32) (S : xm_S) {g : Int32 → xm_S → Prop} (C : xm_Cx K cX7_isReached RX7 2 (some (FieldType.boolean)) rm_X7_isReached) (N : xm_Nx K) (hg : ∀ v S, g v S → xm_q K (some (xm_i v)) S)  (h1 : wp_X7_isReached_33 h s0 S g) : xm_W K 0 0 33 [] [xm_i s0] S := by
  unfold wp_X7_isReached_33 at h1
  exact x_zret C (Nat.le_of_ble_eq_true rfl) (Nat.le_of_ble_eq_true rfl) rfl h1.1 dX7_isReached_33 (hg _ _ h1.2)
def wp_X7_isReached_32 (h : Nat)  (S : xm_S) (g : Int32 → xm_S → Prop) : Prop :=
  wp_X7_isReached_33 h (0 : Int32) S g
set_option maxRecDepth 100000 in
set_option maxHeartbeats 4000000 in
theorem kp_X7_isReached_32 {K : xm_K} (h : Nat)  (S : xm_S) {g : Int32 → xm_S → Prop} (C : xm_Cx K cX7_isReached RX7 2 (some (FieldType.boolean)) rm_X7_isReached) (N : xm_Nx K) (hg : ∀ v S, g v S → xm_q K (some (xm_i v)) S)  (h1 : wp_X7_isReached_32 h  S g) : xm_W K 0 0 32 [] [] S := by
  unfold wp_X7_isReached_32 at h1
  refine x_iconst (v := (0 : Int32)) C dX7_isReached_32 (by decide) ?_
  exact kp_X7_isReached_33 h (0 : Int32) S C N hg  h1
def wp_X7_isReached (h : Nat) (x1 : Int32) (S : xm_S) (g : Int32 → xm_S → Prop) : Prop :=
  st_t S h = some (7, 0) ∧ ∃ n2, (st_r S h 10) = some n2 ∧ ∃ z5, st_t S n2 = some (100, z5) ∧ vp_in x1 z5 ∧ ((st_i S n2 (x1).toNatClampNeg) = (-1 : Int32) → wp_X7_isReached_32 h S g) ∧ (¬ (st_i S n2 (x1).toNatClampNeg) = (-1 : Int32) → ∃ n7, (st_r S h 10) = some n7 ∧ ∃ z10, st_t S n7 = some (100, z10) ∧ vp_in x1 z10 ∧ wp_X7_bitOf x1 (st_i S n7 (x1).toNatClampNeg) S (fun r13 S12 => (((st_i S h 12) &&& r13) = 0 → wp_X7_isReached_32 h S12 g) ∧ (¬ ((st_i S h 12) &&& r13) = 0 → wp_X7_isReached_33 h (1 : Int32) S12 g)))
set_option maxRecDepth 100000 in
set_option maxHeartbeats 4000000 in
theorem kp_X7_isReached {K : xm_K} (h : Nat) (x1 : Int32) (S : xm_S) {g : Int32 → xm_S → Prop} (C : xm_Cx K cX7_isReached RX7 2 (some (FieldType.boolean)) rm_X7_isReached) (N : xm_Nx K) (hg : ∀ v S, g v S → xm_q K (some (xm_i v)) S)  (h1 : wp_X7_isReached h x1 S g) : xm_W K 0 0 0 [(0, xm_r (some h)), (1, xm_i x1)] [] S := by
  unfold wp_X7_isReached at h1
  refine x_aload_n C 0 dX7_isReached_0 rfl rfl ?_
  obtain ⟨ht1, h1⟩ := h1
  refine x_getf_r (n := h) C rfl ht1 fd_60 (by decide) dX7_isReached_1 ?_
  refine x_iload_n C 1 dX7_isReached_4 rfl rfl ?_
  obtain ⟨n2, hr3, h1⟩ := h1
  obtain ⟨z5, ht4, h1⟩ := h1
  obtain ⟨hi6, h1⟩ := h1
  refine x_iald (n := n2) C hr3 ht4 hi6 dX7_isReached_5 ?_
  refine x_iconst (v := (-1 : Int32)) C dX7_isReached_6 (by decide) ?_
  refine x_icmp_eq (tgt := 32) C dX7_isReached_7 (by decide) (fun z9 => ?_) (fun z9 => ?_)
  · have h1 := h1.1 z9
    refine x_keep (L' := []) C [] rfl ?_
    exact kp_X7_isReached_32 h S C N hg  h1
  · have h1 := h1.2 z9
    refine x_aload_n C 0 dX7_isReached_10 rfl rfl ?_
    refine x_getf_i (n := h) C rfl ht1 fd_49 (by decide) dX7_isReached_11 ?_
    refine x_iload_n C 1 dX7_isReached_14 rfl rfl ?_
    refine x_aload_n C 0 dX7_isReached_15 rfl rfl ?_
    refine x_getf_r (n := h) C rfl ht1 fd_60 (by decide) dX7_isReached_16 ?_
    refine x_iload_n C 1 dX7_isReached_19 rfl rfl ?_
    obtain ⟨n7, hr8, h1⟩ := h1
    obtain ⟨z10, ht9, h1⟩ := h1
    obtain ⟨hi11, h1⟩ := h1
    refine x_iald (n := n7) C hr8 ht9 hi11 dX7_isReached_20 ?_
    refine x_callS (rm' := rm_X7_bitOf) C (kp_X7_bitOf_met h1) lk_20 gw_163 rfl (Nat.le_of_ble_eq_true rfl) ⟨Nat.le_of_ble_eq_true rfl, Nat.le_of_ble_eq_true rfl, (Nat.le_of_ble_eq_true rfl), (Nat.le_of_ble_eq_true rfl)⟩ dX7_isReached_21 xm_kx (xm_ki (fun r13 S12 h1 => ?_))
    refine x_iand C dX7_isReached_24 ?_
    refine x_if_eq (tgt := 32) C dX7_isReached_25 (by decide) (fun z9 => ?_) (fun z9 => ?_)
    · have h1 := h1.1 z9
      refine x_keep (L' := []) C [] rfl ?_
      exact kp_X7_isReached_32 h S12 C N hg  h1
    · have h1 := h1.2 z9
      refine x_iconst (v := (1 : Int32)) C dX7_isReached_28 (by decide) ?_
      refine x_goto (tgt := 33) C dX7_isReached_29 (by decide) ?_
      refine x_keep (L' := []) C [] rfl ?_
      exact kp_X7_isReached_33 h (1 : Int32) S12 C N hg  h1
theorem kp_X7_isReached_met {h : Nat} {x1 : Int32} {S : xm_S} {g : Int32 → xm_S → Prop}  (h1 : wp_X7_isReached h x1 S g) : xm_Met yX7_isReached cX7_isReached 2 (some (FieldType.boolean)) rm_X7_isReached [xm_r (some h), xm_i x1] S (xm_qi g) xm_nox :=
  xm_ofW RX7 (by decide +kernel) rfl (Nat.le_of_ble_eq_true rfl) (fun K C N hq hx hi => kp_X7_isReached h x1 S C N (fun v S h => by rw [hq]; exact ⟨v, rfl, h⟩)  h1)
def rm_X7_areMet : Room := { frames := 3, cells := 0, slots := 0, locals := 70 }
theorem dX7_areMet_0 : decode cX7_areMet 0 = .ok (.aload_n 0, 1) := by decide +kernel
theorem dX7_areMet_1 : decode cX7_areMet 1 = .ok (.iload_n 1, 1) := by decide +kernel
theorem dX7_areMet_2 : decode cX7_areMet 2 = .ok (.putfield 51, 3) := by decide +kernel
theorem dX7_areMet_5 : decode cX7_areMet 5 = .ok (.aload_n 0, 1) := by decide +kernel
theorem dX7_areMet_6 : decode cX7_areMet 6 = .ok (.iconst 0, 1) := by decide +kernel
theorem dX7_areMet_7 : decode cX7_areMet 7 = .ok (.putfield 54, 3) := by decide +kernel
theorem dX7_areMet_10 : decode cX7_areMet 10 = .ok (.iconst 0, 1) := by decide +kernel
theorem dX7_areMet_11 : decode cX7_areMet 11 = .ok (.istore_n 3, 1) := by decide +kernel
theorem dX7_areMet_12 : decode cX7_areMet 12 = .ok (.iload_n 3, 1) := by decide +kernel
theorem dX7_areMet_13 : decode cX7_areMet 13 = .ok (.aload_n 0, 1) := by decide +kernel
theorem dX7_areMet_14 : decode cX7_areMet 14 = .ok (.getfield 19, 3) := by decide +kernel
theorem dX7_areMet_17 : decode cX7_areMet 17 = .ok (.if_icmp .ge 36, 3) := by decide +kernel
theorem dX7_areMet_20 : decode cX7_areMet 20 = .ok (.aload_n 0, 1) := by decide +kernel
theorem dX7_areMet_21 : decode cX7_areMet 21 = .ok (.getfield 36, 3) := by decide +kernel
theorem dX7_areMet_24 : decode cX7_areMet 24 = .ok (.iload_n 3, 1) := by decide +kernel
theorem dX7_areMet_25 : decode cX7_areMet 25 = .ok (.ishr, 1) := by decide +kernel
theorem dX7_areMet_26 : decode cX7_areMet 26 = .ok (.iconst 1, 1) := by decide +kernel
theorem dX7_areMet_27 : decode cX7_areMet 27 = .ok (.iand, 1) := by decide +kernel
theorem dX7_areMet_28 : decode cX7_areMet 28 = .ok (.ifCond .eq 19, 3) := by decide +kernel
theorem dX7_areMet_31 : decode cX7_areMet 31 = .ok (.aload_n 0, 1) := by decide +kernel
theorem dX7_areMet_32 : decode cX7_areMet 32 = .ok (.aload_n 0, 1) := by decide +kernel
theorem dX7_areMet_33 : decode cX7_areMet 33 = .ok (.getfield 15, 3) := by decide +kernel
theorem dX7_areMet_36 : decode cX7_areMet 36 = .ok (.iload_n 3, 1) := by decide +kernel
theorem dX7_areMet_37 : decode cX7_areMet 37 = .ok (.aaload, 1) := by decide +kernel
theorem dX7_areMet_38 : decode cX7_areMet 38 = .ok (.iload_n 2, 1) := by decide +kernel
theorem dX7_areMet_39 : decode cX7_areMet 39 = .ok (.invokevirtual 181, 3) := by decide +kernel
theorem dX7_areMet_42 : decode cX7_areMet 42 = .ok (.ifCond .ne 5, 3) := by decide +kernel
theorem dX7_areMet_45 : decode cX7_areMet 45 = .ok (.iconst 0, 1) := by decide +kernel
theorem dX7_areMet_46 : decode cX7_areMet 46 = .ok (.ireturn, 1) := by decide +kernel
theorem dX7_areMet_47 : decode cX7_areMet 47 = .ok (.iinc 3 1, 3) := by decide +kernel
theorem dX7_areMet_50 : decode cX7_areMet 50 = .ok (.goto (-38), 3) := by decide +kernel
theorem dX7_areMet_53 : decode cX7_areMet 53 = .ok (.iconst 0, 1) := by decide +kernel
theorem dX7_areMet_54 : decode cX7_areMet 54 = .ok (.istore_n 3, 1) := by decide +kernel
theorem dX7_areMet_55 : decode cX7_areMet 55 = .ok (.iload_n 3, 1) := by decide +kernel
theorem dX7_areMet_56 : decode cX7_areMet 56 = .ok (.bipush 64, 2) := by decide +kernel
theorem dX7_areMet_58 : decode cX7_areMet 58 = .ok (.if_icmp .ge 79, 3) := by decide +kernel
theorem dX7_areMet_61 : decode cX7_areMet 61 = .ok (.aload_n 0, 1) := by decide +kernel
theorem dX7_areMet_62 : decode cX7_areMet 62 = .ok (.getfield 51, 3) := by decide +kernel
theorem dX7_areMet_65 : decode cX7_areMet 65 = .ok (.istore 4, 2) := by decide +kernel
theorem dX7_areMet_67 : decode cX7_areMet 67 = .ok (.aload_n 0, 1) := by decide +kernel
theorem dX7_areMet_68 : decode cX7_areMet 68 = .ok (.getfield 54, 3) := by decide +kernel
theorem dX7_areMet_71 : decode cX7_areMet 71 = .ok (.istore 5, 2) := by decide +kernel
theorem dX7_areMet_73 : decode cX7_areMet 73 = .ok (.iconst 0, 1) := by decide +kernel
theorem dX7_areMet_74 : decode cX7_areMet 74 = .ok (.istore 6, 2) := by decide +kernel
theorem dX7_areMet_76 : decode cX7_areMet 76 = .ok (.iload 6, 2) := by decide +kernel
theorem dX7_areMet_78 : decode cX7_areMet 78 = .ok (.bipush 6, 2) := by decide +kernel
theorem dX7_areMet_80 : decode cX7_areMet 80 = .ok (.if_icmp .ge 30, 3) := by decide +kernel
theorem dX7_areMet_83 : decode cX7_areMet 83 = .ok (.aload_n 0, 1) := by decide +kernel
theorem dX7_areMet_84 : decode cX7_areMet 84 = .ok (.iload 6, 2) := by decide +kernel
theorem dX7_areMet_86 : decode cX7_areMet 86 = .ok (.invokevirtual 185, 3) := by decide +kernel
theorem dX7_areMet_89 : decode cX7_areMet 89 = .ok (.ifCond .eq 15, 3) := by decide +kernel
theorem dX7_areMet_92 : decode cX7_areMet 92 = .ok (.aload_n 0, 1) := by decide +kernel
theorem dX7_areMet_93 : decode cX7_areMet 93 = .ok (.iload 6, 2) := by decide +kernel
theorem dX7_areMet_95 : decode cX7_areMet 95 = .ok (.iload_n 2, 1) := by decide +kernel
theorem dX7_areMet_96 : decode cX7_areMet 96 = .ok (.invokevirtual 189, 3) := by decide +kernel
theorem dX7_areMet_99 : decode cX7_areMet 99 = .ok (.ifCond .ne 5, 3) := by decide +kernel
theorem dX7_areMet_102 : decode cX7_areMet 102 = .ok (.iconst 0, 1) := by decide +kernel
theorem dX7_areMet_103 : decode cX7_areMet 103 = .ok (.ireturn, 1) := by decide +kernel
theorem dX7_areMet_104 : decode cX7_areMet 104 = .ok (.iinc 6 1, 3) := by decide +kernel
theorem dX7_areMet_107 : decode cX7_areMet 107 = .ok (.goto (-31), 3) := by decide +kernel
theorem dX7_areMet_110 : decode cX7_areMet 110 = .ok (.aload_n 0, 1) := by decide +kernel
theorem dX7_areMet_111 : decode cX7_areMet 111 = .ok (.getfield 51, 3) := by decide +kernel
theorem dX7_areMet_114 : decode cX7_areMet 114 = .ok (.iload 4, 2) := by decide +kernel
theorem dX7_areMet_116 : decode cX7_areMet 116 = .ok (.if_icmp .ne 15, 3) := by decide +kernel
theorem dX7_areMet_119 : decode cX7_areMet 119 = .ok (.aload_n 0, 1) := by decide +kernel
theorem dX7_areMet_120 : decode cX7_areMet 120 = .ok (.getfield 54, 3) := by decide +kernel
theorem dX7_areMet_123 : decode cX7_areMet 123 = .ok (.iload 5, 2) := by decide +kernel
theorem dX7_areMet_125 : decode cX7_areMet 125 = .ok (.if_icmp .ne 6, 3) := by decide +kernel
theorem dX7_areMet_128 : decode cX7_areMet 128 = .ok (.goto 9, 3) := by decide +kernel
theorem dX7_areMet_131 : decode cX7_areMet 131 = .ok (.iinc 3 1, 3) := by decide +kernel
theorem dX7_areMet_134 : decode cX7_areMet 134 = .ok (.goto (-79), 3) := by decide +kernel
theorem dX7_areMet_137 : decode cX7_areMet 137 = .ok (.iconst 1, 1) := by decide +kernel
theorem dX7_areMet_138 : decode cX7_areMet 138 = .ok (.ireturn, 1) := by decide +kernel
def wp_X7_areMet_47 (h : Nat) (x2 : Int32) (x3 : Int32) (S : xm_S) (g : Int32 → xm_S → Prop) (Z12 : Int32 → Int32 → xm_S → Prop) : Prop :=
  ∀ y1, y1 = (x3 + (1 : Int32)) → Z12 x2 y1 S
set_option maxRecDepth 100000 in
set_option maxHeartbeats 4000000 in
theorem kp_X7_areMet_47 {K : xm_K} (h : Nat) (x2 : Int32) (x3 : Int32) (S : xm_S) {g : Int32 → xm_S → Prop} {Z12 : Int32 → Int32 → xm_S → Prop} (C : xm_Cx K cX7_areMet RX7 7 (some (FieldType.boolean)) rm_X7_areMet) (N : xm_Nx K) (hg : ∀ v S, g v S → xm_q K (some (xm_i v)) S) (hZ12 : ∀ x2 x3 S, Z12 x2 x3 S → xm_W K 0 0 12 [(0, xm_r (some h)), (2, xm_i x2), (3, xm_i x3)] [] S) (h1 : wp_X7_areMet_47 h x2 x3 S g Z12) : xm_W K 0 0 47 [(0, xm_r (some h)), (2, xm_i x2), (3, xm_i x3)] [] S := by
  unfold wp_X7_areMet_47 at h1
  obtain ⟨y1, e2⟩ : ∃ y1, y1 = (x3 + (1 : Int32)) := ⟨_, rfl⟩
  have h1 := h1 y1 e2
  refine x_iinc (v := y1) (L' := [(3, xm_i y1), (0, xm_r (some h)), (2, xm_i x2)]) C 2 dX7_areMet_47 rfl (by rw [e2]; rfl) (by decide) rfl ?_
  refine x_goto (tgt := 12) C dX7_areMet_50 (by decide) ?_
  refine x_keep (L' := [(0, xm_r (some h)), (2, xm_i x2), (3, xm_i y1)]) C [1, 2, 0] rfl ?_
  exact hZ12 x2 y1 S h1
def wp_X7_areMet_137 (h : Nat)  (S : xm_S) (g : Int32 → xm_S → Prop) : Prop :=
  g (1 : Int32) S
set_option maxRecDepth 100000 in
set_option maxHeartbeats 4000000 in
theorem kp_X7_areMet_137 {K : xm_K} (h : Nat)  (S : xm_S) {g : Int32 → xm_S → Prop} (C : xm_Cx K cX7_areMet RX7 7 (some (FieldType.boolean)) rm_X7_areMet) (N : xm_Nx K) (hg : ∀ v S, g v S → xm_q K (some (xm_i v)) S)  (h1 : wp_X7_areMet_137 h  S g) : xm_W K 0 0 137 [] [] S := by
  unfold wp_X7_areMet_137 at h1
  refine x_iconst (v := (1 : Int32)) C dX7_areMet_137 (by decide) ?_
  exact x_zret C (Nat.le_of_ble_eq_true rfl) (Nat.le_of_ble_eq_true rfl) rfl (by decide) dX7_areMet_138 (hg _ _ h1)
def wp_X7_areMet_104 (h : Nat) (x2 : Int32) (x3 : Int32) (x4 : Int32) (x5 : Int32) (x6 : Int32) (S : xm_S) (g : Int32 → xm_S → Prop) (Z55 : Int32 → Int32 → xm_S → Prop) (Z76 : Int32 → Int32 → Int32 → Int32 → Int32 → xm_S → Prop) : Prop :=
  ∀ y3, y3 = (x6 + (1 : Int32)) → Z76 x2 x3 x4 x5 y3 S
set_option maxRecDepth 100000 in
set_option maxHeartbeats 4000000 in
theorem kp_X7_areMet_104 {K : xm_K} (h : Nat) (x2 : Int32) (x3 : Int32) (x4 : Int32) (x5 : Int32) (x6 : Int32) (S : xm_S) {g : Int32 → xm_S → Prop} {Z55 : Int32 → Int32 → xm_S → Prop} {Z76 : Int32 → Int32 → Int32 → Int32 → Int32 → xm_S → Prop} (C : xm_Cx K cX7_areMet RX7 7 (some (FieldType.boolean)) rm_X7_areMet) (N : xm_Nx K) (hg : ∀ v S, g v S → xm_q K (some (xm_i v)) S) (hZ55 : ∀ x2 x3 S, Z55 x2 x3 S → xm_W K 0 0 55 [(0, xm_r (some h)), (2, xm_i x2), (3, xm_i x3)] [] S) (hZ76 : ∀ x2 x3 x4 x5 x6 S, Z76 x2 x3 x4 x5 x6 S → xm_W K 0 0 76 [(0, xm_r (some h)), (2, xm_i x2), (3, xm_i x3), (4, xm_i x4), (5, xm_i x5), (6, xm_i x6)] [] S) (h1 : wp_X7_areMet_104 h x2 x3 x4 x5 x6 S g Z55 Z76) : xm_W K 0 0 104 [(0, xm_r (some h)), (2, xm_i x2), (3, xm_i x3), (4, xm_i x4), (5, xm_i x5), (6, xm_i x6)] [] S := by
  unfold wp_X7_areMet_104 at h1
  obtain ⟨y3, e4⟩ : ∃ y3, y3 = (x6 + (1 : Int32)) := ⟨_, rfl⟩
  have h1 := h1 y3 e4
  refine x_iinc (v := y3) (L' := [(6, xm_i y3), (0, xm_r (some h)), (2, xm_i x2), (3, xm_i x3), (4, xm_i x4), (5, xm_i x5)]) C 5 dX7_areMet_104 rfl (by rw [e4]; rfl) (by decide) rfl ?_
  refine x_goto (tgt := 76) C dX7_areMet_107 (by decide) ?_
  refine x_keep (L' := [(0, xm_r (some h)), (2, xm_i x2), (3, xm_i x3), (4, xm_i x4), (5, xm_i x5), (6, xm_i y3)]) C [1, 2, 3, 4, 5, 0] rfl ?_
  exact hZ76 x2 x3 x4 x5 y3 S h1
def wp_X7_areMet_131 (h : Nat) (x2 : Int32) (x3 : Int32) (S : xm_S) (g : Int32 → xm_S → Prop) (Z55 : Int32 → Int32 → xm_S → Prop) : Prop :=
  ∀ y5, y5 = (x3 + (1 : Int32)) → Z55 x2 y5 S
set_option maxRecDepth 100000 in
set_option maxHeartbeats 4000000 in
theorem kp_X7_areMet_131 {K : xm_K} (h : Nat) (x2 : Int32) (x3 : Int32) (S : xm_S) {g : Int32 → xm_S → Prop} {Z55 : Int32 → Int32 → xm_S → Prop} (C : xm_Cx K cX7_areMet RX7 7 (some (FieldType.boolean)) rm_X7_areMet) (N : xm_Nx K) (hg : ∀ v S, g v S → xm_q K (some (xm_i v)) S) (hZ55 : ∀ x2 x3 S, Z55 x2 x3 S → xm_W K 0 0 55 [(0, xm_r (some h)), (2, xm_i x2), (3, xm_i x3)] [] S) (h1 : wp_X7_areMet_131 h x2 x3 S g Z55) : xm_W K 0 0 131 [(0, xm_r (some h)), (2, xm_i x2), (3, xm_i x3)] [] S := by
  unfold wp_X7_areMet_131 at h1
  obtain ⟨y5, e6⟩ : ∃ y5, y5 = (x3 + (1 : Int32)) := ⟨_, rfl⟩
  have h1 := h1 y5 e6
  refine x_iinc (v := y5) (L' := [(3, xm_i y5), (0, xm_r (some h)), (2, xm_i x2)]) C 2 dX7_areMet_131 rfl (by rw [e6]; rfl) (by decide) rfl ?_
  refine x_goto (tgt := 55) C dX7_areMet_134 (by decide) ?_
  refine x_keep (L' := [(0, xm_r (some h)), (2, xm_i x2), (3, xm_i y5)]) C [1, 2, 0] rfl ?_
  exact hZ55 x2 y5 S h1
def wp_X7_areMet_76B (h : Nat) (x2 : Int32) (x3 : Int32) (x4 : Int32) (x5 : Int32) (x6 : Int32) (S : xm_S) (g : Int32 → xm_S → Prop) (Z55 : Int32 → Int32 → xm_S → Prop) (Z76 : Int32 → Int32 → Int32 → Int32 → Int32 → xm_S → Prop) : Prop :=
  ((nI 6) ≤ x6 → st_t S h = some (7, 0) ∧ (¬ (st_i S h 12) = x4 → wp_X7_areMet_131 h x2 x3 S g Z55) ∧ ((st_i S h 12) = x4 → (¬ (st_i S h 13) = x5 → wp_X7_areMet_131 h x2 x3 S g Z55) ∧ ((st_i S h 13) = x5 → wp_X7_areMet_137 h S g))) ∧ (¬ (nI 6) ≤ x6 → st_t S h = some (7, 0) ∧ wp_X7_isReached h x6 S (fun r10 S9 => (r10 = 0 → wp_X7_areMet_104 h x2 x3 x4 x5 x6 S9 g Z55 Z76) ∧ (¬ r10 = 0 → st_t S9 h = some (7, 0) ∧ wp_X7_hasNeedsMet h x6 x2 S9 (fun r13 S12 => (¬ r13 = 0 → wp_X7_areMet_104 h x2 x3 x4 x5 x6 S12 g Z55 Z76) ∧ (r13 = 0 → g (0 : Int32) S12)))))
def wp_X7_areMet_76 (h : Nat) (x2 : Int32) (x3 : Int32) (x4 : Int32) (x5 : Int32) (x6 : Int32) (S : xm_S) (g : Int32 → xm_S → Prop) (Z55 : Int32 → Int32 → xm_S → Prop) : Prop :=
  ∀ Z76 : Int32 → Int32 → Int32 → Int32 → Int32 → xm_S → Prop, (∀ x2 x3 x4 x5 x6 S, wp_X7_areMet_76B h x2 x3 x4 x5 x6 S g Z55 Z76 → Z76 x2 x3 x4 x5 x6 S) → Z76 x2 x3 x4 x5 x6 S
set_option maxRecDepth 100000 in
set_option maxHeartbeats 4000000 in
theorem kp_X7_areMet_76B {K : xm_K} (h : Nat) (x2 : Int32) (x3 : Int32) (x4 : Int32) (x5 : Int32) (x6 : Int32) (S : xm_S) {g : Int32 → xm_S → Prop} {Z55 : Int32 → Int32 → xm_S → Prop} {Z76 : Int32 → Int32 → Int32 → Int32 → Int32 → xm_S → Prop} (C : xm_Cx K cX7_areMet RX7 7 (some (FieldType.boolean)) rm_X7_areMet) (N : xm_Nx K) (hg : ∀ v S, g v S → xm_q K (some (xm_i v)) S) (hZ55 : ∀ x2 x3 S, Z55 x2 x3 S → xm_W K 0 0 55 [(0, xm_r (some h)), (2, xm_i x2), (3, xm_i x3)] [] S) (hZ76 : ∀ x2 x3 x4 x5 x6 S, Z76 x2 x3 x4 x5 x6 S → xm_W K 0 0 76 [(0, xm_r (some h)), (2, xm_i x2), (3, xm_i x3), (4, xm_i x4), (5, xm_i x5), (6, xm_i x6)] [] S) (h1 : wp_X7_areMet_76B h x2 x3 x4 x5 x6 S g Z55 Z76) : xm_W K 0 0 76 [(0, xm_r (some h)), (2, xm_i x2), (3, xm_i x3), (4, xm_i x4), (5, xm_i x5), (6, xm_i x6)] [] S := by
  unfold wp_X7_areMet_76B at h1
  refine x_iload C 5 dX7_areMet_76 rfl ?_
  refine x_bipush (v := (nI 6)) C dX7_areMet_78 (by decide) ?_
  refine x_icmp_ge (tgt := 110) C dX7_areMet_80 (by decide) (fun z9 => ?_) (fun z9 => ?_)
  · have h1 := h1.1 z9
    refine x_aload_n C 0 dX7_areMet_110 rfl rfl ?_
    obtain ⟨ht7, h1⟩ := h1
    refine x_getf_i (n := h) C rfl ht7 fd_49 (by decide) dX7_areMet_111 ?_
    refine x_iload C 3 dX7_areMet_114 rfl ?_
    refine x_icmp_ne (tgt := 131) C dX7_areMet_116 (by decide) (fun z9 => ?_) (fun z9 => ?_)
    · have h1 := h1.1 z9
      refine x_keep (L' := [(0, xm_r (some h)), (2, xm_i x2), (3, xm_i x3)]) C [0, 1, 2] rfl ?_
      exact kp_X7_areMet_131 h x2 x3 S C N hg hZ55 h1
    · have h1 := h1.2 z9
      refine x_aload_n C 0 dX7_areMet_119 rfl rfl ?_
      refine x_getf_i (n := h) C rfl ht7 fd_50 (by decide) dX7_areMet_120 ?_
      refine x_iload C 4 dX7_areMet_123 rfl ?_
      refine x_icmp_ne (tgt := 131) C dX7_areMet_125 (by decide) (fun z9 => ?_) (fun z9 => ?_)
      · have h1 := h1.1 z9
        refine x_keep (L' := [(0, xm_r (some h)), (2, xm_i x2), (3, xm_i x3)]) C [0, 1, 2] rfl ?_
        exact kp_X7_areMet_131 h x2 x3 S C N hg hZ55 h1
      · have h1 := h1.2 z9
        refine x_goto (tgt := 137) C dX7_areMet_128 (by decide) ?_
        refine x_keep (L' := []) C [] rfl ?_
        exact kp_X7_areMet_137 h S C N hg  h1
  · have h1 := h1.2 z9
    refine x_aload_n C 0 dX7_areMet_83 rfl rfl ?_
    refine x_iload C 5 dX7_areMet_84 rfl ?_
    obtain ⟨ht8, h1⟩ := h1
    refine x_callV (rm' := rm_X7_isReached) (n := h) C (kp_X7_isReached_met h1) lk_21 gw_166 gw_167 xv_7 rfl rfl ht8 rfl (Nat.le_of_ble_eq_true rfl) ⟨Nat.le_of_ble_eq_true rfl, Nat.le_of_ble_eq_true rfl, (Nat.le_of_ble_eq_true rfl), (Nat.le_of_ble_eq_true rfl)⟩ dX7_areMet_86 xm_kx (xm_ki (fun r10 S9 h1 => ?_))
    refine x_if_eq (tgt := 104) C dX7_areMet_89 (by decide) (fun z9 => ?_) (fun z9 => ?_)
    · have h1 := h1.1 z9
      exact kp_X7_areMet_104 h x2 x3 x4 x5 x6 S9 C N hg hZ55 hZ76 h1
    · have h1 := h1.2 z9
      refine x_aload_n C 0 dX7_areMet_92 rfl rfl ?_
      refine x_iload C 5 dX7_areMet_93 rfl ?_
      refine x_iload_n C 1 dX7_areMet_95 rfl rfl ?_
      obtain ⟨ht11, h1⟩ := h1
      refine x_callV (rm' := rm_X7_hasNeedsMet) (n := h) C (kp_X7_hasNeedsMet_met h1) lk_22 gw_170 gw_171 xv_7 rfl rfl ht11 rfl (Nat.le_of_ble_eq_true rfl) ⟨Nat.le_of_ble_eq_true rfl, Nat.le_of_ble_eq_true rfl, (Nat.le_of_ble_eq_true rfl), (Nat.le_of_ble_eq_true rfl)⟩ dX7_areMet_96 xm_kx (xm_ki (fun r13 S12 h1 => ?_))
      refine x_if_ne (tgt := 104) C dX7_areMet_99 (by decide) (fun z9 => ?_) (fun z9 => ?_)
      · have h1 := h1.1 z9
        exact kp_X7_areMet_104 h x2 x3 x4 x5 x6 S12 C N hg hZ55 hZ76 h1
      · have h1 := h1.2 z9
        refine x_iconst (v := (0 : Int32)) C dX7_areMet_102 (by decide) ?_
        exact x_zret C (Nat.le_of_ble_eq_true rfl) (Nat.le_of_ble_eq_true rfl) rfl (by decide) dX7_areMet_103 (hg _ _ h1)
theorem kp_X7_areMet_76 {K : xm_K} (h : Nat) (x2 : Int32) (x3 : Int32) (x4 : Int32) (x5 : Int32) (x6 : Int32) (S : xm_S) {g : Int32 → xm_S → Prop} {Z55 : Int32 → Int32 → xm_S → Prop} (C : xm_Cx K cX7_areMet RX7 7 (some (FieldType.boolean)) rm_X7_areMet) (N : xm_Nx K) (hg : ∀ v S, g v S → xm_q K (some (xm_i v)) S) (hZ55 : ∀ x2 x3 S, Z55 x2 x3 S → xm_W K 0 0 55 [(0, xm_r (some h)), (2, xm_i x2), (3, xm_i x3)] [] S) (h1 : wp_X7_areMet_76 h x2 x3 x4 x5 x6 S g Z55) : xm_W K 0 0 76 [(0, xm_r (some h)), (2, xm_i x2), (3, xm_i x3), (4, xm_i x4), (5, xm_i x5), (6, xm_i x6)] [] S :=
  h1 (fun x2 x3 x4 x5 x6 S => xm_W K 0 0 76 [(0, xm_r (some h)), (2, xm_i x2), (3, xm_i x3), (4, xm_i x4), (5, xm_i x5), (6, xm_i x6)] [] S) (fun x2 x3 x4 x5 x6 S hb => kp_X7_areMet_76B h x2 x3 x4 x5 x6 S C N hg hZ55 (fun x2 x3 x4 x5 x6 S hz => hz) hb)
def wp_X7_areMet_55B (h : Nat) (x2 : Int32) (x3 : Int32) (S : xm_S) (g : Int32 → xm_S → Prop) (Z55 : Int32 → Int32 → xm_S → Prop) : Prop :=
  ((nI 64) ≤ x3 → wp_X7_areMet_137 h S g) ∧ (¬ (nI 64) ≤ x3 → st_t S h = some (7, 0) ∧ wp_X7_areMet_76 h x2 x3 (st_i S h 12) (st_i S h 13) (0 : Int32) S g Z55)
def wp_X7_areMet_55 (h : Nat) (x2 : Int32) (x3 : Int32) (S : xm_S) (g : Int32 → xm_S → Prop) : Prop :=
  ∀ Z55 : Int32 → Int32 → xm_S → Prop, (∀ x2 x3 S, wp_X7_areMet_55B h x2 x3 S g Z55 → Z55 x2 x3 S) → Z55 x2 x3 S
set_option maxRecDepth 100000 in
set_option maxHeartbeats 4000000 in
theorem kp_X7_areMet_55B {K : xm_K} (h : Nat) (x2 : Int32) (x3 : Int32) (S : xm_S) {g : Int32 → xm_S → Prop} {Z55 : Int32 → Int32 → xm_S → Prop} (C : xm_Cx K cX7_areMet RX7 7 (some (FieldType.boolean)) rm_X7_areMet) (N : xm_Nx K) (hg : ∀ v S, g v S → xm_q K (some (xm_i v)) S) (hZ55 : ∀ x2 x3 S, Z55 x2 x3 S → xm_W K 0 0 55 [(0, xm_r (some h)), (2, xm_i x2), (3, xm_i x3)] [] S) (h1 : wp_X7_areMet_55B h x2 x3 S g Z55) : xm_W K 0 0 55 [(0, xm_r (some h)), (2, xm_i x2), (3, xm_i x3)] [] S := by
  unfold wp_X7_areMet_55B at h1
  refine x_iload_n C 2 dX7_areMet_55 rfl rfl ?_
  refine x_bipush (v := (nI 64)) C dX7_areMet_56 (by decide) ?_
  refine x_icmp_ge (tgt := 137) C dX7_areMet_58 (by decide) (fun z9 => ?_) (fun z9 => ?_)
  · have h1 := h1.1 z9
    refine x_keep (L' := []) C [] rfl ?_
    exact kp_X7_areMet_137 h S C N hg  h1
  · have h1 := h1.2 z9
    refine x_aload_n C 0 dX7_areMet_61 rfl rfl ?_
    obtain ⟨ht14, h1⟩ := h1
    refine x_getf_i (n := h) C rfl ht14 fd_49 (by decide) dX7_areMet_62 ?_
    refine x_istore (L' := [(4, xm_i (st_i S h 12)), (0, xm_r (some h)), (2, xm_i x2), (3, xm_i x3)]) C dX7_areMet_65 (by decide) rfl ?_
    refine x_aload_n C 1 dX7_areMet_67 rfl rfl ?_
    refine x_getf_i (n := h) C rfl ht14 fd_50 (by decide) dX7_areMet_68 ?_
    refine x_istore (L' := [(5, xm_i (st_i S h 13)), (4, xm_i (st_i S h 12)), (0, xm_r (some h)), (2, xm_i x2), (3, xm_i x3)]) C dX7_areMet_71 (by decide) rfl ?_
    refine x_iconst (v := (0 : Int32)) C dX7_areMet_73 (by decide) ?_
    refine x_istore (L' := [(6, xm_i (0 : Int32)), (5, xm_i (st_i S h 13)), (4, xm_i (st_i S h 12)), (0, xm_r (some h)), (2, xm_i x2), (3, xm_i x3)]) C dX7_areMet_74 (by decide) rfl ?_
    refine x_keep (L' := [(0, xm_r (some h)), (2, xm_i x2), (3, xm_i x3), (4, xm_i (st_i S h 12)), (5, xm_i (st_i S h 13)), (6, xm_i (0 : Int32))]) C [3, 4, 5, 2, 1, 0] rfl ?_
    exact kp_X7_areMet_76 h x2 x3 (st_i S h 12) (st_i S h 13) (0 : Int32) S C N hg hZ55 h1
theorem kp_X7_areMet_55 {K : xm_K} (h : Nat) (x2 : Int32) (x3 : Int32) (S : xm_S) {g : Int32 → xm_S → Prop} (C : xm_Cx K cX7_areMet RX7 7 (some (FieldType.boolean)) rm_X7_areMet) (N : xm_Nx K) (hg : ∀ v S, g v S → xm_q K (some (xm_i v)) S)  (h1 : wp_X7_areMet_55 h x2 x3 S g) : xm_W K 0 0 55 [(0, xm_r (some h)), (2, xm_i x2), (3, xm_i x3)] [] S :=
  h1 (fun x2 x3 S => xm_W K 0 0 55 [(0, xm_r (some h)), (2, xm_i x2), (3, xm_i x3)] [] S) (fun x2 x3 S hb => kp_X7_areMet_55B h x2 x3 S C N hg (fun x2 x3 S hz => hz) hb)
def wp_X7_areMet_12B (h : Nat) (x2 : Int32) (x3 : Int32) (S : xm_S) (g : Int32 → xm_S → Prop) (Z12 : Int32 → Int32 → xm_S → Prop) : Prop :=
  st_t S h = some (7, 0) ∧ ((st_i S h 2) ≤ x3 → wp_X7_areMet_55 h x2 (0 : Int32) S g) ∧ (¬ (st_i S h 2) ≤ x3 → ((((st_i S h 7) >>> (x3 &&& 31)) &&& (1 : Int32)) = 0 → wp_X7_areMet_47 h x2 x3 S g Z12) ∧ (¬ (((st_i S h 7) >>> (x3 &&& 31)) &&& (1 : Int32)) = 0 → ∃ n16, (st_r S h 1) = some n16 ∧ ∃ z19, st_t S n16 = some (114, z19) ∧ vp_in x3 z19 ∧ wp_X7_isMet h (st_r S n16 (x3).toNatClampNeg) x2 S (fun r22 S21 => (¬ r22 = 0 → wp_X7_areMet_47 h x2 x3 S21 g Z12) ∧ (r22 = 0 → g (0 : Int32) S21))))
def wp_X7_areMet_12 (h : Nat) (x2 : Int32) (x3 : Int32) (S : xm_S) (g : Int32 → xm_S → Prop) : Prop :=
  ∀ Z12 : Int32 → Int32 → xm_S → Prop, (∀ x2 x3 S, wp_X7_areMet_12B h x2 x3 S g Z12 → Z12 x2 x3 S) → Z12 x2 x3 S
set_option maxRecDepth 100000 in
set_option maxHeartbeats 4000000 in
theorem kp_X7_areMet_12B {K : xm_K} (h : Nat) (x2 : Int32) (x3 : Int32) (S : xm_S) {g : Int32 → xm_S → Prop} {Z12 : Int32 → Int32 → xm_S → Prop} (C : xm_Cx K cX7_areMet RX7 7 (some (FieldType.boolean)) rm_X7_areMet) (N : xm_Nx K) (hg : ∀ v S, g v S → xm_q K (some (xm_i v)) S) (hZ12 : ∀ x2 x3 S, Z12 x2 x3 S → xm_W K 0 0 12 [(0, xm_r (some h)), (2, xm_i x2), (3, xm_i x3)] [] S) (h1 : wp_X7_areMet_12B h x2 x3 S g Z12) : xm_W K 0 0 12 [(0, xm_r (some h)), (2, xm_i x2), (3, xm_i x3)] [] S := by
  unfold wp_X7_areMet_12B at h1
  refine x_iload_n C 2 dX7_areMet_12 rfl rfl ?_
  refine x_aload_n C 0 dX7_areMet_13 rfl rfl ?_
  obtain ⟨ht15, h1⟩ := h1
  refine x_getf_i (n := h) C rfl ht15 fd_61 (by decide) dX7_areMet_14 ?_
  refine x_icmp_ge (tgt := 53) C dX7_areMet_17 (by decide) (fun z9 => ?_) (fun z9 => ?_)
  · have h1 := h1.1 z9
    refine x_iconst (v := (0 : Int32)) C dX7_areMet_53 (by decide) ?_
    refine x_istore_n (L' := [(3, xm_i (0 : Int32)), (0, xm_r (some h)), (2, xm_i x2)]) C dX7_areMet_54 rfl (by decide) rfl ?_
    refine x_keep (L' := [(0, xm_r (some h)), (2, xm_i x2), (3, xm_i (0 : Int32))]) C [1, 2, 0] rfl ?_
    exact kp_X7_areMet_55 h x2 (0 : Int32) S C N hg  h1
  · have h1 := h1.2 z9
    refine x_aload_n C 0 dX7_areMet_20 rfl rfl ?_
    refine x_getf_i (n := h) C rfl ht15 fd_62 (by decide) dX7_areMet_21 ?_
    refine x_iload_n C 2 dX7_areMet_24 rfl rfl ?_
    refine x_ishr C dX7_areMet_25 ?_
    refine x_iconst (v := (1 : Int32)) C dX7_areMet_26 (by decide) ?_
    refine x_iand C dX7_areMet_27 ?_
    refine x_if_eq (tgt := 47) C dX7_areMet_28 (by decide) (fun z9 => ?_) (fun z9 => ?_)
    · have h1 := h1.1 z9
      exact kp_X7_areMet_47 h x2 x3 S C N hg hZ12 h1
    · have h1 := h1.2 z9
      refine x_aload_n C 0 dX7_areMet_31 rfl rfl ?_
      refine x_aload_n C 0 dX7_areMet_32 rfl rfl ?_
      refine x_getf_r (n := h) C rfl ht15 fd_63 (by decide) dX7_areMet_33 ?_
      refine x_iload_n C 2 dX7_areMet_36 rfl rfl ?_
      obtain ⟨n16, hr17, h1⟩ := h1
      obtain ⟨z19, ht18, h1⟩ := h1
      obtain ⟨hi20, h1⟩ := h1
      refine x_aald (n := n16) C hr17 (by decide) rfl ht18 hi20 dX7_areMet_37 ?_
      refine x_iload_n C 1 dX7_areMet_38 rfl rfl ?_
      refine x_callV (rm' := rm_X7_isMet) (n := h) C (kp_X7_isMet_met h1) lk_19 gw_153 gw_154 xv_7 rfl rfl ht15 rfl (Nat.le_of_ble_eq_true rfl) ⟨Nat.le_of_ble_eq_true rfl, Nat.le_of_ble_eq_true rfl, (Nat.le_of_ble_eq_true rfl), (Nat.le_of_ble_eq_true rfl)⟩ dX7_areMet_39 xm_kx (xm_ki (fun r22 S21 h1 => ?_))
      refine x_if_ne (tgt := 47) C dX7_areMet_42 (by decide) (fun z9 => ?_) (fun z9 => ?_)
      · have h1 := h1.1 z9
        exact kp_X7_areMet_47 h x2 x3 S21 C N hg hZ12 h1
      · have h1 := h1.2 z9
        refine x_iconst (v := (0 : Int32)) C dX7_areMet_45 (by decide) ?_
        exact x_zret C (Nat.le_of_ble_eq_true rfl) (Nat.le_of_ble_eq_true rfl) rfl (by decide) dX7_areMet_46 (hg _ _ h1)
theorem kp_X7_areMet_12 {K : xm_K} (h : Nat) (x2 : Int32) (x3 : Int32) (S : xm_S) {g : Int32 → xm_S → Prop} (C : xm_Cx K cX7_areMet RX7 7 (some (FieldType.boolean)) rm_X7_areMet) (N : xm_Nx K) (hg : ∀ v S, g v S → xm_q K (some (xm_i v)) S)  (h1 : wp_X7_areMet_12 h x2 x3 S g) : xm_W K 0 0 12 [(0, xm_r (some h)), (2, xm_i x2), (3, xm_i x3)] [] S :=
  h1 (fun x2 x3 S => xm_W K 0 0 12 [(0, xm_r (some h)), (2, xm_i x2), (3, xm_i x3)] [] S) (fun x2 x3 S hb => kp_X7_areMet_12B h x2 x3 S C N hg (fun x2 x3 S hz => hz) hb)
def wp_X7_areMet (h : Nat) (x1 : Int32) (x2 : Int32) (S : xm_S) (g : Int32 → xm_S → Prop) : Prop :=
  st_t S h = some (7, 0) ∧ ∀ S24, S24 = st_pi S h 12 x1 → ∀ S26, S26 = st_pi S24 h 13 (0 : Int32) → wp_X7_areMet_12 h x2 (0 : Int32) S26 g
set_option maxRecDepth 100000 in
set_option maxHeartbeats 4000000 in
theorem kp_X7_areMet {K : xm_K} (h : Nat) (x1 : Int32) (x2 : Int32) (S : xm_S) {g : Int32 → xm_S → Prop} (C : xm_Cx K cX7_areMet RX7 7 (some (FieldType.boolean)) rm_X7_areMet) (N : xm_Nx K) (hg : ∀ v S, g v S → xm_q K (some (xm_i v)) S)  (h1 : wp_X7_areMet h x1 x2 S g) : xm_W K 0 0 0 [(0, xm_r (some h)), (1, xm_i x1), (2, xm_i x2)] [] S := by
  unfold wp_X7_areMet at h1
  refine x_aload_n C 0 dX7_areMet_0 rfl rfl ?_
  refine x_iload_n C 1 dX7_areMet_1 rfl rfl ?_
  obtain ⟨ht23, h1⟩ := h1
  refine x_putf_i (n := h) C rfl ht23 fd_49 xc_7 (by decide) rfl ⟨rfl, rfl⟩ dX7_areMet_2 ?_
  refine x_topS (fun S24 e25 => ?_)
  have h1 := h1 S24 e25
  refine x_aload_n C 0 dX7_areMet_5 rfl rfl ?_
  refine x_iconst (v := (0 : Int32)) C dX7_areMet_6 (by decide) ?_
  refine x_putf_i (n := h) C rfl (tk_p e25 ht23) fd_50 xc_7 (by decide) rfl ⟨rfl, rfl⟩ dX7_areMet_7 ?_
  refine x_topS (fun S26 e27 => ?_)
  have h1 := h1 S26 e27
  refine x_iconst (v := (0 : Int32)) C dX7_areMet_10 (by decide) ?_
  refine x_istore_n (L' := [(3, xm_i (0 : Int32)), (0, xm_r (some h)), (1, xm_i x1), (2, xm_i x2)]) C dX7_areMet_11 rfl (by decide) rfl ?_
  refine x_keep (L' := [(0, xm_r (some h)), (2, xm_i x2), (3, xm_i (0 : Int32))]) C [1, 3, 0] rfl ?_
  exact kp_X7_areMet_12 h x2 (0 : Int32) S26 C N hg  h1
theorem kp_X7_areMet_met {h : Nat} {x1 : Int32} {x2 : Int32} {S : xm_S} {g : Int32 → xm_S → Prop}  (h1 : wp_X7_areMet h x1 x2 S g) : xm_Met yX7_areMet cX7_areMet 7 (some (FieldType.boolean)) rm_X7_areMet [xm_r (some h), xm_i x1, xm_i x2] S (xm_qi g) xm_nox :=
  xm_ofW RX7 (by decide +kernel) rfl (Nat.le_of_ble_eq_true rfl) (fun K C N hq hx hi => kp_X7_areMet h x1 x2 S C N (fun v S h => by rw [hq]; exact ⟨v, rfl, h⟩)  h1)
def rm_X7_bitsOf : Room := { frames := 1, cells := 0, slots := 0, locals := 20 }
theorem dX7_bitsOf_0 : decode cX7_bitsOf 0 = .ok (.bipush 15, 2) := by decide +kernel
theorem dX7_bitsOf_2 : decode cX7_bitsOf 2 = .ok (.iload_n 0, 1) := by decide +kernel
theorem dX7_bitsOf_3 : decode cX7_bitsOf 3 = .ok (.iconst 4, 1) := by decide +kernel
theorem dX7_bitsOf_4 : decode cX7_bitsOf 4 = .ok (.imul, 1) := by decide +kernel
theorem dX7_bitsOf_5 : decode cX7_bitsOf 5 = .ok (.ishl, 1) := by decide +kernel
theorem dX7_bitsOf_6 : decode cX7_bitsOf 6 = .ok (.ireturn, 1) := by decide +kernel
def wp_X7_bitsOf (x0 : Int32) (S : xm_S) (g : Int32 → xm_S → Prop) : Prop :=
  g ((nI 15) <<< ((x0 * (nI 4)) &&& 31)) S
set_option maxRecDepth 100000 in
set_option maxHeartbeats 4000000 in
theorem kp_X7_bitsOf {K : xm_K} (x0 : Int32) (S : xm_S) {g : Int32 → xm_S → Prop} (C : xm_Cx K cX7_bitsOf RX7 1 (some (FieldType.int)) rm_X7_bitsOf) (N : xm_Nx K) (hg : ∀ v S, g v S → xm_q K (some (xm_i v)) S)  (h1 : wp_X7_bitsOf x0 S g) : xm_W K 0 0 0 [(0, xm_i x0)] [] S := by
  unfold wp_X7_bitsOf at h1
  refine x_bipush (v := (nI 15)) C dX7_bitsOf_0 (by decide) ?_
  refine x_iload_n C 0 dX7_bitsOf_2 rfl rfl ?_
  refine x_iconst (v := (nI 4)) C dX7_bitsOf_3 (by decide) ?_
  refine x_imul C dX7_bitsOf_4 ?_
  refine x_ishl C dX7_bitsOf_5 ?_
  exact x_iret C (Nat.le_of_ble_eq_true rfl) (Nat.le_of_ble_eq_true rfl) rfl dX7_bitsOf_6 (hg _ _ h1)
theorem kp_X7_bitsOf_met {x0 : Int32} {S : xm_S} {g : Int32 → xm_S → Prop}  (h1 : wp_X7_bitsOf x0 S g) : xm_Met yX7_bitsOf cX7_bitsOf 1 (some (FieldType.int)) rm_X7_bitsOf [xm_i x0] S (xm_qi g) xm_nox :=
  xm_ofW RX7 (by decide +kernel) rfl (Nat.le_of_ble_eq_true rfl) (fun K C N hq hx hi => kp_X7_bitsOf x0 S C N (fun v S h => by rw [hq]; exact ⟨v, rfl, h⟩)  h1)
def rm_X7_greatest : Room := { frames := 3, cells := 0, slots := 0, locals := 64 }
theorem dX7_greatest_0 : decode cX7_greatest 0 = .ok (.iconst (-1), 1) := by decide +kernel
theorem dX7_greatest_1 : decode cX7_greatest 1 = .ok (.istore_n 3, 1) := by decide +kernel
theorem dX7_greatest_2 : decode cX7_greatest 2 = .ok (.iconst 0, 1) := by decide +kernel
theorem dX7_greatest_3 : decode cX7_greatest 3 = .ok (.istore 4, 2) := by decide +kernel
theorem dX7_greatest_5 : decode cX7_greatest 5 = .ok (.iload 4, 2) := by decide +kernel
theorem dX7_greatest_7 : decode cX7_greatest 7 = .ok (.aload_n 0, 1) := by decide +kernel
theorem dX7_greatest_8 : decode cX7_greatest 8 = .ok (.getfield 9, 3) := by decide +kernel
theorem dX7_greatest_11 : decode cX7_greatest 11 = .ok (.iload_n 1, 1) := by decide +kernel
theorem dX7_greatest_12 : decode cX7_greatest 12 = .ok (.aaload, 1) := by decide +kernel
theorem dX7_greatest_13 : decode cX7_greatest 13 = .ok (.getfield 78, 3) := by decide +kernel
theorem dX7_greatest_16 : decode cX7_greatest 16 = .ok (.if_icmp .ge 53, 3) := by decide +kernel
theorem dX7_greatest_19 : decode cX7_greatest 19 = .ok (.iload_n 2, 1) := by decide +kernel
theorem dX7_greatest_20 : decode cX7_greatest 20 = .ok (.iload 4, 2) := by decide +kernel
theorem dX7_greatest_22 : decode cX7_greatest 22 = .ok (.ishr, 1) := by decide +kernel
theorem dX7_greatest_23 : decode cX7_greatest 23 = .ok (.iconst 1, 1) := by decide +kernel
theorem dX7_greatest_24 : decode cX7_greatest 24 = .ok (.iand, 1) := by decide +kernel
theorem dX7_greatest_25 : decode cX7_greatest 25 = .ok (.ifCond .eq 7, 3) := by decide +kernel
theorem dX7_greatest_28 : decode cX7_greatest 28 = .ok (.iconst 1, 1) := by decide +kernel
theorem dX7_greatest_29 : decode cX7_greatest 29 = .ok (.goto 4, 3) := by decide +kernel
theorem dX7_greatest_32 : decode cX7_greatest 32 = .ok (.iconst 0, 1) := by decide +kernel
theorem dX7_greatest_33 : decode cX7_greatest 33 = .ok (.istore 5, 2) := by decide +kernel
theorem dX7_greatest_35 : decode cX7_greatest 35 = .ok (.iload 5, 2) := by decide +kernel
theorem dX7_greatest_37 : decode cX7_greatest 37 = .ok (.ifCond .eq 26, 3) := by decide +kernel
theorem dX7_greatest_40 : decode cX7_greatest 40 = .ok (.iload_n 3, 1) := by decide +kernel
theorem dX7_greatest_41 : decode cX7_greatest 41 = .ok (.iconst (-1), 1) := by decide +kernel
theorem dX7_greatest_42 : decode cX7_greatest 42 = .ok (.if_icmp .eq 18, 3) := by decide +kernel
theorem dX7_greatest_45 : decode cX7_greatest 45 = .ok (.aload_n 0, 1) := by decide +kernel
theorem dX7_greatest_46 : decode cX7_greatest 46 = .ok (.getfield 9, 3) := by decide +kernel
theorem dX7_greatest_49 : decode cX7_greatest 49 = .ok (.iload_n 1, 1) := by decide +kernel
theorem dX7_greatest_50 : decode cX7_greatest 50 = .ok (.aaload, 1) := by decide +kernel
theorem dX7_greatest_51 : decode cX7_greatest 51 = .ok (.iload 4, 2) := by decide +kernel
theorem dX7_greatest_53 : decode cX7_greatest 53 = .ok (.iload_n 3, 1) := by decide +kernel
theorem dX7_greatest_54 : decode cX7_greatest 54 = .ok (.invokevirtual 178, 3) := by decide +kernel
theorem dX7_greatest_57 : decode cX7_greatest 57 = .ok (.ifCond .le 6, 3) := by decide +kernel
theorem dX7_greatest_60 : decode cX7_greatest 60 = .ok (.iload 4, 2) := by decide +kernel
theorem dX7_greatest_62 : decode cX7_greatest 62 = .ok (.istore_n 3, 1) := by decide +kernel
theorem dX7_greatest_63 : decode cX7_greatest 63 = .ok (.iinc 4 1, 3) := by decide +kernel
theorem dX7_greatest_66 : decode cX7_greatest 66 = .ok (.goto (-61), 3) := by decide +kernel
theorem dX7_greatest_69 : decode cX7_greatest 69 = .ok (.iload_n 3, 1) := by decide +kernel
theorem dX7_greatest_70 : decode cX7_greatest 70 = .ok (.iconst (-1), 1) := by decide +kernel
theorem dX7_greatest_71 : decode cX7_greatest 71 = .ok (.if_icmp .ne 7, 3) := by decide +kernel
theorem dX7_greatest_74 : decode cX7_greatest 74 = .ok (.iconst 0, 1) := by decide +kernel
theorem dX7_greatest_75 : decode cX7_greatest 75 = .ok (.goto 4, 3) := by decide +kernel
theorem dX7_greatest_78 : decode cX7_greatest 78 = .ok (.iload_n 3, 1) := by decide +kernel
theorem dX7_greatest_79 : decode cX7_greatest 79 = .ok (.ireturn, 1) := by decide +kernel
def wp_X7_greatest_63 (h : Nat) (x1 : Int32) (x2 : Int32) (x3 : Int32) (x4 : Int32) (S : xm_S) (g : Int32 → xm_S → Prop) (Z5 : Int32 → Int32 → Int32 → Int32 → xm_S → Prop) : Prop :=
  ∀ y1, y1 = (x4 + (1 : Int32)) → Z5 x1 x2 x3 y1 S
set_option maxRecDepth 100000 in
set_option maxHeartbeats 4000000 in
theorem kp_X7_greatest_63 {K : xm_K} (h : Nat) (x1 : Int32) (x2 : Int32) (x3 : Int32) (x4 : Int32) (S : xm_S) {g : Int32 → xm_S → Prop} {Z5 : Int32 → Int32 → Int32 → Int32 → xm_S → Prop} (C : xm_Cx K cX7_greatest RX7 6 (some (FieldType.int)) rm_X7_greatest) (N : xm_Nx K) (hg : ∀ v S, g v S → xm_q K (some (xm_i v)) S) (hZ5 : ∀ x1 x2 x3 x4 S, Z5 x1 x2 x3 x4 S → xm_W K 0 0 5 [(0, xm_r (some h)), (1, xm_i x1), (2, xm_i x2), (3, xm_i x3), (4, xm_i x4)] [] S) (h1 : wp_X7_greatest_63 h x1 x2 x3 x4 S g Z5) : xm_W K 0 0 63 [(0, xm_r (some h)), (1, xm_i x1), (2, xm_i x2), (3, xm_i x3), (4, xm_i x4)] [] S := by
  unfold wp_X7_greatest_63 at h1
  obtain ⟨y1, e2⟩ : ∃ y1, y1 = (x4 + (1 : Int32)) := ⟨_, rfl⟩
  have h1 := h1 y1 e2
  refine x_iinc (v := y1) (L' := [(4, xm_i y1), (0, xm_r (some h)), (1, xm_i x1), (2, xm_i x2), (3, xm_i x3)]) C 4 dX7_greatest_63 rfl (by rw [e2]; rfl) (by decide) rfl ?_
  refine x_goto (tgt := 5) C dX7_greatest_66 (by decide) ?_
  refine x_keep (L' := [(0, xm_r (some h)), (1, xm_i x1), (2, xm_i x2), (3, xm_i x3), (4, xm_i y1)]) C [1, 2, 3, 4, 0] rfl ?_
  exact hZ5 x1 x2 x3 y1 S h1
def wp_X7_greatest_60 (h : Nat) (x1 : Int32) (x2 : Int32) (x4 : Int32) (S : xm_S) (g : Int32 → xm_S → Prop) (Z5 : Int32 → Int32 → Int32 → Int32 → xm_S → Prop) : Prop :=
  wp_X7_greatest_63 h x1 x2 x4 x4 S g Z5
set_option maxRecDepth 100000 in
set_option maxHeartbeats 4000000 in
theorem kp_X7_greatest_60 {K : xm_K} (h : Nat) (x1 : Int32) (x2 : Int32) (x4 : Int32) (S : xm_S) {g : Int32 → xm_S → Prop} {Z5 : Int32 → Int32 → Int32 → Int32 → xm_S → Prop} (C : xm_Cx K cX7_greatest RX7 6 (some (FieldType.int)) rm_X7_greatest) (N : xm_Nx K) (hg : ∀ v S, g v S → xm_q K (some (xm_i v)) S) (hZ5 : ∀ x1 x2 x3 x4 S, Z5 x1 x2 x3 x4 S → xm_W K 0 0 5 [(0, xm_r (some h)), (1, xm_i x1), (2, xm_i x2), (3, xm_i x3), (4, xm_i x4)] [] S) (h1 : wp_X7_greatest_60 h x1 x2 x4 S g Z5) : xm_W K 0 0 60 [(0, xm_r (some h)), (1, xm_i x1), (2, xm_i x2), (4, xm_i x4)] [] S := by
  unfold wp_X7_greatest_60 at h1
  refine x_iload C 3 dX7_greatest_60 rfl ?_
  refine x_istore_n (L' := [(3, xm_i x4), (0, xm_r (some h)), (1, xm_i x1), (2, xm_i x2), (4, xm_i x4)]) C dX7_greatest_62 rfl (by decide) rfl ?_
  refine x_keep (L' := [(0, xm_r (some h)), (1, xm_i x1), (2, xm_i x2), (3, xm_i x4), (4, xm_i x4)]) C [1, 2, 3, 0, 4] rfl ?_
  exact kp_X7_greatest_63 h x1 x2 x4 x4 S C N hg hZ5 h1
def wp_X7_greatest_33 (h : Nat) (x1 : Int32) (x2 : Int32) (x3 : Int32) (x4 : Int32) (s0 : Int32) (S : xm_S) (g : Int32 → xm_S → Prop) (Z5 : Int32 → Int32 → Int32 → Int32 → xm_S → Prop) : Prop :=
  (s0 = 0 → wp_X7_greatest_63 h x1 x2 x3 x4 S g Z5) ∧ (¬ s0 = 0 → (x3 = (-1 : Int32) → wp_X7_greatest_60 h x1 x2 x4 S g Z5) ∧ (¬ x3 = (-1 : Int32) → st_t S h = some (7, 0) ∧ ∃ n4, (st_r S h 0) = some n4 ∧ ∃ z7, st_t S n4 = some (115, z7) ∧ vp_in x1 z7 ∧ ∃ n9, (st_r S n4 (x1).toNatClampNeg) = some n9 ∧ st_t S n9 = some (5, 0) ∧ wp_X5_order n9 x4 x3 S (fun r13 S12 => (r13 ≤ 0 → wp_X7_greatest_63 h x1 x2 x3 x4 S12 g Z5) ∧ (¬ r13 ≤ 0 → wp_X7_greatest_60 h x1 x2 x4 S12 g Z5))))
set_option maxRecDepth 100000 in
set_option maxHeartbeats 4000000 in
theorem kp_X7_greatest_33 {K : xm_K} (h : Nat) (x1 : Int32) (x2 : Int32) (x3 : Int32) (x4 : Int32) (s0 : Int32) (S : xm_S) {g : Int32 → xm_S → Prop} {Z5 : Int32 → Int32 → Int32 → Int32 → xm_S → Prop} (C : xm_Cx K cX7_greatest RX7 6 (some (FieldType.int)) rm_X7_greatest) (N : xm_Nx K) (hg : ∀ v S, g v S → xm_q K (some (xm_i v)) S) (hZ5 : ∀ x1 x2 x3 x4 S, Z5 x1 x2 x3 x4 S → xm_W K 0 0 5 [(0, xm_r (some h)), (1, xm_i x1), (2, xm_i x2), (3, xm_i x3), (4, xm_i x4)] [] S) (h1 : wp_X7_greatest_33 h x1 x2 x3 x4 s0 S g Z5) : xm_W K 0 0 33 [(0, xm_r (some h)), (1, xm_i x1), (2, xm_i x2), (3, xm_i x3), (4, xm_i x4)] [xm_i s0] S := by
  unfold wp_X7_greatest_33 at h1
  refine x_istore (L' := [(5, xm_i s0), (0, xm_r (some h)), (1, xm_i x1), (2, xm_i x2), (3, xm_i x3), (4, xm_i x4)]) C dX7_greatest_33 (by decide) rfl ?_
  refine x_iload C 0 dX7_greatest_35 rfl ?_
  refine x_if_eq (tgt := 63) C dX7_greatest_37 (by decide) (fun z9 => ?_) (fun z9 => ?_)
  · have h1 := h1.1 z9
    refine x_keep (L' := [(0, xm_r (some h)), (1, xm_i x1), (2, xm_i x2), (3, xm_i x3), (4, xm_i x4)]) C [1, 2, 3, 4, 5] rfl ?_
    exact kp_X7_greatest_63 h x1 x2 x3 x4 S C N hg hZ5 h1
  · have h1 := h1.2 z9
    refine x_iload_n C 4 dX7_greatest_40 rfl rfl ?_
    refine x_iconst (v := (-1 : Int32)) C dX7_greatest_41 (by decide) ?_
    refine x_icmp_eq (tgt := 60) C dX7_greatest_42 (by decide) (fun z9 => ?_) (fun z9 => ?_)
    · have h1 := h1.1 z9
      refine x_keep (L' := [(0, xm_r (some h)), (1, xm_i x1), (2, xm_i x2), (4, xm_i x4)]) C [1, 2, 3, 5] rfl ?_
      exact kp_X7_greatest_60 h x1 x2 x4 S C N hg hZ5 h1
    · have h1 := h1.2 z9
      refine x_aload_n C 1 dX7_greatest_45 rfl rfl ?_
      obtain ⟨ht3, h1⟩ := h1
      refine x_getf_r (n := h) C rfl ht3 fd_58 (by decide) dX7_greatest_46 ?_
      refine x_iload_n C 2 dX7_greatest_49 rfl rfl ?_
      obtain ⟨n4, hr5, h1⟩ := h1
      obtain ⟨z7, ht6, h1⟩ := h1
      obtain ⟨hi8, h1⟩ := h1
      refine x_aald (n := n4) C hr5 (by decide) rfl ht6 hi8 dX7_greatest_50 ?_
      refine x_iload C 5 dX7_greatest_51 rfl ?_
      refine x_iload_n C 4 dX7_greatest_53 rfl rfl ?_
      obtain ⟨n9, hr10, h1⟩ := h1
      obtain ⟨ht11, h1⟩ := h1
      refine x_callV (rm' := rm_X5_order) (n := n9) C (kp_X5_order_met h1) lk_23 gw_178 gw_179 xv_5 rfl hr10 ht11 rfl (Nat.le_of_ble_eq_true rfl) ⟨Nat.le_of_ble_eq_true rfl, Nat.le_of_ble_eq_true rfl, (Nat.le_of_ble_eq_true rfl), (Nat.le_of_ble_eq_true rfl)⟩ dX7_greatest_54 xm_kx (xm_ki (fun r13 S12 h1 => ?_))
      refine x_if_le (tgt := 63) C dX7_greatest_57 (by decide) (fun z9 => ?_) (fun z9 => ?_)
      · have h1 := h1.1 z9
        refine x_keep (L' := [(0, xm_r (some h)), (1, xm_i x1), (2, xm_i x2), (3, xm_i x3), (4, xm_i x4)]) C [1, 2, 3, 4, 5] rfl ?_
        exact kp_X7_greatest_63 h x1 x2 x3 x4 S12 C N hg hZ5 h1
      · have h1 := h1.2 z9
        refine x_keep (L' := [(0, xm_r (some h)), (1, xm_i x1), (2, xm_i x2), (4, xm_i x4)]) C [1, 2, 3, 5] rfl ?_
        exact kp_X7_greatest_60 h x1 x2 x4 S12 C N hg hZ5 h1
def wp_X7_greatest_79 (h : Nat) (s0 : Int32) (S : xm_S) (g : Int32 → xm_S → Prop) : Prop :=
  g s0 S
set_option maxRecDepth 100000 in
set_option maxHeartbeats 4000000 in
theorem kp_X7_greatest_79 {K : xm_K} (h : Nat) (s0 : Int32) (S : xm_S) {g : Int32 → xm_S → Prop} (C : xm_Cx K cX7_greatest RX7 6 (some (FieldType.int)) rm_X7_greatest) (N : xm_Nx K) (hg : ∀ v S, g v S → xm_q K (some (xm_i v)) S)  (h1 : wp_X7_greatest_79 h s0 S g) : xm_W K 0 0 79 [] [xm_i s0] S := by
  unfold wp_X7_greatest_79 at h1
  exact x_iret C (Nat.le_of_ble_eq_true rfl) (Nat.le_of_ble_eq_true rfl) rfl dX7_greatest_79 (hg _ _ h1)
def wp_X7_greatest_5B (h : Nat) (x1 : Int32) (x2 : Int32) (x3 : Int32) (x4 : Int32) (S : xm_S) (g : Int32 → xm_S → Prop) (Z5 : Int32 → Int32 → Int32 → Int32 → xm_S → Prop) : Prop :=
  st_t S h = some (7, 0) ∧ ∃ n15, (st_r S h 0) = some n15 ∧ ∃ z18, st_t S n15 = some (115, z18) ∧ vp_in x1 z18 ∧ ∃ n20, (st_r S n15 (x1).toNatClampNeg) = some n20 ∧ st_t S n20 = some (5, 0) ∧ ((st_i S n20 2) ≤ x4 → (¬ x3 = (-1 : Int32) → wp_X7_greatest_79 h x3 S g) ∧ (x3 = (-1 : Int32) → wp_X7_greatest_79 h (0 : Int32) S g)) ∧ (¬ (st_i S n20 2) ≤ x4 → (((x2 >>> (x4 &&& 31)) &&& (1 : Int32)) = 0 → wp_X7_greatest_33 h x1 x2 x3 x4 (0 : Int32) S g Z5) ∧ (¬ ((x2 >>> (x4 &&& 31)) &&& (1 : Int32)) = 0 → wp_X7_greatest_33 h x1 x2 x3 x4 (1 : Int32) S g Z5))
def wp_X7_greatest_5 (h : Nat) (x1 : Int32) (x2 : Int32) (x3 : Int32) (x4 : Int32) (S : xm_S) (g : Int32 → xm_S → Prop) : Prop :=
  ∀ Z5 : Int32 → Int32 → Int32 → Int32 → xm_S → Prop, (∀ x1 x2 x3 x4 S, wp_X7_greatest_5B h x1 x2 x3 x4 S g Z5 → Z5 x1 x2 x3 x4 S) → Z5 x1 x2 x3 x4 S
set_option maxRecDepth 100000 in
set_option maxHeartbeats 4000000 in
theorem kp_X7_greatest_5B {K : xm_K} (h : Nat) (x1 : Int32) (x2 : Int32) (x3 : Int32) (x4 : Int32) (S : xm_S) {g : Int32 → xm_S → Prop} {Z5 : Int32 → Int32 → Int32 → Int32 → xm_S → Prop} (C : xm_Cx K cX7_greatest RX7 6 (some (FieldType.int)) rm_X7_greatest) (N : xm_Nx K) (hg : ∀ v S, g v S → xm_q K (some (xm_i v)) S) (hZ5 : ∀ x1 x2 x3 x4 S, Z5 x1 x2 x3 x4 S → xm_W K 0 0 5 [(0, xm_r (some h)), (1, xm_i x1), (2, xm_i x2), (3, xm_i x3), (4, xm_i x4)] [] S) (h1 : wp_X7_greatest_5B h x1 x2 x3 x4 S g Z5) : xm_W K 0 0 5 [(0, xm_r (some h)), (1, xm_i x1), (2, xm_i x2), (3, xm_i x3), (4, xm_i x4)] [] S := by
  unfold wp_X7_greatest_5B at h1
  refine x_iload C 4 dX7_greatest_5 rfl ?_
  refine x_aload_n C 0 dX7_greatest_7 rfl rfl ?_
  obtain ⟨ht14, h1⟩ := h1
  refine x_getf_r (n := h) C rfl ht14 fd_58 (by decide) dX7_greatest_8 ?_
  refine x_iload_n C 1 dX7_greatest_11 rfl rfl ?_
  obtain ⟨n15, hr16, h1⟩ := h1
  obtain ⟨z18, ht17, h1⟩ := h1
  obtain ⟨hi19, h1⟩ := h1
  refine x_aald (n := n15) C hr16 (by decide) rfl ht17 hi19 dX7_greatest_12 ?_
  obtain ⟨n20, hr21, h1⟩ := h1
  obtain ⟨ht22, h1⟩ := h1
  refine x_getf_i (n := n20) C hr21 ht22 fd_64 (by decide) dX7_greatest_13 ?_
  refine x_icmp_ge (tgt := 69) C dX7_greatest_16 (by decide) (fun z9 => ?_) (fun z9 => ?_)
  · have h1 := h1.1 z9
    refine x_iload_n C 3 dX7_greatest_69 rfl rfl ?_
    refine x_iconst (v := (-1 : Int32)) C dX7_greatest_70 (by decide) ?_
    refine x_icmp_ne (tgt := 78) C dX7_greatest_71 (by decide) (fun z9 => ?_) (fun z9 => ?_)
    · have h1 := h1.1 z9
      refine x_iload_n C 3 dX7_greatest_78 rfl rfl ?_
      refine x_keep (L' := []) C [] rfl ?_
      exact kp_X7_greatest_79 h x3 S C N hg  h1
    · have h1 := h1.2 z9
      refine x_iconst (v := (0 : Int32)) C dX7_greatest_74 (by decide) ?_
      refine x_goto (tgt := 79) C dX7_greatest_75 (by decide) ?_
      refine x_keep (L' := []) C [] rfl ?_
      exact kp_X7_greatest_79 h (0 : Int32) S C N hg  h1
  · have h1 := h1.2 z9
    refine x_iload_n C 2 dX7_greatest_19 rfl rfl ?_
    refine x_iload C 4 dX7_greatest_20 rfl ?_
    refine x_ishr C dX7_greatest_22 ?_
    refine x_iconst (v := (1 : Int32)) C dX7_greatest_23 (by decide) ?_
    refine x_iand C dX7_greatest_24 ?_
    refine x_if_eq (tgt := 32) C dX7_greatest_25 (by decide) (fun z9 => ?_) (fun z9 => ?_)
    · have h1 := h1.1 z9
      refine x_iconst (v := (0 : Int32)) C dX7_greatest_32 (by decide) ?_
      exact kp_X7_greatest_33 h x1 x2 x3 x4 (0 : Int32) S C N hg hZ5 h1
    · have h1 := h1.2 z9
      refine x_iconst (v := (1 : Int32)) C dX7_greatest_28 (by decide) ?_
      refine x_goto (tgt := 33) C dX7_greatest_29 (by decide) ?_
      exact kp_X7_greatest_33 h x1 x2 x3 x4 (1 : Int32) S C N hg hZ5 h1
theorem kp_X7_greatest_5 {K : xm_K} (h : Nat) (x1 : Int32) (x2 : Int32) (x3 : Int32) (x4 : Int32) (S : xm_S) {g : Int32 → xm_S → Prop} (C : xm_Cx K cX7_greatest RX7 6 (some (FieldType.int)) rm_X7_greatest) (N : xm_Nx K) (hg : ∀ v S, g v S → xm_q K (some (xm_i v)) S)  (h1 : wp_X7_greatest_5 h x1 x2 x3 x4 S g) : xm_W K 0 0 5 [(0, xm_r (some h)), (1, xm_i x1), (2, xm_i x2), (3, xm_i x3), (4, xm_i x4)] [] S :=
  h1 (fun x1 x2 x3 x4 S => xm_W K 0 0 5 [(0, xm_r (some h)), (1, xm_i x1), (2, xm_i x2), (3, xm_i x3), (4, xm_i x4)] [] S) (fun x1 x2 x3 x4 S hb => kp_X7_greatest_5B h x1 x2 x3 x4 S C N hg (fun x1 x2 x3 x4 S hz => hz) hb)
def wp_X7_greatest (h : Nat) (x1 : Int32) (x2 : Int32) (S : xm_S) (g : Int32 → xm_S → Prop) : Prop :=
  wp_X7_greatest_5 h x1 x2 (-1 : Int32) (0 : Int32) S g
set_option maxRecDepth 100000 in
set_option maxHeartbeats 4000000 in
theorem kp_X7_greatest {K : xm_K} (h : Nat) (x1 : Int32) (x2 : Int32) (S : xm_S) {g : Int32 → xm_S → Prop} (C : xm_Cx K cX7_greatest RX7 6 (some (FieldType.int)) rm_X7_greatest) (N : xm_Nx K) (hg : ∀ v S, g v S → xm_q K (some (xm_i v)) S)  (h1 : wp_X7_greatest h x1 x2 S g) : xm_W K 0 0 0 [(0, xm_r (some h)), (1, xm_i x1), (2, xm_i x2)] [] S := by
  unfold wp_X7_greatest at h1
  refine x_iconst (v := (-1 : Int32)) C dX7_greatest_0 (by decide) ?_
  refine x_istore_n (L' := [(3, xm_i (-1 : Int32)), (0, xm_r (some h)), (1, xm_i x1), (2, xm_i x2)]) C dX7_greatest_1 rfl (by decide) rfl ?_
  refine x_iconst (v := (0 : Int32)) C dX7_greatest_2 (by decide) ?_
  refine x_istore (L' := [(4, xm_i (0 : Int32)), (3, xm_i (-1 : Int32)), (0, xm_r (some h)), (1, xm_i x1), (2, xm_i x2)]) C dX7_greatest_3 (by decide) rfl ?_
  refine x_keep (L' := [(0, xm_r (some h)), (1, xm_i x1), (2, xm_i x2), (3, xm_i (-1 : Int32)), (4, xm_i (0 : Int32))]) C [2, 3, 4, 1, 0] rfl ?_
  exact kp_X7_greatest_5 h x1 x2 (-1 : Int32) (0 : Int32) S C N hg  h1
theorem kp_X7_greatest_met {h : Nat} {x1 : Int32} {x2 : Int32} {S : xm_S} {g : Int32 → xm_S → Prop}  (h1 : wp_X7_greatest h x1 x2 S g) : xm_Met yX7_greatest cX7_greatest 6 (some (FieldType.int)) rm_X7_greatest [xm_r (some h), xm_i x1, xm_i x2] S (xm_qi g) xm_nox :=
  xm_ofW RX7 (by decide +kernel) rfl (Nat.le_of_ble_eq_true rfl) (fun K C N hq hx hi => kp_X7_greatest h x1 x2 S C N (fun v S h => by rw [hq]; exact ⟨v, rfl, h⟩)  h1)
def rm_X7_isSettled : Room := { frames := 1, cells := 0, slots := 0, locals := 20 }
theorem dX7_isSettled_0 : decode cX7_isSettled 0 = .ok (.aload_n 0, 1) := by decide +kernel
theorem dX7_isSettled_1 : decode cX7_isSettled 1 = .ok (.getfield 57, 3) := by decide +kernel
theorem dX7_isSettled_4 : decode cX7_isSettled 4 = .ok (.ifCond .eq 11, 3) := by decide +kernel
theorem dX7_isSettled_7 : decode cX7_isSettled 7 = .ok (.aload_n 0, 1) := by decide +kernel
theorem dX7_isSettled_8 : decode cX7_isSettled 8 = .ok (.getfield 39, 3) := by decide +kernel
theorem dX7_isSettled_11 : decode cX7_isSettled 11 = .ok (.iconst 1, 1) := by decide +kernel
theorem dX7_isSettled_12 : decode cX7_isSettled 12 = .ok (.if_icmp .ne 5, 3) := by decide +kernel
theorem dX7_isSettled_15 : decode cX7_isSettled 15 = .ok (.iconst 0, 1) := by decide +kernel
theorem dX7_isSettled_16 : decode cX7_isSettled 16 = .ok (.ireturn, 1) := by decide +kernel
theorem dX7_isSettled_17 : decode cX7_isSettled 17 = .ok (.aload_n 0, 1) := by decide +kernel
theorem dX7_isSettled_18 : decode cX7_isSettled 18 = .ok (.getfield 39, 3) := by decide +kernel
theorem dX7_isSettled_21 : decode cX7_isSettled 21 = .ok (.ifCond .eq 27, 3) := by decide +kernel
theorem dX7_isSettled_24 : decode cX7_isSettled 24 = .ok (.iload_n 1, 1) := by decide +kernel
theorem dX7_isSettled_25 : decode cX7_isSettled 25 = .ok (.aload_n 0, 1) := by decide +kernel
theorem dX7_isSettled_26 : decode cX7_isSettled 26 = .ok (.getfield 63, 3) := by decide +kernel
theorem dX7_isSettled_29 : decode cX7_isSettled 29 = .ok (.if_icmp .gt 19, 3) := by decide +kernel
theorem dX7_isSettled_32 : decode cX7_isSettled 32 = .ok (.iload_n 1, 1) := by decide +kernel
theorem dX7_isSettled_33 : decode cX7_isSettled 33 = .ok (.aload_n 0, 1) := by decide +kernel
theorem dX7_isSettled_34 : decode cX7_isSettled 34 = .ok (.getfield 63, 3) := by decide +kernel
theorem dX7_isSettled_37 : decode cX7_isSettled 37 = .ok (.if_icmp .ne 15, 3) := by decide +kernel
theorem dX7_isSettled_40 : decode cX7_isSettled 40 = .ok (.iload_n 2, 1) := by decide +kernel
theorem dX7_isSettled_41 : decode cX7_isSettled 41 = .ok (.aload_n 0, 1) := by decide +kernel
theorem dX7_isSettled_42 : decode cX7_isSettled 42 = .ok (.getfield 66, 3) := by decide +kernel
theorem dX7_isSettled_45 : decode cX7_isSettled 45 = .ok (.if_icmp .lt 7, 3) := by decide +kernel
theorem dX7_isSettled_48 : decode cX7_isSettled 48 = .ok (.iconst 1, 1) := by decide +kernel
theorem dX7_isSettled_49 : decode cX7_isSettled 49 = .ok (.goto 4, 3) := by decide +kernel
theorem dX7_isSettled_52 : decode cX7_isSettled 52 = .ok (.iconst 0, 1) := by decide +kernel
theorem dX7_isSettled_53 : decode cX7_isSettled 53 = .ok (.ireturn, 1) := by decide +kernel
def wp_X7_isSettled_15 (h : Nat)  (S : xm_S) (g : Int32 → xm_S → Prop) : Prop :=
  g (0 : Int32) S
set_option maxRecDepth 100000 in
set_option maxHeartbeats 4000000 in
theorem kp_X7_isSettled_15 {K : xm_K} (h : Nat)  (S : xm_S) {g : Int32 → xm_S → Prop} (C : xm_Cx K cX7_isSettled RX7 3 (some (FieldType.boolean)) rm_X7_isSettled) (N : xm_Nx K) (hg : ∀ v S, g v S → xm_q K (some (xm_i v)) S)  (h1 : wp_X7_isSettled_15 h  S g) : xm_W K 0 0 15 [] [] S := by
  unfold wp_X7_isSettled_15 at h1
  refine x_iconst (v := (0 : Int32)) C dX7_isSettled_15 (by decide) ?_
  exact x_zret C (Nat.le_of_ble_eq_true rfl) (Nat.le_of_ble_eq_true rfl) rfl (by decide) dX7_isSettled_16 (hg _ _ h1)
def wp_X7_isSettled_53 (h : Nat) (s0 : Int32) (S : xm_S) (g : Int32 → xm_S → Prop) : Prop :=
  (s0 = 0 ∨ s0 = 1) ∧ g s0 S
set_option maxRecDepth 100000 in
set_option maxHeartbeats 4000000 in
theorem kp_X7_isSettled_53 {K : xm_K} (h : Nat) (s0 : Int32) (S : xm_S) {g : Int32 → xm_S → Prop} (C : xm_Cx K cX7_isSettled RX7 3 (some (FieldType.boolean)) rm_X7_isSettled) (N : xm_Nx K) (hg : ∀ v S, g v S → xm_q K (some (xm_i v)) S)  (h1 : wp_X7_isSettled_53 h s0 S g) : xm_W K 0 0 53 [] [xm_i s0] S := by
  unfold wp_X7_isSettled_53 at h1
  exact x_zret C (Nat.le_of_ble_eq_true rfl) (Nat.le_of_ble_eq_true rfl) rfl h1.1 dX7_isSettled_53 (hg _ _ h1.2)
def wp_X7_isSettled_48 (h : Nat)  (S : xm_S) (g : Int32 → xm_S → Prop) : Prop :=
  wp_X7_isSettled_53 h (1 : Int32) S g
set_option maxRecDepth 100000 in
set_option maxHeartbeats 4000000 in
theorem kp_X7_isSettled_48 {K : xm_K} (h : Nat)  (S : xm_S) {g : Int32 → xm_S → Prop} (C : xm_Cx K cX7_isSettled RX7 3 (some (FieldType.boolean)) rm_X7_isSettled) (N : xm_Nx K) (hg : ∀ v S, g v S → xm_q K (some (xm_i v)) S)  (h1 : wp_X7_isSettled_48 h  S g) : xm_W K 0 0 48 [] [] S := by
  unfold wp_X7_isSettled_48 at h1
  refine x_iconst (v := (1 : Int32)) C dX7_isSettled_48 (by decide) ?_
  refine x_goto (tgt := 53) C dX7_isSettled_49 (by decide) ?_
  exact kp_X7_isSettled_53 h (1 : Int32) S C N hg  h1
def wp_X7_isSettled_52 (h : Nat)  (S : xm_S) (g : Int32 → xm_S → Prop) : Prop :=
  wp_X7_isSettled_53 h (0 : Int32) S g
set_option maxRecDepth 100000 in
set_option maxHeartbeats 4000000 in
theorem kp_X7_isSettled_52 {K : xm_K} (h : Nat)  (S : xm_S) {g : Int32 → xm_S → Prop} (C : xm_Cx K cX7_isSettled RX7 3 (some (FieldType.boolean)) rm_X7_isSettled) (N : xm_Nx K) (hg : ∀ v S, g v S → xm_q K (some (xm_i v)) S)  (h1 : wp_X7_isSettled_52 h  S g) : xm_W K 0 0 52 [] [] S := by
  unfold wp_X7_isSettled_52 at h1
  refine x_iconst (v := (0 : Int32)) C dX7_isSettled_52 (by decide) ?_
  exact kp_X7_isSettled_53 h (0 : Int32) S C N hg  h1
def wp_X7_isSettled (h : Nat) (x1 : Int32) (x2 : Int32) (S : xm_S) (g : Int32 → xm_S → Prop) : Prop :=
  st_t S h = some (7, 0) ∧ ((st_i S h 14) = 0 → wp_X7_isSettled_15 h S g) ∧ (¬ (st_i S h 14) = 0 → (¬ (st_i S h 8) = (1 : Int32) → ((st_i S h 8) = 0 → wp_X7_isSettled_48 h S g) ∧ (¬ (st_i S h 8) = 0 → ((st_i S h 16) < x1 → wp_X7_isSettled_48 h S g) ∧ (¬ (st_i S h 16) < x1 → (¬ x1 = (st_i S h 16) → wp_X7_isSettled_52 h S g) ∧ (x1 = (st_i S h 16) → (x2 < (st_i S h 17) → wp_X7_isSettled_52 h S g) ∧ (¬ x2 < (st_i S h 17) → wp_X7_isSettled_48 h S g))))) ∧ ((st_i S h 8) = (1 : Int32) → wp_X7_isSettled_15 h S g))
set_option maxRecDepth 100000 in
set_option maxHeartbeats 4000000 in
theorem kp_X7_isSettled {K : xm_K} (h : Nat) (x1 : Int32) (x2 : Int32) (S : xm_S) {g : Int32 → xm_S → Prop} (C : xm_Cx K cX7_isSettled RX7 3 (some (FieldType.boolean)) rm_X7_isSettled) (N : xm_Nx K) (hg : ∀ v S, g v S → xm_q K (some (xm_i v)) S)  (h1 : wp_X7_isSettled h x1 x2 S g) : xm_W K 0 0 0 [(0, xm_r (some h)), (1, xm_i x1), (2, xm_i x2)] [] S := by
  unfold wp_X7_isSettled at h1
  refine x_aload_n C 0 dX7_isSettled_0 rfl rfl ?_
  obtain ⟨ht1, h1⟩ := h1
  refine x_getf_i (n := h) C rfl ht1 fd_65 (by decide) dX7_isSettled_1 ?_
  refine x_if_eq (tgt := 15) C dX7_isSettled_4 (by decide) (fun z9 => ?_) (fun z9 => ?_)
  · have h1 := h1.1 z9
    refine x_keep (L' := []) C [] rfl ?_
    exact kp_X7_isSettled_15 h S C N hg  h1
  · have h1 := h1.2 z9
    refine x_aload_n C 0 dX7_isSettled_7 rfl rfl ?_
    refine x_getf_i (n := h) C rfl ht1 fd_66 (by decide) dX7_isSettled_8 ?_
    refine x_iconst (v := (1 : Int32)) C dX7_isSettled_11 (by decide) ?_
    refine x_icmp_ne (tgt := 17) C dX7_isSettled_12 (by decide) (fun z9 => ?_) (fun z9 => ?_)
    · have h1 := h1.1 z9
      refine x_aload_n C 0 dX7_isSettled_17 rfl rfl ?_
      refine x_getf_i (n := h) C rfl ht1 fd_66 (by decide) dX7_isSettled_18 ?_
      refine x_if_eq (tgt := 48) C dX7_isSettled_21 (by decide) (fun z9 => ?_) (fun z9 => ?_)
      · have h1 := h1.1 z9
        refine x_keep (L' := []) C [] rfl ?_
        exact kp_X7_isSettled_48 h S C N hg  h1
      · have h1 := h1.2 z9
        refine x_iload_n C 1 dX7_isSettled_24 rfl rfl ?_
        refine x_aload_n C 0 dX7_isSettled_25 rfl rfl ?_
        refine x_getf_i (n := h) C rfl ht1 fd_67 (by decide) dX7_isSettled_26 ?_
        refine x_icmp_gt (tgt := 48) C dX7_isSettled_29 (by decide) (fun z9 => ?_) (fun z9 => ?_)
        · have h1 := h1.1 z9
          refine x_keep (L' := []) C [] rfl ?_
          exact kp_X7_isSettled_48 h S C N hg  h1
        · have h1 := h1.2 z9
          refine x_iload_n C 1 dX7_isSettled_32 rfl rfl ?_
          refine x_aload_n C 0 dX7_isSettled_33 rfl rfl ?_
          refine x_getf_i (n := h) C rfl ht1 fd_67 (by decide) dX7_isSettled_34 ?_
          refine x_icmp_ne (tgt := 52) C dX7_isSettled_37 (by decide) (fun z9 => ?_) (fun z9 => ?_)
          · have h1 := h1.1 z9
            refine x_keep (L' := []) C [] rfl ?_
            exact kp_X7_isSettled_52 h S C N hg  h1
          · have h1 := h1.2 z9
            refine x_iload_n C 2 dX7_isSettled_40 rfl rfl ?_
            refine x_aload_n C 0 dX7_isSettled_41 rfl rfl ?_
            refine x_getf_i (n := h) C rfl ht1 fd_68 (by decide) dX7_isSettled_42 ?_
            refine x_icmp_lt (tgt := 52) C dX7_isSettled_45 (by decide) (fun z9 => ?_) (fun z9 => ?_)
            · have h1 := h1.1 z9
              refine x_keep (L' := []) C [] rfl ?_
              exact kp_X7_isSettled_52 h S C N hg  h1
            · have h1 := h1.2 z9
              refine x_keep (L' := []) C [] rfl ?_
              exact kp_X7_isSettled_48 h S C N hg  h1
    · have h1 := h1.2 z9
      refine x_keep (L' := []) C [] rfl ?_
      exact kp_X7_isSettled_15 h S C N hg  h1
theorem kp_X7_isSettled_met {h : Nat} {x1 : Int32} {x2 : Int32} {S : xm_S} {g : Int32 → xm_S → Prop}  (h1 : wp_X7_isSettled h x1 x2 S g) : xm_Met yX7_isSettled cX7_isSettled 3 (some (FieldType.boolean)) rm_X7_isSettled [xm_r (some h), xm_i x1, xm_i x2] S (xm_qi g) xm_nox :=
  xm_ofW RX7 (by decide +kernel) rfl (Nat.le_of_ble_eq_true rfl) (fun K C N hq hx hi => kp_X7_isSettled h x1 x2 S C N (fun v S h => by rw [hq]; exact ⟨v, rfl, h⟩)  h1)
def rm_X7_record : Room := { frames := 1, cells := 0, slots := 0, locals := 20 }
theorem dX7_record_0 : decode cX7_record 0 = .ok (.aload_n 0, 1) := by decide +kernel
theorem dX7_record_1 : decode cX7_record 1 = .ok (.dup, 1) := by decide +kernel
theorem dX7_record_2 : decode cX7_record 2 = .ok (.getfield 57, 3) := by decide +kernel
theorem dX7_record_5 : decode cX7_record 5 = .ok (.iconst 1, 1) := by decide +kernel
theorem dX7_record_6 : decode cX7_record 6 = .ok (.iadd, 1) := by decide +kernel
theorem dX7_record_7 : decode cX7_record 7 = .ok (.putfield 57, 3) := by decide +kernel
theorem dX7_record_10 : decode cX7_record 10 = .ok (.aload_n 0, 1) := by decide +kernel
theorem dX7_record_11 : decode cX7_record 11 = .ok (.iload_n 1, 1) := by decide +kernel
theorem dX7_record_12 : decode cX7_record 12 = .ok (.putfield 63, 3) := by decide +kernel
theorem dX7_record_15 : decode cX7_record 15 = .ok (.aload_n 0, 1) := by decide +kernel
theorem dX7_record_16 : decode cX7_record 16 = .ok (.iload_n 2, 1) := by decide +kernel
theorem dX7_record_17 : decode cX7_record 17 = .ok (.putfield 66, 3) := by decide +kernel
theorem dX7_record_20 : decode cX7_record 20 = .ok (.iconst 0, 1) := by decide +kernel
theorem dX7_record_21 : decode cX7_record 21 = .ok (.istore_n 3, 1) := by decide +kernel
theorem dX7_record_22 : decode cX7_record 22 = .ok (.iload_n 3, 1) := by decide +kernel
theorem dX7_record_23 : decode cX7_record 23 = .ok (.bipush 6, 2) := by decide +kernel
theorem dX7_record_25 : decode cX7_record 25 = .ok (.if_icmp .ge 21, 3) := by decide +kernel
theorem dX7_record_28 : decode cX7_record 28 = .ok (.aload_n 0, 1) := by decide +kernel
theorem dX7_record_29 : decode cX7_record 29 = .ok (.getfield 60, 3) := by decide +kernel
theorem dX7_record_32 : decode cX7_record 32 = .ok (.iload_n 3, 1) := by decide +kernel
theorem dX7_record_33 : decode cX7_record 33 = .ok (.aload_n 0, 1) := by decide +kernel
theorem dX7_record_34 : decode cX7_record 34 = .ok (.getfield 45, 3) := by decide +kernel
theorem dX7_record_37 : decode cX7_record 37 = .ok (.iload_n 3, 1) := by decide +kernel
theorem dX7_record_38 : decode cX7_record 38 = .ok (.iaload, 1) := by decide +kernel
theorem dX7_record_39 : decode cX7_record 39 = .ok (.iastore, 1) := by decide +kernel
theorem dX7_record_40 : decode cX7_record 40 = .ok (.iinc 3 1, 3) := by decide +kernel
theorem dX7_record_43 : decode cX7_record 43 = .ok (.goto (-21), 3) := by decide +kernel
theorem dX7_record_46 : decode cX7_record 46 = .ok (.return_, 1) := by decide +kernel
def wp_X7_record_22B (h : Nat) (x3 : Int32) (S : xm_S) (g : xm_S → Prop) (Z22 : Int32 → xm_S → Prop) : Prop :=
  ((nI 6) ≤ x3 → g S) ∧ (¬ (nI 6) ≤ x3 → st_t S h = some (7, 0) ∧ ∃ n2, (st_r S h 10) = some n2 ∧ ∃ z5, st_t S n2 = some (100, z5) ∧ vp_in x3 z5 ∧ ∃ n7, (st_r S h 15) = some n7 ∧ ∃ z10, st_t S n7 = some (100, z10) ∧ vp_in x3 z10 ∧ ∀ S12, S12 = st_pi S n7 (x3).toNatClampNeg (st_i S n2 (x3).toNatClampNeg) → ∀ y14, y14 = (x3 + (1 : Int32)) → Z22 y14 S12)
def wp_X7_record_22 (h : Nat) (x3 : Int32) (S : xm_S) (g : xm_S → Prop) : Prop :=
  ∀ Z22 : Int32 → xm_S → Prop, (∀ x3 S, wp_X7_record_22B h x3 S g Z22 → Z22 x3 S) → Z22 x3 S
set_option maxRecDepth 100000 in
set_option maxHeartbeats 4000000 in
theorem kp_X7_record_22B {K : xm_K} (h : Nat) (x3 : Int32) (S : xm_S) {g : xm_S → Prop} {Z22 : Int32 → xm_S → Prop} (C : xm_Cx K cX7_record RX7 4 none rm_X7_record) (N : xm_Nx K) (hg : ∀ S, g S → xm_q K none S) (hZ22 : ∀ x3 S, Z22 x3 S → xm_W K 0 0 22 [(0, xm_r (some h)), (3, xm_i x3)] [] S) (h1 : wp_X7_record_22B h x3 S g Z22) : xm_W K 0 0 22 [(0, xm_r (some h)), (3, xm_i x3)] [] S := by
  unfold wp_X7_record_22B at h1
  refine x_iload_n C 1 dX7_record_22 rfl rfl ?_
  refine x_bipush (v := (nI 6)) C dX7_record_23 (by decide) ?_
  refine x_icmp_ge (tgt := 46) C dX7_record_25 (by decide) (fun z9 => ?_) (fun z9 => ?_)
  · have h1 := h1.1 z9
    exact x_vret C (Nat.le_of_ble_eq_true rfl) (Nat.le_of_ble_eq_true rfl) rfl dX7_record_46 (hg _ h1)
  · have h1 := h1.2 z9
    refine x_aload_n C 0 dX7_record_28 rfl rfl ?_
    obtain ⟨ht1, h1⟩ := h1
    refine x_getf_r (n := h) C rfl ht1 fd_69 (by decide) dX7_record_29 ?_
    refine x_iload_n C 1 dX7_record_32 rfl rfl ?_
    refine x_aload_n C 0 dX7_record_33 rfl rfl ?_
    refine x_getf_r (n := h) C rfl ht1 fd_60 (by decide) dX7_record_34 ?_
    refine x_iload_n C 1 dX7_record_37 rfl rfl ?_
    obtain ⟨n2, hr3, h1⟩ := h1
    obtain ⟨z5, ht4, h1⟩ := h1
    obtain ⟨hi6, h1⟩ := h1
    refine x_iald (n := n2) C hr3 ht4 hi6 dX7_record_38 ?_
    obtain ⟨n7, hr8, h1⟩ := h1
    obtain ⟨z10, ht9, h1⟩ := h1
    obtain ⟨hi11, h1⟩ := h1
    refine x_iast (n := n7) C hr8 ht9 hi11 dX7_record_39 ?_
    refine x_topS (fun S12 e13 => ?_)
    have h1 := h1 S12 e13
    obtain ⟨y14, e15⟩ : ∃ y14, y14 = (x3 + (1 : Int32)) := ⟨_, rfl⟩
    have h1 := h1 y14 e15
    refine x_iinc (v := y14) (L' := [(3, xm_i y14), (0, xm_r (some h))]) C 1 dX7_record_40 rfl (by rw [e15]; rfl) (by decide) rfl ?_
    refine x_goto (tgt := 22) C dX7_record_43 (by decide) ?_
    refine x_keep (L' := [(0, xm_r (some h)), (3, xm_i y14)]) C [1, 0] rfl ?_
    exact hZ22 y14 S12 h1
theorem kp_X7_record_22 {K : xm_K} (h : Nat) (x3 : Int32) (S : xm_S) {g : xm_S → Prop} (C : xm_Cx K cX7_record RX7 4 none rm_X7_record) (N : xm_Nx K) (hg : ∀ S, g S → xm_q K none S)  (h1 : wp_X7_record_22 h x3 S g) : xm_W K 0 0 22 [(0, xm_r (some h)), (3, xm_i x3)] [] S :=
  h1 (fun x3 S => xm_W K 0 0 22 [(0, xm_r (some h)), (3, xm_i x3)] [] S) (fun x3 S hb => kp_X7_record_22B h x3 S C N hg (fun x3 S hz => hz) hb)
def wp_X7_record (h : Nat) (x1 : Int32) (x2 : Int32) (S : xm_S) (g : xm_S → Prop) : Prop :=
  st_t S h = some (7, 0) ∧ ∀ S17, S17 = st_pi S h 14 ((st_i S h 14) + (1 : Int32)) → ∀ S19, S19 = st_pi S17 h 16 x1 → ∀ S21, S21 = st_pi S19 h 17 x2 → wp_X7_record_22 h (0 : Int32) S21 g
set_option maxRecDepth 100000 in
set_option maxHeartbeats 4000000 in
theorem kp_X7_record {K : xm_K} (h : Nat) (x1 : Int32) (x2 : Int32) (S : xm_S) {g : xm_S → Prop} (C : xm_Cx K cX7_record RX7 4 none rm_X7_record) (N : xm_Nx K) (hg : ∀ S, g S → xm_q K none S)  (h1 : wp_X7_record h x1 x2 S g) : xm_W K 0 0 0 [(0, xm_r (some h)), (1, xm_i x1), (2, xm_i x2)] [] S := by
  unfold wp_X7_record at h1
  refine x_aload_n C 0 dX7_record_0 rfl rfl ?_
  refine x_dup_r C dX7_record_1 ?_
  obtain ⟨ht16, h1⟩ := h1
  refine x_getf_i (n := h) C rfl ht16 fd_65 (by decide) dX7_record_2 ?_
  refine x_iconst (v := (1 : Int32)) C dX7_record_5 (by decide) ?_
  refine x_iadd C dX7_record_6 ?_
  refine x_putf_i (n := h) C rfl ht16 fd_65 xc_7 (by decide) rfl ⟨rfl, rfl⟩ dX7_record_7 ?_
  refine x_topS (fun S17 e18 => ?_)
  have h1 := h1 S17 e18
  refine x_aload_n C 0 dX7_record_10 rfl rfl ?_
  refine x_iload_n C 1 dX7_record_11 rfl rfl ?_
  refine x_putf_i (n := h) C rfl (tk_p e18 ht16) fd_67 xc_7 (by decide) rfl ⟨rfl, rfl⟩ dX7_record_12 ?_
  refine x_topS (fun S19 e20 => ?_)
  have h1 := h1 S19 e20
  refine x_aload_n C 0 dX7_record_15 rfl rfl ?_
  refine x_iload_n C 2 dX7_record_16 rfl rfl ?_
  refine x_putf_i (n := h) C rfl (tk_p e20 (tk_p e18 ht16)) fd_68 xc_7 (by decide) rfl ⟨rfl, rfl⟩ dX7_record_17 ?_
  refine x_topS (fun S21 e22 => ?_)
  have h1 := h1 S21 e22
  refine x_iconst (v := (0 : Int32)) C dX7_record_20 (by decide) ?_
  refine x_istore_n (L' := [(3, xm_i (0 : Int32)), (0, xm_r (some h)), (1, xm_i x1), (2, xm_i x2)]) C dX7_record_21 rfl (by decide) rfl ?_
  refine x_keep (L' := [(0, xm_r (some h)), (3, xm_i (0 : Int32))]) C [1, 0] rfl ?_
  exact kp_X7_record_22 h (0 : Int32) S21 C N hg  h1
theorem kp_X7_record_met {h : Nat} {x1 : Int32} {x2 : Int32} {S : xm_S} {g : xm_S → Prop}  (h1 : wp_X7_record h x1 x2 S g) : xm_Met yX7_record cX7_record 4 none rm_X7_record [xm_r (some h), xm_i x1, xm_i x2] S (xm_qv g) xm_nox :=
  xm_ofW RX7 (by decide +kernel) rfl (Nat.le_of_ble_eq_true rfl) (fun K C N hq hx hi => kp_X7_record h x1 x2 S C N (fun S h => by rw [hq]; exact ⟨rfl, h⟩)  h1)
def rm_X7_search (d : Nat) : Room := { frames := 20 + 2 * d, cells := 0, slots := 0, locals := 500 + 200 * d }
def rm_X7_branch (d : Nat) : Room := { frames := 21 + 2 * d, cells := 0, slots := 0, locals := 600 + 200 * d }
theorem dX7_branch_0 : decode cX7_branch 0 = .ok (.iload_n 2, 1) := by decide +kernel
theorem dX7_branch_1 : decode cX7_branch 1 = .ok (.iconst (-1), 1) := by decide +kernel
theorem dX7_branch_2 : decode cX7_branch 2 = .ok (.if_icmp .ne 7, 3) := by decide +kernel
theorem dX7_branch_5 : decode cX7_branch 5 = .ok (.iconst 0, 1) := by decide +kernel
theorem dX7_branch_6 : decode cX7_branch 6 = .ok (.goto 8, 3) := by decide +kernel
theorem dX7_branch_9 : decode cX7_branch 9 = .ok (.iload_n 1, 1) := by decide +kernel
theorem dX7_branch_10 : decode cX7_branch 10 = .ok (.iload_n 2, 1) := by decide +kernel
theorem dX7_branch_11 : decode cX7_branch 11 = .ok (.invokestatic 109, 3) := by decide +kernel
theorem dX7_branch_14 : decode cX7_branch 14 = .ok (.istore 5, 2) := by decide +kernel
theorem dX7_branch_16 : decode cX7_branch 16 = .ok (.aload_n 0, 1) := by decide +kernel
theorem dX7_branch_17 : decode cX7_branch 17 = .ok (.getfield 30, 3) := by decide +kernel
theorem dX7_branch_20 : decode cX7_branch 20 = .ok (.iload_n 1, 1) := by decide +kernel
theorem dX7_branch_21 : decode cX7_branch 21 = .ok (.iaload, 1) := by decide +kernel
theorem dX7_branch_22 : decode cX7_branch 22 = .ok (.iconst (-1), 1) := by decide +kernel
theorem dX7_branch_23 : decode cX7_branch 23 = .ok (.if_icmp .eq 17, 3) := by decide +kernel
theorem dX7_branch_26 : decode cX7_branch 26 = .ok (.aload_n 0, 1) := by decide +kernel
theorem dX7_branch_27 : decode cX7_branch 27 = .ok (.getfield 30, 3) := by decide +kernel
theorem dX7_branch_30 : decode cX7_branch 30 = .ok (.iload_n 1, 1) := by decide +kernel
theorem dX7_branch_31 : decode cX7_branch 31 = .ok (.iaload, 1) := by decide +kernel
theorem dX7_branch_32 : decode cX7_branch 32 = .ok (.iload_n 2, 1) := by decide +kernel
theorem dX7_branch_33 : decode cX7_branch 33 = .ok (.if_icmp .eq 7, 3) := by decide +kernel
theorem dX7_branch_36 : decode cX7_branch 36 = .ok (.iconst 1, 1) := by decide +kernel
theorem dX7_branch_37 : decode cX7_branch 37 = .ok (.goto 4, 3) := by decide +kernel
theorem dX7_branch_40 : decode cX7_branch 40 = .ok (.iconst 0, 1) := by decide +kernel
theorem dX7_branch_41 : decode cX7_branch 41 = .ok (.istore 6, 2) := by decide +kernel
theorem dX7_branch_43 : decode cX7_branch 43 = .ok (.aload_n 0, 1) := by decide +kernel
theorem dX7_branch_44 : decode cX7_branch 44 = .ok (.getfield 45, 3) := by decide +kernel
theorem dX7_branch_47 : decode cX7_branch 47 = .ok (.iload_n 1, 1) := by decide +kernel
theorem dX7_branch_48 : decode cX7_branch 48 = .ok (.iload_n 2, 1) := by decide +kernel
theorem dX7_branch_49 : decode cX7_branch 49 = .ok (.iastore, 1) := by decide +kernel
theorem dX7_branch_50 : decode cX7_branch 50 = .ok (.aload_n 0, 1) := by decide +kernel
theorem dX7_branch_51 : decode cX7_branch 51 = .ok (.dup, 1) := by decide +kernel
theorem dX7_branch_52 : decode cX7_branch 52 = .ok (.getfield 48, 3) := by decide +kernel
theorem dX7_branch_55 : decode cX7_branch 55 = .ok (.iload 5, 2) := by decide +kernel
theorem dX7_branch_57 : decode cX7_branch 57 = .ok (.ior, 1) := by decide +kernel
theorem dX7_branch_58 : decode cX7_branch 58 = .ok (.putfield 48, 3) := by decide +kernel
theorem dX7_branch_61 : decode cX7_branch 61 = .ok (.aload_n 0, 1) := by decide +kernel
theorem dX7_branch_62 : decode cX7_branch 62 = .ok (.iload_n 1, 1) := by decide +kernel
theorem dX7_branch_63 : decode cX7_branch 63 = .ok (.iconst 1, 1) := by decide +kernel
theorem dX7_branch_64 : decode cX7_branch 64 = .ok (.iadd, 1) := by decide +kernel
theorem dX7_branch_65 : decode cX7_branch 65 = .ok (.iload 6, 2) := by decide +kernel
theorem dX7_branch_67 : decode cX7_branch 67 = .ok (.ifCond .eq 9, 3) := by decide +kernel
theorem dX7_branch_70 : decode cX7_branch 70 = .ok (.iload_n 3, 1) := by decide +kernel
theorem dX7_branch_71 : decode cX7_branch 71 = .ok (.iconst 1, 1) := by decide +kernel
theorem dX7_branch_72 : decode cX7_branch 72 = .ok (.iadd, 1) := by decide +kernel
theorem dX7_branch_73 : decode cX7_branch 73 = .ok (.goto 4, 3) := by decide +kernel
theorem dX7_branch_76 : decode cX7_branch 76 = .ok (.iload_n 3, 1) := by decide +kernel
theorem dX7_branch_77 : decode cX7_branch 77 = .ok (.iload_n 2, 1) := by decide +kernel
theorem dX7_branch_78 : decode cX7_branch 78 = .ok (.iconst (-1), 1) := by decide +kernel
theorem dX7_branch_79 : decode cX7_branch 79 = .ok (.if_icmp .ne 8, 3) := by decide +kernel
theorem dX7_branch_82 : decode cX7_branch 82 = .ok (.iload 4, 2) := by decide +kernel
theorem dX7_branch_84 : decode cX7_branch 84 = .ok (.goto 7, 3) := by decide +kernel
theorem dX7_branch_87 : decode cX7_branch 87 = .ok (.iload 4, 2) := by decide +kernel
theorem dX7_branch_89 : decode cX7_branch 89 = .ok (.iconst 1, 1) := by decide +kernel
theorem dX7_branch_90 : decode cX7_branch 90 = .ok (.iadd, 1) := by decide +kernel
theorem dX7_branch_91 : decode cX7_branch 91 = .ok (.invokevirtual 151, 3) := by decide +kernel
theorem dX7_branch_94 : decode cX7_branch 94 = .ok (.aload_n 0, 1) := by decide +kernel
theorem dX7_branch_95 : decode cX7_branch 95 = .ok (.dup, 1) := by decide +kernel
theorem dX7_branch_96 : decode cX7_branch 96 = .ok (.getfield 48, 3) := by decide +kernel
theorem dX7_branch_99 : decode cX7_branch 99 = .ok (.iload 5, 2) := by decide +kernel
theorem dX7_branch_101 : decode cX7_branch 101 = .ok (.iconst (-1), 1) := by decide +kernel
theorem dX7_branch_102 : decode cX7_branch 102 = .ok (.ixor, 1) := by decide +kernel
theorem dX7_branch_103 : decode cX7_branch 103 = .ok (.iand, 1) := by decide +kernel
theorem dX7_branch_104 : decode cX7_branch 104 = .ok (.putfield 48, 3) := by decide +kernel
theorem dX7_branch_107 : decode cX7_branch 107 = .ok (.aload_n 0, 1) := by decide +kernel
theorem dX7_branch_108 : decode cX7_branch 108 = .ok (.getfield 45, 3) := by decide +kernel
theorem dX7_branch_111 : decode cX7_branch 111 = .ok (.iload_n 1, 1) := by decide +kernel
theorem dX7_branch_112 : decode cX7_branch 112 = .ok (.iconst (-1), 1) := by decide +kernel
theorem dX7_branch_113 : decode cX7_branch 113 = .ok (.iastore, 1) := by decide +kernel
theorem dX7_branch_114 : decode cX7_branch 114 = .ok (.return_, 1) := by decide +kernel
def wp_X7_branch_91 (ws : Nat → Int32 → Int32 → Int32 → xm_S → (xm_S → Prop) → Prop) (h : Nat) (x1 : Int32) (x5 : Int32) (s0 : Int32) (s1 : Int32) (s2 : Int32) (s3 : Option Nat) (S : xm_S) (g : xm_S → Prop) : Prop :=
  ∃ n1, s3 = some n1 ∧ st_t S n1 = some (7, 0) ∧ ws n1 s2 s1 s0 S (fun S4 => st_t S4 h = some (7, 0) ∧ ∀ S7, S7 = st_pi S4 h 11 ((st_i S4 h 11) &&& (x5 ^^^ (-1 : Int32))) → ∃ n9, (st_r S7 h 10) = some n9 ∧ ∃ z12, st_t S7 n9 = some (100, z12) ∧ vp_in x1 z12 ∧ ∀ S14, S14 = st_pi S7 n9 (x1).toNatClampNeg (-1 : Int32) → g S14)
set_option maxRecDepth 100000 in
set_option maxHeartbeats 4000000 in
theorem kp_X7_branch_91 {K : xm_K} {ws : Nat → Int32 → Int32 → Int32 → xm_S → (xm_S → Prop) → Prop} {d : Nat} (h : Nat) (x1 : Int32) (x5 : Int32) (s0 : Int32) (s1 : Int32) (s2 : Int32) (s3 : Option Nat) (S : xm_S) {g : xm_S → Prop} (C : xm_Cx K cX7_branch RX7 7 none (rm_X7_branch d)) (N : xm_Nx K) (hg : ∀ S, g S → xm_q K none S) (hws : ∀ {h : Nat} {a b c : Int32} {S : xm_S} {g : xm_S → Prop}, ws h a b c S g → xm_Met yX7_search cX7_search 7 none (rm_X7_search d) [xm_r (some h), xm_i a, xm_i b, xm_i c] S (xm_qv g) xm_nox)  (h1 : wp_X7_branch_91 ws h x1 x5 s0 s1 s2 s3 S g) : xm_W K 0 0 91 [(0, xm_r (some h)), (1, xm_i x1), (5, xm_i x5)] [xm_i s0, xm_i s1, xm_i s2, xm_r s3] S := by
  unfold wp_X7_branch_91 at h1
  obtain ⟨n1, hr2, h1⟩ := h1
  obtain ⟨ht3, h1⟩ := h1
  refine x_callV (rm' := (rm_X7_search d)) (n := n1) C (hws h1) lk_24 gw_188 gw_189 xv_7 rfl hr2 ht3 rfl (Nat.le_of_ble_eq_true rfl) ⟨(by simp only [rm_X7_search, rm_X7_branch, rm_X7_bitOf] <;> omega), (by simp only [rm_X7_search, rm_X7_branch, rm_X7_bitOf] <;> omega), (by simp only [rm_X7_search, rm_X7_branch, rm_X7_bitOf] <;> omega), (by simp only [rm_X7_search, rm_X7_branch, rm_X7_bitOf] <;> omega)⟩ dX7_branch_91 xm_kx (xm_kv (fun S4 h1 => ?_))
  refine x_aload_n C 0 dX7_branch_94 rfl rfl ?_
  refine x_dup_r C dX7_branch_95 ?_
  obtain ⟨ht6, h1⟩ := h1
  refine x_getf_i (n := h) C rfl ht6 fd_70 (by decide) dX7_branch_96 ?_
  refine x_iload C 2 dX7_branch_99 rfl ?_
  refine x_iconst (v := (-1 : Int32)) C dX7_branch_101 (by decide) ?_
  refine x_ixor C dX7_branch_102 ?_
  refine x_iand C dX7_branch_103 ?_
  refine x_putf_i (n := h) C rfl ht6 fd_70 xc_7 (by decide) rfl ⟨rfl, rfl⟩ dX7_branch_104 ?_
  refine x_topS (fun S7 e8 => ?_)
  have h1 := h1 S7 e8
  refine x_aload_n C 0 dX7_branch_107 rfl rfl ?_
  refine x_getf_r (n := h) C rfl (tk_p e8 ht6) fd_60 (by decide) dX7_branch_108 ?_
  refine x_iload_n C 1 dX7_branch_111 rfl rfl ?_
  refine x_iconst (v := (-1 : Int32)) C dX7_branch_112 (by decide) ?_
  obtain ⟨n9, hr10, h1⟩ := h1
  obtain ⟨z12, ht11, h1⟩ := h1
  obtain ⟨hi13, h1⟩ := h1
  refine x_iast (n := n9) C hr10 ht11 hi13 dX7_branch_113 ?_
  refine x_topS (fun S14 e15 => ?_)
  have h1 := h1 S14 e15
  exact x_vret C (by simp only [rm_X7_search, rm_X7_branch, rm_X7_bitOf] <;> omega) (by simp only [rm_X7_search, rm_X7_branch, rm_X7_bitOf] <;> omega) rfl dX7_branch_114 (hg _ h1)
def wp_X7_branch_77 (ws : Nat → Int32 → Int32 → Int32 → xm_S → (xm_S → Prop) → Prop) (h : Nat) (x1 : Int32) (x2 : Int32) (x4 : Int32) (x5 : Int32) (s0 : Int32) (s1 : Int32) (s2 : Option Nat) (S : xm_S) (g : xm_S → Prop) : Prop :=
  (¬ x2 = (-1 : Int32) → wp_X7_branch_91 ws h x1 x5 (x4 + (1 : Int32)) s0 s1 s2 S g) ∧ (x2 = (-1 : Int32) → wp_X7_branch_91 ws h x1 x5 x4 s0 s1 s2 S g)
set_option maxRecDepth 100000 in
set_option maxHeartbeats 4000000 in
theorem kp_X7_branch_77 {K : xm_K} {ws : Nat → Int32 → Int32 → Int32 → xm_S → (xm_S → Prop) → Prop} {d : Nat} (h : Nat) (x1 : Int32) (x2 : Int32) (x4 : Int32) (x5 : Int32) (s0 : Int32) (s1 : Int32) (s2 : Option Nat) (S : xm_S) {g : xm_S → Prop} (C : xm_Cx K cX7_branch RX7 7 none (rm_X7_branch d)) (N : xm_Nx K) (hg : ∀ S, g S → xm_q K none S) (hws : ∀ {h : Nat} {a b c : Int32} {S : xm_S} {g : xm_S → Prop}, ws h a b c S g → xm_Met yX7_search cX7_search 7 none (rm_X7_search d) [xm_r (some h), xm_i a, xm_i b, xm_i c] S (xm_qv g) xm_nox)  (h1 : wp_X7_branch_77 ws h x1 x2 x4 x5 s0 s1 s2 S g) : xm_W K 0 0 77 [(0, xm_r (some h)), (1, xm_i x1), (2, xm_i x2), (4, xm_i x4), (5, xm_i x5)] [xm_i s0, xm_i s1, xm_r s2] S := by
  unfold wp_X7_branch_77 at h1
  refine x_iload_n C 2 dX7_branch_77 rfl rfl ?_
  refine x_iconst (v := (-1 : Int32)) C dX7_branch_78 (by decide) ?_
  refine x_icmp_ne (tgt := 87) C dX7_branch_79 (by decide) (fun z9 => ?_) (fun z9 => ?_)
  · have h1 := h1.1 z9
    refine x_iload C 3 dX7_branch_87 rfl ?_
    refine x_iconst (v := (1 : Int32)) C dX7_branch_89 (by decide) ?_
    refine x_iadd C dX7_branch_90 ?_
    refine x_keep (L' := [(0, xm_r (some h)), (1, xm_i x1), (5, xm_i x5)]) C [0, 1, 4] rfl ?_
    exact kp_X7_branch_91 h x1 x5 (x4 + (1 : Int32)) s0 s1 s2 S C N hg hws  h1
  · have h1 := h1.2 z9
    refine x_iload C 3 dX7_branch_82 rfl ?_
    refine x_goto (tgt := 91) C dX7_branch_84 (by decide) ?_
    refine x_keep (L' := [(0, xm_r (some h)), (1, xm_i x1), (5, xm_i x5)]) C [0, 1, 4] rfl ?_
    exact kp_X7_branch_91 h x1 x5 x4 s0 s1 s2 S C N hg hws  h1
def wp_X7_branch_41 (ws : Nat → Int32 → Int32 → Int32 → xm_S → (xm_S → Prop) → Prop) (h : Nat) (x1 : Int32) (x2 : Int32) (x3 : Int32) (x4 : Int32) (x5 : Int32) (s0 : Int32) (S : xm_S) (g : xm_S → Prop) : Prop :=
  st_t S h = some (7, 0) ∧ ∃ n17, (st_r S h 10) = some n17 ∧ ∃ z20, st_t S n17 = some (100, z20) ∧ vp_in x1 z20 ∧ ∀ S22, S22 = st_pi S n17 (x1).toNatClampNeg x2 → ∀ S24, S24 = st_pi S22 h 11 ((st_i S22 h 11) ||| x5) → (s0 = 0 → wp_X7_branch_77 ws h x1 x2 x4 x5 x3 (x1 + (1 : Int32)) (some h) S24 g) ∧ (¬ s0 = 0 → wp_X7_branch_77 ws h x1 x2 x4 x5 (x3 + (1 : Int32)) (x1 + (1 : Int32)) (some h) S24 g)
set_option maxRecDepth 100000 in
set_option maxHeartbeats 4000000 in
theorem kp_X7_branch_41 {K : xm_K} {ws : Nat → Int32 → Int32 → Int32 → xm_S → (xm_S → Prop) → Prop} {d : Nat} (h : Nat) (x1 : Int32) (x2 : Int32) (x3 : Int32) (x4 : Int32) (x5 : Int32) (s0 : Int32) (S : xm_S) {g : xm_S → Prop} (C : xm_Cx K cX7_branch RX7 7 none (rm_X7_branch d)) (N : xm_Nx K) (hg : ∀ S, g S → xm_q K none S) (hws : ∀ {h : Nat} {a b c : Int32} {S : xm_S} {g : xm_S → Prop}, ws h a b c S g → xm_Met yX7_search cX7_search 7 none (rm_X7_search d) [xm_r (some h), xm_i a, xm_i b, xm_i c] S (xm_qv g) xm_nox)  (h1 : wp_X7_branch_41 ws h x1 x2 x3 x4 x5 s0 S g) : xm_W K 0 0 41 [(0, xm_r (some h)), (1, xm_i x1), (2, xm_i x2), (3, xm_i x3), (4, xm_i x4), (5, xm_i x5)] [xm_i s0] S := by
  unfold wp_X7_branch_41 at h1
  refine x_istore (L' := [(6, xm_i s0), (0, xm_r (some h)), (1, xm_i x1), (2, xm_i x2), (3, xm_i x3), (4, xm_i x4), (5, xm_i x5)]) C dX7_branch_41 (by decide) rfl ?_
  refine x_aload_n C 1 dX7_branch_43 rfl rfl ?_
  obtain ⟨ht16, h1⟩ := h1
  refine x_getf_r (n := h) C rfl ht16 fd_60 (by decide) dX7_branch_44 ?_
  refine x_iload_n C 2 dX7_branch_47 rfl rfl ?_
  refine x_iload_n C 3 dX7_branch_48 rfl rfl ?_
  obtain ⟨n17, hr18, h1⟩ := h1
  obtain ⟨z20, ht19, h1⟩ := h1
  obtain ⟨hi21, h1⟩ := h1
  refine x_iast (n := n17) C hr18 ht19 hi21 dX7_branch_49 ?_
  refine x_topS (fun S22 e23 => ?_)
  have h1 := h1 S22 e23
  refine x_aload_n C 1 dX7_branch_50 rfl rfl ?_
  refine x_dup_r C dX7_branch_51 ?_
  refine x_getf_i (n := h) C rfl (tk_p e23 ht16) fd_70 (by decide) dX7_branch_52 ?_
  refine x_iload C 6 dX7_branch_55 rfl ?_
  refine x_ior C dX7_branch_57 ?_
  refine x_putf_i (n := h) C rfl (tk_p e23 ht16) fd_70 xc_7 (by decide) rfl ⟨rfl, rfl⟩ dX7_branch_58 ?_
  refine x_topS (fun S24 e25 => ?_)
  have h1 := h1 S24 e25
  refine x_aload_n C 1 dX7_branch_61 rfl rfl ?_
  refine x_iload_n C 2 dX7_branch_62 rfl rfl ?_
  refine x_iconst (v := (1 : Int32)) C dX7_branch_63 (by decide) ?_
  refine x_iadd C dX7_branch_64 ?_
  refine x_iload C 0 dX7_branch_65 rfl ?_
  refine x_if_eq (tgt := 76) C dX7_branch_67 (by decide) (fun z9 => ?_) (fun z9 => ?_)
  · have h1 := h1.1 z9
    refine x_iload_n C 4 dX7_branch_76 rfl rfl ?_
    refine x_keep (L' := [(0, xm_r (some h)), (1, xm_i x1), (2, xm_i x2), (4, xm_i x4), (5, xm_i x5)]) C [1, 2, 3, 5, 6] rfl ?_
    exact kp_X7_branch_77 h x1 x2 x4 x5 x3 (x1 + (1 : Int32)) (some h) S24 C N hg hws  h1
  · have h1 := h1.2 z9
    refine x_iload_n C 4 dX7_branch_70 rfl rfl ?_
    refine x_iconst (v := (1 : Int32)) C dX7_branch_71 (by decide) ?_
    refine x_iadd C dX7_branch_72 ?_
    refine x_goto (tgt := 77) C dX7_branch_73 (by decide) ?_
    refine x_keep (L' := [(0, xm_r (some h)), (1, xm_i x1), (2, xm_i x2), (4, xm_i x4), (5, xm_i x5)]) C [1, 2, 3, 5, 6] rfl ?_
    exact kp_X7_branch_77 h x1 x2 x4 x5 (x3 + (1 : Int32)) (x1 + (1 : Int32)) (some h) S24 C N hg hws  h1
def wp_X7_branch_40 (ws : Nat → Int32 → Int32 → Int32 → xm_S → (xm_S → Prop) → Prop) (h : Nat) (x1 : Int32) (x2 : Int32) (x3 : Int32) (x4 : Int32) (x5 : Int32) (S : xm_S) (g : xm_S → Prop) : Prop :=
  wp_X7_branch_41 ws h x1 x2 x3 x4 x5 (0 : Int32) S g
set_option maxRecDepth 100000 in
set_option maxHeartbeats 4000000 in
theorem kp_X7_branch_40 {K : xm_K} {ws : Nat → Int32 → Int32 → Int32 → xm_S → (xm_S → Prop) → Prop} {d : Nat} (h : Nat) (x1 : Int32) (x2 : Int32) (x3 : Int32) (x4 : Int32) (x5 : Int32) (S : xm_S) {g : xm_S → Prop} (C : xm_Cx K cX7_branch RX7 7 none (rm_X7_branch d)) (N : xm_Nx K) (hg : ∀ S, g S → xm_q K none S) (hws : ∀ {h : Nat} {a b c : Int32} {S : xm_S} {g : xm_S → Prop}, ws h a b c S g → xm_Met yX7_search cX7_search 7 none (rm_X7_search d) [xm_r (some h), xm_i a, xm_i b, xm_i c] S (xm_qv g) xm_nox)  (h1 : wp_X7_branch_40 ws h x1 x2 x3 x4 x5 S g) : xm_W K 0 0 40 [(0, xm_r (some h)), (1, xm_i x1), (2, xm_i x2), (3, xm_i x3), (4, xm_i x4), (5, xm_i x5)] [] S := by
  unfold wp_X7_branch_40 at h1
  refine x_iconst (v := (0 : Int32)) C dX7_branch_40 (by decide) ?_
  exact kp_X7_branch_41 h x1 x2 x3 x4 x5 (0 : Int32) S C N hg hws  h1
def wp_X7_branch_14 (ws : Nat → Int32 → Int32 → Int32 → xm_S → (xm_S → Prop) → Prop) (h : Nat) (x1 : Int32) (x2 : Int32) (x3 : Int32) (x4 : Int32) (s0 : Int32) (S : xm_S) (g : xm_S → Prop) : Prop :=
  st_t S h = some (7, 0) ∧ ∃ n27, (st_r S h 5) = some n27 ∧ ∃ z30, st_t S n27 = some (100, z30) ∧ vp_in x1 z30 ∧ ((st_i S n27 (x1).toNatClampNeg) = (-1 : Int32) → wp_X7_branch_40 ws h x1 x2 x3 x4 s0 S g) ∧ (¬ (st_i S n27 (x1).toNatClampNeg) = (-1 : Int32) → ∃ n32, (st_r S h 5) = some n32 ∧ ∃ z35, st_t S n32 = some (100, z35) ∧ vp_in x1 z35 ∧ ((st_i S n32 (x1).toNatClampNeg) = x2 → wp_X7_branch_40 ws h x1 x2 x3 x4 s0 S g) ∧ (¬ (st_i S n32 (x1).toNatClampNeg) = x2 → wp_X7_branch_41 ws h x1 x2 x3 x4 s0 (1 : Int32) S g))
set_option maxRecDepth 100000 in
set_option maxHeartbeats 4000000 in
theorem kp_X7_branch_14 {K : xm_K} {ws : Nat → Int32 → Int32 → Int32 → xm_S → (xm_S → Prop) → Prop} {d : Nat} (h : Nat) (x1 : Int32) (x2 : Int32) (x3 : Int32) (x4 : Int32) (s0 : Int32) (S : xm_S) {g : xm_S → Prop} (C : xm_Cx K cX7_branch RX7 7 none (rm_X7_branch d)) (N : xm_Nx K) (hg : ∀ S, g S → xm_q K none S) (hws : ∀ {h : Nat} {a b c : Int32} {S : xm_S} {g : xm_S → Prop}, ws h a b c S g → xm_Met yX7_search cX7_search 7 none (rm_X7_search d) [xm_r (some h), xm_i a, xm_i b, xm_i c] S (xm_qv g) xm_nox)  (h1 : wp_X7_branch_14 ws h x1 x2 x3 x4 s0 S g) : xm_W K 0 0 14 [(0, xm_r (some h)), (1, xm_i x1), (2, xm_i x2), (3, xm_i x3), (4, xm_i x4)] [xm_i s0] S := by
  unfold wp_X7_branch_14 at h1
  refine x_istore (L' := [(5, xm_i s0), (0, xm_r (some h)), (1, xm_i x1), (2, xm_i x2), (3, xm_i x3), (4, xm_i x4)]) C dX7_branch_14 (by decide) rfl ?_
  refine x_aload_n C 1 dX7_branch_16 rfl rfl ?_
  obtain ⟨ht26, h1⟩ := h1
  refine x_getf_r (n := h) C rfl ht26 fd_71 (by decide) dX7_branch_17 ?_
  refine x_iload_n C 2 dX7_branch_20 rfl rfl ?_
  obtain ⟨n27, hr28, h1⟩ := h1
  obtain ⟨z30, ht29, h1⟩ := h1
  obtain ⟨hi31, h1⟩ := h1
  refine x_iald (n := n27) C hr28 ht29 hi31 dX7_branch_21 ?_
  refine x_iconst (v := (-1 : Int32)) C dX7_branch_22 (by decide) ?_
  refine x_icmp_eq (tgt := 40) C dX7_branch_23 (by decide) (fun z9 => ?_) (fun z9 => ?_)
  · have h1 := h1.1 z9
    refine x_keep (L' := [(0, xm_r (some h)), (1, xm_i x1), (2, xm_i x2), (3, xm_i x3), (4, xm_i x4), (5, xm_i s0)]) C [1, 2, 3, 4, 5, 0] rfl ?_
    exact kp_X7_branch_40 h x1 x2 x3 x4 s0 S C N hg hws  h1
  · have h1 := h1.2 z9
    refine x_aload_n C 1 dX7_branch_26 rfl rfl ?_
    refine x_getf_r (n := h) C rfl ht26 fd_71 (by decide) dX7_branch_27 ?_
    refine x_iload_n C 2 dX7_branch_30 rfl rfl ?_
    obtain ⟨n32, hr33, h1⟩ := h1
    obtain ⟨z35, ht34, h1⟩ := h1
    obtain ⟨hi36, h1⟩ := h1
    refine x_iald (n := n32) C hr33 ht34 hi36 dX7_branch_31 ?_
    refine x_iload_n C 3 dX7_branch_32 rfl rfl ?_
    refine x_icmp_eq (tgt := 40) C dX7_branch_33 (by decide) (fun z9 => ?_) (fun z9 => ?_)
    · have h1 := h1.1 z9
      refine x_keep (L' := [(0, xm_r (some h)), (1, xm_i x1), (2, xm_i x2), (3, xm_i x3), (4, xm_i x4), (5, xm_i s0)]) C [1, 2, 3, 4, 5, 0] rfl ?_
      exact kp_X7_branch_40 h x1 x2 x3 x4 s0 S C N hg hws  h1
    · have h1 := h1.2 z9
      refine x_iconst (v := (1 : Int32)) C dX7_branch_36 (by decide) ?_
      refine x_goto (tgt := 41) C dX7_branch_37 (by decide) ?_
      refine x_keep (L' := [(0, xm_r (some h)), (1, xm_i x1), (2, xm_i x2), (3, xm_i x3), (4, xm_i x4), (5, xm_i s0)]) C [1, 2, 3, 4, 5, 0] rfl ?_
      exact kp_X7_branch_41 h x1 x2 x3 x4 s0 (1 : Int32) S C N hg hws  h1
def wp_X7_branch (ws : Nat → Int32 → Int32 → Int32 → xm_S → (xm_S → Prop) → Prop) (h : Nat) (x1 : Int32) (x2 : Int32) (x3 : Int32) (x4 : Int32) (S : xm_S) (g : xm_S → Prop) : Prop :=
  (¬ x2 = (-1 : Int32) → wp_X7_bitOf x1 x2 S (fun r38 S37 => wp_X7_branch_14 ws h x1 x2 x3 x4 r38 S37 g)) ∧ (x2 = (-1 : Int32) → wp_X7_branch_14 ws h x1 x2 x3 x4 (0 : Int32) S g)
set_option maxRecDepth 100000 in
set_option maxHeartbeats 4000000 in
theorem kp_X7_branch {K : xm_K} {ws : Nat → Int32 → Int32 → Int32 → xm_S → (xm_S → Prop) → Prop} {d : Nat} (h : Nat) (x1 : Int32) (x2 : Int32) (x3 : Int32) (x4 : Int32) (S : xm_S) {g : xm_S → Prop} (C : xm_Cx K cX7_branch RX7 7 none (rm_X7_branch d)) (N : xm_Nx K) (hg : ∀ S, g S → xm_q K none S) (hws : ∀ {h : Nat} {a b c : Int32} {S : xm_S} {g : xm_S → Prop}, ws h a b c S g → xm_Met yX7_search cX7_search 7 none (rm_X7_search d) [xm_r (some h), xm_i a, xm_i b, xm_i c] S (xm_qv g) xm_nox)  (h1 : wp_X7_branch ws h x1 x2 x3 x4 S g) : xm_W K 0 0 0 [(0, xm_r (some h)), (1, xm_i x1), (2, xm_i x2), (3, xm_i x3), (4, xm_i x4)] [] S := by
  unfold wp_X7_branch at h1
  refine x_iload_n C 2 dX7_branch_0 rfl rfl ?_
  refine x_iconst (v := (-1 : Int32)) C dX7_branch_1 (by decide) ?_
  refine x_icmp_ne (tgt := 9) C dX7_branch_2 (by decide) (fun z9 => ?_) (fun z9 => ?_)
  · have h1 := h1.1 z9
    refine x_iload_n C 1 dX7_branch_9 rfl rfl ?_
    refine x_iload_n C 2 dX7_branch_10 rfl rfl ?_
    refine x_callS (rm' := rm_X7_bitOf) C (kp_X7_bitOf_met h1) lk_20 gw_163 rfl (Nat.le_of_ble_eq_true rfl) ⟨(by simp only [rm_X7_search, rm_X7_branch, rm_X7_bitOf] <;> omega), (by simp only [rm_X7_search, rm_X7_branch, rm_X7_bitOf] <;> omega), (by simp only [rm_X7_search, rm_X7_branch, rm_X7_bitOf] <;> omega), (by simp only [rm_X7_search, rm_X7_branch, rm_X7_bitOf] <;> omega)⟩ dX7_branch_11 xm_kx (xm_ki (fun r38 S37 h1 => ?_))
    exact kp_X7_branch_14 h x1 x2 x3 x4 r38 S37 C N hg hws  h1
  · have h1 := h1.2 z9
    refine x_iconst (v := (0 : Int32)) C dX7_branch_5 (by decide) ?_
    refine x_goto (tgt := 14) C dX7_branch_6 (by decide) ?_
    exact kp_X7_branch_14 h x1 x2 x3 x4 (0 : Int32) S C N hg hws  h1
theorem kp_X7_branch_met {ws : Nat → Int32 → Int32 → Int32 → xm_S → (xm_S → Prop) → Prop} {d : Nat} {h : Nat} {x1 : Int32} {x2 : Int32} {x3 : Int32} {x4 : Int32} {S : xm_S} {g : xm_S → Prop}  (hws : ∀ {h : Nat} {a b c : Int32} {S : xm_S} {g : xm_S → Prop}, ws h a b c S g → xm_Met yX7_search cX7_search 7 none (rm_X7_search d) [xm_r (some h), xm_i a, xm_i b, xm_i c] S (xm_qv g) xm_nox) (h1 : wp_X7_branch ws h x1 x2 x3 x4 S g) : xm_Met yX7_branch cX7_branch 7 none (rm_X7_branch d) [xm_r (some h), xm_i x1, xm_i x2, xm_i x3, xm_i x4] S (xm_qv g) xm_nox :=
  xm_ofW RX7 (by decide +kernel) rfl (Nat.le_of_ble_eq_true rfl) (fun K C N hq hx hi => kp_X7_branch h x1 x2 x3 x4 S C N (fun S h => by rw [hq]; exact ⟨rfl, h⟩) hws  h1)
theorem dX7_search_0 : decode cX7_search 0 = .ok (.aload_n 0, 1) := by decide +kernel
theorem dX7_search_1 : decode cX7_search 1 = .ok (.iload_n 2, 1) := by decide +kernel
theorem dX7_search_2 : decode cX7_search 2 = .ok (.iload_n 3, 1) := by decide +kernel
theorem dX7_search_3 : decode cX7_search 3 = .ok (.invokevirtual 164, 3) := by decide +kernel
theorem dX7_search_6 : decode cX7_search 6 = .ok (.ifCond .eq 4, 3) := by decide +kernel
theorem dX7_search_9 : decode cX7_search 9 = .ok (.return_, 1) := by decide +kernel
theorem dX7_search_10 : decode cX7_search 10 = .ok (.iload_n 1, 1) := by decide +kernel
theorem dX7_search_11 : decode cX7_search 11 = .ok (.bipush 6, 2) := by decide +kernel
theorem dX7_search_13 : decode cX7_search 13 = .ok (.if_icmp .lt 33, 3) := by decide +kernel
theorem dX7_search_16 : decode cX7_search 16 = .ok (.aload_n 0, 1) := by decide +kernel
theorem dX7_search_17 : decode cX7_search 17 = .ok (.iconst 0, 1) := by decide +kernel
theorem dX7_search_18 : decode cX7_search 18 = .ok (.aload_n 0, 1) := by decide +kernel
theorem dX7_search_19 : decode cX7_search 19 = .ok (.getfield 48, 3) := by decide +kernel
theorem dX7_search_22 : decode cX7_search 22 = .ok (.invokevirtual 154, 3) := by decide +kernel
theorem dX7_search_25 : decode cX7_search 25 = .ok (.ifCond .eq 20, 3) := by decide +kernel
theorem dX7_search_28 : decode cX7_search 28 = .ok (.aload_n 0, 1) := by decide +kernel
theorem dX7_search_29 : decode cX7_search 29 = .ok (.getfield 51, 3) := by decide +kernel
theorem dX7_search_32 : decode cX7_search 32 = .ok (.aload_n 0, 1) := by decide +kernel
theorem dX7_search_33 : decode cX7_search 33 = .ok (.getfield 48, 3) := by decide +kernel
theorem dX7_search_36 : decode cX7_search 36 = .ok (.if_icmp .ne 9, 3) := by decide +kernel
theorem dX7_search_39 : decode cX7_search 39 = .ok (.aload_n 0, 1) := by decide +kernel
theorem dX7_search_40 : decode cX7_search 40 = .ok (.iload_n 2, 1) := by decide +kernel
theorem dX7_search_41 : decode cX7_search 41 = .ok (.iload_n 3, 1) := by decide +kernel
theorem dX7_search_42 : decode cX7_search 42 = .ok (.invokevirtual 167, 3) := by decide +kernel
theorem dX7_search_45 : decode cX7_search 45 = .ok (.return_, 1) := by decide +kernel
theorem dX7_search_46 : decode cX7_search 46 = .ok (.aload_n 0, 1) := by decide +kernel
theorem dX7_search_47 : decode cX7_search 47 = .ok (.aload_n 0, 1) := by decide +kernel
theorem dX7_search_48 : decode cX7_search 48 = .ok (.getfield 48, 3) := by decide +kernel
theorem dX7_search_51 : decode cX7_search 51 = .ok (.aload_n 0, 1) := by decide +kernel
theorem dX7_search_52 : decode cX7_search 52 = .ok (.getfield 48, 3) := by decide +kernel
theorem dX7_search_55 : decode cX7_search 55 = .ok (.aload_n 0, 1) := by decide +kernel
theorem dX7_search_56 : decode cX7_search 56 = .ok (.getfield 42, 3) := by decide +kernel
theorem dX7_search_59 : decode cX7_search 59 = .ok (.iload_n 1, 1) := by decide +kernel
theorem dX7_search_60 : decode cX7_search 60 = .ok (.iaload, 1) := by decide +kernel
theorem dX7_search_61 : decode cX7_search 61 = .ok (.ior, 1) := by decide +kernel
theorem dX7_search_62 : decode cX7_search 62 = .ok (.invokevirtual 154, 3) := by decide +kernel
theorem dX7_search_65 : decode cX7_search 65 = .ok (.ifCond .ne 4, 3) := by decide +kernel
theorem dX7_search_68 : decode cX7_search 68 = .ok (.return_, 1) := by decide +kernel
theorem dX7_search_69 : decode cX7_search 69 = .ok (.aload_n 0, 1) := by decide +kernel
theorem dX7_search_70 : decode cX7_search 70 = .ok (.iload_n 1, 1) := by decide +kernel
theorem dX7_search_71 : decode cX7_search 71 = .ok (.iconst (-1), 1) := by decide +kernel
theorem dX7_search_72 : decode cX7_search 72 = .ok (.iload_n 2, 1) := by decide +kernel
theorem dX7_search_73 : decode cX7_search 73 = .ok (.iload_n 3, 1) := by decide +kernel
theorem dX7_search_74 : decode cX7_search 74 = .ok (.invokevirtual 171, 3) := by decide +kernel
theorem dX7_search_77 : decode cX7_search 77 = .ok (.aload_n 0, 1) := by decide +kernel
theorem dX7_search_78 : decode cX7_search 78 = .ok (.getfield 42, 3) := by decide +kernel
theorem dX7_search_81 : decode cX7_search 81 = .ok (.iload_n 1, 1) := by decide +kernel
theorem dX7_search_82 : decode cX7_search 82 = .ok (.iaload, 1) := by decide +kernel
theorem dX7_search_83 : decode cX7_search 83 = .ok (.iload_n 1, 1) := by decide +kernel
theorem dX7_search_84 : decode cX7_search 84 = .ok (.invokestatic 101, 3) := by decide +kernel
theorem dX7_search_87 : decode cX7_search 87 = .ok (.iand, 1) := by decide +kernel
theorem dX7_search_88 : decode cX7_search 88 = .ok (.iload_n 1, 1) := by decide +kernel
theorem dX7_search_89 : decode cX7_search 89 = .ok (.iconst 4, 1) := by decide +kernel
theorem dX7_search_90 : decode cX7_search 90 = .ok (.imul, 1) := by decide +kernel
theorem dX7_search_91 : decode cX7_search 91 = .ok (.ishr, 1) := by decide +kernel
theorem dX7_search_92 : decode cX7_search 92 = .ok (.istore 4, 2) := by decide +kernel
theorem dX7_search_94 : decode cX7_search 94 = .ok (.iconst 0, 1) := by decide +kernel
theorem dX7_search_95 : decode cX7_search 95 = .ok (.istore 5, 2) := by decide +kernel
theorem dX7_search_97 : decode cX7_search 97 = .ok (.iload 5, 2) := by decide +kernel
theorem dX7_search_99 : decode cX7_search 99 = .ok (.iconst 4, 1) := by decide +kernel
theorem dX7_search_100 : decode cX7_search 100 = .ok (.if_icmp .ge 62, 3) := by decide +kernel
theorem dX7_search_103 : decode cX7_search 103 = .ok (.iload 4, 2) := by decide +kernel
theorem dX7_search_105 : decode cX7_search 105 = .ok (.ifCond .eq 57, 3) := by decide +kernel
theorem dX7_search_108 : decode cX7_search 108 = .ok (.aload_n 0, 1) := by decide +kernel
theorem dX7_search_109 : decode cX7_search 109 = .ok (.iload_n 1, 1) := by decide +kernel
theorem dX7_search_110 : decode cX7_search 110 = .ok (.iload 4, 2) := by decide +kernel
theorem dX7_search_112 : decode cX7_search 112 = .ok (.invokevirtual 175, 3) := by decide +kernel
theorem dX7_search_115 : decode cX7_search 115 = .ok (.istore 6, 2) := by decide +kernel
theorem dX7_search_117 : decode cX7_search 117 = .ok (.iload 4, 2) := by decide +kernel
theorem dX7_search_119 : decode cX7_search 119 = .ok (.iconst 1, 1) := by decide +kernel
theorem dX7_search_120 : decode cX7_search 120 = .ok (.iload 6, 2) := by decide +kernel
theorem dX7_search_122 : decode cX7_search 122 = .ok (.ishl, 1) := by decide +kernel
theorem dX7_search_123 : decode cX7_search 123 = .ok (.iconst (-1), 1) := by decide +kernel
theorem dX7_search_124 : decode cX7_search 124 = .ok (.ixor, 1) := by decide +kernel
theorem dX7_search_125 : decode cX7_search 125 = .ok (.iand, 1) := by decide +kernel
theorem dX7_search_126 : decode cX7_search 126 = .ok (.istore 4, 2) := by decide +kernel
theorem dX7_search_128 : decode cX7_search 128 = .ok (.aload_n 0, 1) := by decide +kernel
theorem dX7_search_129 : decode cX7_search 129 = .ok (.getfield 26, 3) := by decide +kernel
theorem dX7_search_132 : decode cX7_search 132 = .ok (.iload_n 1, 1) := by decide +kernel
theorem dX7_search_133 : decode cX7_search 133 = .ok (.iconst 4, 1) := by decide +kernel
theorem dX7_search_134 : decode cX7_search 134 = .ok (.imul, 1) := by decide +kernel
theorem dX7_search_135 : decode cX7_search 135 = .ok (.iload 6, 2) := by decide +kernel
theorem dX7_search_137 : decode cX7_search 137 = .ok (.iadd, 1) := by decide +kernel
theorem dX7_search_138 : decode cX7_search 138 = .ok (.iaload, 1) := by decide +kernel
theorem dX7_search_139 : decode cX7_search 139 = .ok (.aload_n 0, 1) := by decide +kernel
theorem dX7_search_140 : decode cX7_search 140 = .ok (.getfield 48, 3) := by decide +kernel
theorem dX7_search_143 : decode cX7_search 143 = .ok (.iand, 1) := by decide +kernel
theorem dX7_search_144 : decode cX7_search 144 = .ok (.ifCond .ne 12, 3) := by decide +kernel
theorem dX7_search_147 : decode cX7_search 147 = .ok (.aload_n 0, 1) := by decide +kernel
theorem dX7_search_148 : decode cX7_search 148 = .ok (.iload_n 1, 1) := by decide +kernel
theorem dX7_search_149 : decode cX7_search 149 = .ok (.iload 6, 2) := by decide +kernel
theorem dX7_search_151 : decode cX7_search 151 = .ok (.iload_n 2, 1) := by decide +kernel
theorem dX7_search_152 : decode cX7_search 152 = .ok (.iload_n 3, 1) := by decide +kernel
theorem dX7_search_153 : decode cX7_search 153 = .ok (.invokevirtual 171, 3) := by decide +kernel
theorem dX7_search_156 : decode cX7_search 156 = .ok (.iinc 5 1, 3) := by decide +kernel
theorem dX7_search_159 : decode cX7_search 159 = .ok (.goto (-62), 3) := by decide +kernel
theorem dX7_search_162 : decode cX7_search 162 = .ok (.return_, 1) := by decide +kernel
def wp_X7_search_45 (ws : Nat → Int32 → Int32 → Int32 → xm_S → (xm_S → Prop) → Prop) (h : Nat)  (S : xm_S) (g : xm_S → Prop) : Prop :=
  g S
set_option maxRecDepth 100000 in
set_option maxHeartbeats 4000000 in
theorem kp_X7_search_45 {K : xm_K} {ws : Nat → Int32 → Int32 → Int32 → xm_S → (xm_S → Prop) → Prop} {d : Nat} (h : Nat)  (S : xm_S) {g : xm_S → Prop} (C : xm_Cx K cX7_search RX7 7 none (rm_X7_search (d + 1))) (N : xm_Nx K) (hg : ∀ S, g S → xm_q K none S) (hws : ∀ {h : Nat} {a b c : Int32} {S : xm_S} {g : xm_S → Prop}, ws h a b c S g → xm_Met yX7_search cX7_search 7 none (rm_X7_search d) [xm_r (some h), xm_i a, xm_i b, xm_i c] S (xm_qv g) xm_nox)  (h1 : wp_X7_search_45 ws h  S g) : xm_W K 0 0 45 [] [] S := by
  unfold wp_X7_search_45 at h1
  exact x_vret C (by simp only [rm_X7_search, rm_X7_branch, rm_X7_areMet, rm_X7_bitsOf, rm_X7_greatest, rm_X7_isSettled, rm_X7_record] <;> omega) (by simp only [rm_X7_search, rm_X7_branch, rm_X7_areMet, rm_X7_bitsOf, rm_X7_greatest, rm_X7_isSettled, rm_X7_record] <;> omega) rfl dX7_search_45 (hg _ h1)
def wp_X7_search_162 (ws : Nat → Int32 → Int32 → Int32 → xm_S → (xm_S → Prop) → Prop) (h : Nat)  (S : xm_S) (g : xm_S → Prop) : Prop :=
  g S
set_option maxRecDepth 100000 in
set_option maxHeartbeats 4000000 in
theorem kp_X7_search_162 {K : xm_K} {ws : Nat → Int32 → Int32 → Int32 → xm_S → (xm_S → Prop) → Prop} {d : Nat} (h : Nat)  (S : xm_S) {g : xm_S → Prop} (C : xm_Cx K cX7_search RX7 7 none (rm_X7_search (d + 1))) (N : xm_Nx K) (hg : ∀ S, g S → xm_q K none S) (hws : ∀ {h : Nat} {a b c : Int32} {S : xm_S} {g : xm_S → Prop}, ws h a b c S g → xm_Met yX7_search cX7_search 7 none (rm_X7_search d) [xm_r (some h), xm_i a, xm_i b, xm_i c] S (xm_qv g) xm_nox)  (h1 : wp_X7_search_162 ws h  S g) : xm_W K 0 0 162 [] [] S := by
  unfold wp_X7_search_162 at h1
  exact x_vret C (by simp only [rm_X7_search, rm_X7_branch, rm_X7_areMet, rm_X7_bitsOf, rm_X7_greatest, rm_X7_isSettled, rm_X7_record] <;> omega) (by simp only [rm_X7_search, rm_X7_branch, rm_X7_areMet, rm_X7_bitsOf, rm_X7_greatest, rm_X7_isSettled, rm_X7_record] <;> omega) rfl dX7_search_162 (hg _ h1)
def wp_X7_search_156 (ws : Nat → Int32 → Int32 → Int32 → xm_S → (xm_S → Prop) → Prop) (h : Nat) (x1 : Int32) (x2 : Int32) (x3 : Int32) (x4 : Int32) (x5 : Int32) (S : xm_S) (g : xm_S → Prop) (Z97 : Int32 → Int32 → Int32 → Int32 → Int32 → xm_S → Prop) : Prop :=
  ∀ y1, y1 = (x5 + (1 : Int32)) → Z97 x1 x2 x3 x4 y1 S
set_option maxRecDepth 100000 in
set_option maxHeartbeats 4000000 in
theorem kp_X7_search_156 {K : xm_K} {ws : Nat → Int32 → Int32 → Int32 → xm_S → (xm_S → Prop) → Prop} {d : Nat} (h : Nat) (x1 : Int32) (x2 : Int32) (x3 : Int32) (x4 : Int32) (x5 : Int32) (S : xm_S) {g : xm_S → Prop} {Z97 : Int32 → Int32 → Int32 → Int32 → Int32 → xm_S → Prop} (C : xm_Cx K cX7_search RX7 7 none (rm_X7_search (d + 1))) (N : xm_Nx K) (hg : ∀ S, g S → xm_q K none S) (hws : ∀ {h : Nat} {a b c : Int32} {S : xm_S} {g : xm_S → Prop}, ws h a b c S g → xm_Met yX7_search cX7_search 7 none (rm_X7_search d) [xm_r (some h), xm_i a, xm_i b, xm_i c] S (xm_qv g) xm_nox) (hZ97 : ∀ x1 x2 x3 x4 x5 S, Z97 x1 x2 x3 x4 x5 S → xm_W K 0 0 97 [(0, xm_r (some h)), (1, xm_i x1), (2, xm_i x2), (3, xm_i x3), (4, xm_i x4), (5, xm_i x5)] [] S) (h1 : wp_X7_search_156 ws h x1 x2 x3 x4 x5 S g Z97) : xm_W K 0 0 156 [(0, xm_r (some h)), (1, xm_i x1), (2, xm_i x2), (3, xm_i x3), (4, xm_i x4), (5, xm_i x5)] [] S := by
  unfold wp_X7_search_156 at h1
  obtain ⟨y1, e2⟩ : ∃ y1, y1 = (x5 + (1 : Int32)) := ⟨_, rfl⟩
  have h1 := h1 y1 e2
  refine x_iinc (v := y1) (L' := [(5, xm_i y1), (0, xm_r (some h)), (1, xm_i x1), (2, xm_i x2), (3, xm_i x3), (4, xm_i x4)]) C 5 dX7_search_156 rfl (by rw [e2]; rfl) (by decide) rfl ?_
  refine x_goto (tgt := 97) C dX7_search_159 (by decide) ?_
  refine x_keep (L' := [(0, xm_r (some h)), (1, xm_i x1), (2, xm_i x2), (3, xm_i x3), (4, xm_i x4), (5, xm_i y1)]) C [1, 2, 3, 4, 5, 0] rfl ?_
  exact hZ97 x1 x2 x3 x4 y1 S h1
def wp_X7_search_97B (ws : Nat → Int32 → Int32 → Int32 → xm_S → (xm_S → Prop) → Prop) (h : Nat) (x1 : Int32) (x2 : Int32) (x3 : Int32) (x4 : Int32) (x5 : Int32) (S : xm_S) (g : xm_S → Prop) (Z97 : Int32 → Int32 → Int32 → Int32 → Int32 → xm_S → Prop) : Prop :=
  ((nI 4) ≤ x5 → wp_X7_search_162 ws h S g) ∧ (¬ (nI 4) ≤ x5 → (x4 = 0 → wp_X7_search_162 ws h S g) ∧ (¬ x4 = 0 → st_t S h = some (7, 0) ∧ wp_X7_greatest h x1 x4 S (fun r5 S4 => ∀ y6, y6 = (x4 &&& (((1 : Int32) <<< (r5 &&& 31)) ^^^ (-1 : Int32))) → st_t S4 h = some (7, 0) ∧ ∃ n9, (st_r S4 h 4) = some n9 ∧ ∃ z12, st_t S4 n9 = some (100, z12) ∧ vp_in ((x1 * (nI 4)) + r5) z12 ∧ (¬ ((st_i S4 n9 (((x1 * (nI 4)) + r5)).toNatClampNeg) &&& (st_i S4 h 11)) = 0 → wp_X7_search_156 ws h x1 x2 x3 y6 x5 S4 g Z97) ∧ (((st_i S4 n9 (((x1 * (nI 4)) + r5)).toNatClampNeg) &&& (st_i S4 h 11)) = 0 → wp_X7_branch ws h x1 r5 x2 x3 S4 (fun S14 => wp_X7_search_156 ws h x1 x2 x3 y6 x5 S14 g Z97)))))
def wp_X7_search_97 (ws : Nat → Int32 → Int32 → Int32 → xm_S → (xm_S → Prop) → Prop) (h : Nat) (x1 : Int32) (x2 : Int32) (x3 : Int32) (x4 : Int32) (x5 : Int32) (S : xm_S) (g : xm_S → Prop) : Prop :=
  ∀ Z97 : Int32 → Int32 → Int32 → Int32 → Int32 → xm_S → Prop, (∀ x1 x2 x3 x4 x5 S, wp_X7_search_97B ws h x1 x2 x3 x4 x5 S g Z97 → Z97 x1 x2 x3 x4 x5 S) → Z97 x1 x2 x3 x4 x5 S
set_option maxRecDepth 100000 in
set_option maxHeartbeats 4000000 in
theorem kp_X7_search_97B {K : xm_K} {ws : Nat → Int32 → Int32 → Int32 → xm_S → (xm_S → Prop) → Prop} {d : Nat} (h : Nat) (x1 : Int32) (x2 : Int32) (x3 : Int32) (x4 : Int32) (x5 : Int32) (S : xm_S) {g : xm_S → Prop} {Z97 : Int32 → Int32 → Int32 → Int32 → Int32 → xm_S → Prop} (C : xm_Cx K cX7_search RX7 7 none (rm_X7_search (d + 1))) (N : xm_Nx K) (hg : ∀ S, g S → xm_q K none S) (hws : ∀ {h : Nat} {a b c : Int32} {S : xm_S} {g : xm_S → Prop}, ws h a b c S g → xm_Met yX7_search cX7_search 7 none (rm_X7_search d) [xm_r (some h), xm_i a, xm_i b, xm_i c] S (xm_qv g) xm_nox) (hZ97 : ∀ x1 x2 x3 x4 x5 S, Z97 x1 x2 x3 x4 x5 S → xm_W K 0 0 97 [(0, xm_r (some h)), (1, xm_i x1), (2, xm_i x2), (3, xm_i x3), (4, xm_i x4), (5, xm_i x5)] [] S) (h1 : wp_X7_search_97B ws h x1 x2 x3 x4 x5 S g Z97) : xm_W K 0 0 97 [(0, xm_r (some h)), (1, xm_i x1), (2, xm_i x2), (3, xm_i x3), (4, xm_i x4), (5, xm_i x5)] [] S := by
  unfold wp_X7_search_97B at h1
  refine x_iload C 5 dX7_search_97 rfl ?_
  refine x_iconst (v := (nI 4)) C dX7_search_99 (by decide) ?_
  refine x_icmp_ge (tgt := 162) C dX7_search_100 (by decide) (fun z9 => ?_) (fun z9 => ?_)
  · have h1 := h1.1 z9
    refine x_keep (L' := []) C [] rfl ?_
    exact kp_X7_search_162 h S C N hg hws  h1
  · have h1 := h1.2 z9
    refine x_iload C 4 dX7_search_103 rfl ?_
    refine x_if_eq (tgt := 162) C dX7_search_105 (by decide) (fun z9 => ?_) (fun z9 => ?_)
    · have h1 := h1.1 z9
      refine x_keep (L' := []) C [] rfl ?_
      exact kp_X7_search_162 h S C N hg hws  h1
    · have h1 := h1.2 z9
      refine x_aload_n C 0 dX7_search_108 rfl rfl ?_
      refine x_iload_n C 1 dX7_search_109 rfl rfl ?_
      refine x_iload C 4 dX7_search_110 rfl ?_
      obtain ⟨ht3, h1⟩ := h1
      refine x_callV (rm' := rm_X7_greatest) (n := h) C (kp_X7_greatest_met h1) lk_25 gw_194 gw_195 xv_7 rfl rfl ht3 rfl (Nat.le_of_ble_eq_true rfl) ⟨(by simp only [rm_X7_search, rm_X7_branch, rm_X7_areMet, rm_X7_bitsOf, rm_X7_greatest, rm_X7_isSettled, rm_X7_record] <;> omega), (by simp only [rm_X7_search, rm_X7_branch, rm_X7_areMet, rm_X7_bitsOf, rm_X7_greatest, rm_X7_isSettled, rm_X7_record] <;> omega), (by simp only [rm_X7_search, rm_X7_branch, rm_X7_areMet, rm_X7_bitsOf, rm_X7_greatest, rm_X7_isSettled, rm_X7_record] <;> omega), (by simp only [rm_X7_search, rm_X7_branch, rm_X7_areMet, rm_X7_bitsOf, rm_X7_greatest, rm_X7_isSettled, rm_X7_record] <;> omega)⟩ dX7_search_112 xm_kx (xm_ki (fun r5 S4 h1 => ?_))
      refine x_istore (L' := [(6, xm_i r5), (0, xm_r (some h)), (1, xm_i x1), (2, xm_i x2), (3, xm_i x3), (4, xm_i x4), (5, xm_i x5)]) C dX7_search_115 (by decide) rfl ?_
      refine x_iload C 5 dX7_search_117 rfl ?_
      refine x_iconst (v := (1 : Int32)) C dX7_search_119 (by decide) ?_
      refine x_iload C 0 dX7_search_120 rfl ?_
      refine x_ishl C dX7_search_122 ?_
      refine x_iconst (v := (-1 : Int32)) C dX7_search_123 (by decide) ?_
      refine x_ixor C dX7_search_124 ?_
      refine x_iand C dX7_search_125 ?_
      refine x_topi (fun y6 e7 => ?_)
      have h1 := h1 y6 e7
      refine x_istore (L' := [(4, xm_i y6), (6, xm_i r5), (0, xm_r (some h)), (1, xm_i x1), (2, xm_i x2), (3, xm_i x3), (5, xm_i x5)]) C dX7_search_126 (by decide) rfl ?_
      refine x_aload_n C 2 dX7_search_128 rfl rfl ?_
      obtain ⟨ht8, h1⟩ := h1
      refine x_getf_r (n := h) C rfl ht8 fd_72 (by decide) dX7_search_129 ?_
      refine x_iload_n C 3 dX7_search_132 rfl rfl ?_
      refine x_iconst (v := (nI 4)) C dX7_search_133 (by decide) ?_
      refine x_imul C dX7_search_134 ?_
      refine x_iload C 1 dX7_search_135 rfl ?_
      refine x_iadd C dX7_search_137 ?_
      obtain ⟨n9, hr10, h1⟩ := h1
      obtain ⟨z12, ht11, h1⟩ := h1
      obtain ⟨hi13, h1⟩ := h1
      refine x_iald (n := n9) C hr10 ht11 hi13 dX7_search_138 ?_
      refine x_aload_n C 2 dX7_search_139 rfl rfl ?_
      refine x_getf_i (n := h) C rfl ht8 fd_70 (by decide) dX7_search_140 ?_
      refine x_iand C dX7_search_143 ?_
      refine x_if_ne (tgt := 156) C dX7_search_144 (by decide) (fun z9 => ?_) (fun z9 => ?_)
      · have h1 := h1.1 z9
        refine x_keep (L' := [(0, xm_r (some h)), (1, xm_i x1), (2, xm_i x2), (3, xm_i x3), (4, xm_i y6), (5, xm_i x5)]) C [2, 3, 4, 5, 0, 6] rfl ?_
        exact kp_X7_search_156 h x1 x2 x3 y6 x5 S4 C N hg hws hZ97 h1
      · have h1 := h1.2 z9
        refine x_aload_n C 2 dX7_search_147 rfl rfl ?_
        refine x_iload_n C 3 dX7_search_148 rfl rfl ?_
        refine x_iload C 1 dX7_search_149 rfl ?_
        refine x_iload_n C 4 dX7_search_151 rfl rfl ?_
        refine x_iload_n C 5 dX7_search_152 rfl rfl ?_
        refine x_callV (rm' := (rm_X7_branch d)) (n := h) C (kp_X7_branch_met hws h1) lk_26 gw_199 gw_200 xv_7 rfl rfl ht8 rfl (Nat.le_of_ble_eq_true rfl) ⟨(by simp only [rm_X7_search, rm_X7_branch, rm_X7_areMet, rm_X7_bitsOf, rm_X7_greatest, rm_X7_isSettled, rm_X7_record] <;> omega), (by simp only [rm_X7_search, rm_X7_branch, rm_X7_areMet, rm_X7_bitsOf, rm_X7_greatest, rm_X7_isSettled, rm_X7_record] <;> omega), (by simp only [rm_X7_search, rm_X7_branch, rm_X7_areMet, rm_X7_bitsOf, rm_X7_greatest, rm_X7_isSettled, rm_X7_record] <;> omega), (by simp only [rm_X7_search, rm_X7_branch, rm_X7_areMet, rm_X7_bitsOf, rm_X7_greatest, rm_X7_isSettled, rm_X7_record] <;> omega)⟩ dX7_search_153 xm_kx (xm_kv (fun S14 h1 => ?_))
        refine x_keep (L' := [(0, xm_r (some h)), (1, xm_i x1), (2, xm_i x2), (3, xm_i x3), (4, xm_i y6), (5, xm_i x5)]) C [2, 3, 4, 5, 0, 6] rfl ?_
        exact kp_X7_search_156 h x1 x2 x3 y6 x5 S14 C N hg hws hZ97 h1
theorem kp_X7_search_97 {K : xm_K} {ws : Nat → Int32 → Int32 → Int32 → xm_S → (xm_S → Prop) → Prop} {d : Nat} (h : Nat) (x1 : Int32) (x2 : Int32) (x3 : Int32) (x4 : Int32) (x5 : Int32) (S : xm_S) {g : xm_S → Prop} (C : xm_Cx K cX7_search RX7 7 none (rm_X7_search (d + 1))) (N : xm_Nx K) (hg : ∀ S, g S → xm_q K none S) (hws : ∀ {h : Nat} {a b c : Int32} {S : xm_S} {g : xm_S → Prop}, ws h a b c S g → xm_Met yX7_search cX7_search 7 none (rm_X7_search d) [xm_r (some h), xm_i a, xm_i b, xm_i c] S (xm_qv g) xm_nox)  (h1 : wp_X7_search_97 ws h x1 x2 x3 x4 x5 S g) : xm_W K 0 0 97 [(0, xm_r (some h)), (1, xm_i x1), (2, xm_i x2), (3, xm_i x3), (4, xm_i x4), (5, xm_i x5)] [] S :=
  h1 (fun x1 x2 x3 x4 x5 S => xm_W K 0 0 97 [(0, xm_r (some h)), (1, xm_i x1), (2, xm_i x2), (3, xm_i x3), (4, xm_i x4), (5, xm_i x5)] [] S) (fun x1 x2 x3 x4 x5 S hb => kp_X7_search_97B h x1 x2 x3 x4 x5 S C N hg hws (fun x1 x2 x3 x4 x5 S hz => hz) hb)
def wp_X7_search (ws : Nat → Int32 → Int32 → Int32 → xm_S → (xm_S → Prop) → Prop) (h : Nat) (x1 : Int32) (x2 : Int32) (x3 : Int32) (S : xm_S) (g : xm_S → Prop) : Prop :=
  st_t S h = some (7, 0) ∧ wp_X7_isSettled h x2 x3 S (fun r18 S17 => (r18 = 0 → (x1 < (nI 6) → st_t S17 h = some (7, 0) ∧ ∃ n20, (st_r S17 h 9) = some n20 ∧ ∃ z23, st_t S17 n20 = some (100, z23) ∧ vp_in x1 z23 ∧ wp_X7_areMet h (st_i S17 h 11) ((st_i S17 h 11) ||| (st_i S17 n20 (x1).toNatClampNeg)) S17 (fun r26 S25 => (¬ r26 = 0 → st_t S25 h = some (7, 0) ∧ wp_X7_branch ws h x1 (-1 : Int32) x2 x3 S25 (fun S28 => st_t S28 h = some (7, 0) ∧ ∃ n31, (st_r S28 h 9) = some n31 ∧ ∃ z34, st_t S28 n31 = some (100, z34) ∧ vp_in x1 z34 ∧ wp_X7_bitsOf x1 S28 (fun r37 S36 => ∀ y38, y38 = (((st_i S28 n31 (x1).toNatClampNeg) &&& r37) >>> ((x1 * (nI 4)) &&& 31)) → wp_X7_search_97 ws h x1 x2 x3 y38 (0 : Int32) S36 g))) ∧ (r26 = 0 → g S25))) ∧ (¬ x1 < (nI 6) → st_t S17 h = some (7, 0) ∧ wp_X7_areMet h (0 : Int32) (st_i S17 h 11) S17 (fun r42 S41 => (r42 = 0 → wp_X7_search_45 ws h S41 g) ∧ (¬ r42 = 0 → st_t S41 h = some (7, 0) ∧ (¬ (st_i S41 h 12) = (st_i S41 h 11) → wp_X7_search_45 ws h S41 g) ∧ ((st_i S41 h 12) = (st_i S41 h 11) → wp_X7_record h x2 x3 S41 (fun S44 => wp_X7_search_45 ws h S44 g)))))) ∧ (¬ r18 = 0 → g S17))
set_option maxRecDepth 100000 in
set_option maxHeartbeats 4000000 in
theorem kp_X7_search {K : xm_K} {ws : Nat → Int32 → Int32 → Int32 → xm_S → (xm_S → Prop) → Prop} {d : Nat} (h : Nat) (x1 : Int32) (x2 : Int32) (x3 : Int32) (S : xm_S) {g : xm_S → Prop} (C : xm_Cx K cX7_search RX7 7 none (rm_X7_search (d + 1))) (N : xm_Nx K) (hg : ∀ S, g S → xm_q K none S) (hws : ∀ {h : Nat} {a b c : Int32} {S : xm_S} {g : xm_S → Prop}, ws h a b c S g → xm_Met yX7_search cX7_search 7 none (rm_X7_search d) [xm_r (some h), xm_i a, xm_i b, xm_i c] S (xm_qv g) xm_nox)  (h1 : wp_X7_search ws h x1 x2 x3 S g) : xm_W K 0 0 0 [(0, xm_r (some h)), (1, xm_i x1), (2, xm_i x2), (3, xm_i x3)] [] S := by
  unfold wp_X7_search at h1
  refine x_aload_n C 0 dX7_search_0 rfl rfl ?_
  refine x_iload_n C 2 dX7_search_1 rfl rfl ?_
  refine x_iload_n C 3 dX7_search_2 rfl rfl ?_
  obtain ⟨ht16, h1⟩ := h1
  refine x_callV (rm' := rm_X7_isSettled) (n := h) C (kp_X7_isSettled_met h1) lk_27 gw_203 gw_204 xv_7 rfl rfl ht16 rfl (Nat.le_of_ble_eq_true rfl) ⟨(by simp only [rm_X7_search, rm_X7_branch, rm_X7_areMet, rm_X7_bitsOf, rm_X7_greatest, rm_X7_isSettled, rm_X7_record] <;> omega), (by simp only [rm_X7_search, rm_X7_branch, rm_X7_areMet, rm_X7_bitsOf, rm_X7_greatest, rm_X7_isSettled, rm_X7_record] <;> omega), (by simp only [rm_X7_search, rm_X7_branch, rm_X7_areMet, rm_X7_bitsOf, rm_X7_greatest, rm_X7_isSettled, rm_X7_record] <;> omega), (by simp only [rm_X7_search, rm_X7_branch, rm_X7_areMet, rm_X7_bitsOf, rm_X7_greatest, rm_X7_isSettled, rm_X7_record] <;> omega)⟩ dX7_search_3 xm_kx (xm_ki (fun r18 S17 h1 => ?_))
  refine x_if_eq (tgt := 10) C dX7_search_6 (by decide) (fun z9 => ?_) (fun z9 => ?_)
  · have h1 := h1.1 z9
    refine x_iload_n C 1 dX7_search_10 rfl rfl ?_
    refine x_bipush (v := (nI 6)) C dX7_search_11 (by decide) ?_
    refine x_icmp_lt (tgt := 46) C dX7_search_13 (by decide) (fun z9 => ?_) (fun z9 => ?_)
    · have h1 := h1.1 z9
      refine x_aload_n C 0 dX7_search_46 rfl rfl ?_
      refine x_aload_n C 0 dX7_search_47 rfl rfl ?_
      obtain ⟨ht19, h1⟩ := h1
      refine x_getf_i (n := h) C rfl ht19 fd_70 (by decide) dX7_search_48 ?_
      refine x_aload_n C 0 dX7_search_51 rfl rfl ?_
      refine x_getf_i (n := h) C rfl ht19 fd_70 (by decide) dX7_search_52 ?_
      refine x_aload_n C 0 dX7_search_55 rfl rfl ?_
      refine x_getf_r (n := h) C rfl ht19 fd_73 (by decide) dX7_search_56 ?_
      refine x_iload_n C 1 dX7_search_59 rfl rfl ?_
      obtain ⟨n20, hr21, h1⟩ := h1
      obtain ⟨z23, ht22, h1⟩ := h1
      obtain ⟨hi24, h1⟩ := h1
      refine x_iald (n := n20) C hr21 ht22 hi24 dX7_search_60 ?_
      refine x_ior C dX7_search_61 ?_
      refine x_callV (rm' := rm_X7_areMet) (n := h) C (kp_X7_areMet_met h1) lk_28 gw_208 gw_209 xv_7 rfl rfl ht19 rfl (Nat.le_of_ble_eq_true rfl) ⟨(by simp only [rm_X7_search, rm_X7_branch, rm_X7_areMet, rm_X7_bitsOf, rm_X7_greatest, rm_X7_isSettled, rm_X7_record] <;> omega), (by simp only [rm_X7_search, rm_X7_branch, rm_X7_areMet, rm_X7_bitsOf, rm_X7_greatest, rm_X7_isSettled, rm_X7_record] <;> omega), (by simp only [rm_X7_search, rm_X7_branch, rm_X7_areMet, rm_X7_bitsOf, rm_X7_greatest, rm_X7_isSettled, rm_X7_record] <;> omega), (by simp only [rm_X7_search, rm_X7_branch, rm_X7_areMet, rm_X7_bitsOf, rm_X7_greatest, rm_X7_isSettled, rm_X7_record] <;> omega)⟩ dX7_search_62 xm_kx (xm_ki (fun r26 S25 h1 => ?_))
      refine x_if_ne (tgt := 69) C dX7_search_65 (by decide) (fun z9 => ?_) (fun z9 => ?_)
      · have h1 := h1.1 z9
        refine x_aload_n C 0 dX7_search_69 rfl rfl ?_
        refine x_iload_n C 1 dX7_search_70 rfl rfl ?_
        refine x_iconst (v := (-1 : Int32)) C dX7_search_71 (by decide) ?_
        refine x_iload_n C 2 dX7_search_72 rfl rfl ?_
        refine x_iload_n C 3 dX7_search_73 rfl rfl ?_
        obtain ⟨ht27, h1⟩ := h1
        refine x_callV (rm' := (rm_X7_branch d)) (n := h) C (kp_X7_branch_met hws h1) lk_26 gw_199 gw_200 xv_7 rfl rfl ht27 rfl (Nat.le_of_ble_eq_true rfl) ⟨(by simp only [rm_X7_search, rm_X7_branch, rm_X7_areMet, rm_X7_bitsOf, rm_X7_greatest, rm_X7_isSettled, rm_X7_record] <;> omega), (by simp only [rm_X7_search, rm_X7_branch, rm_X7_areMet, rm_X7_bitsOf, rm_X7_greatest, rm_X7_isSettled, rm_X7_record] <;> omega), (by simp only [rm_X7_search, rm_X7_branch, rm_X7_areMet, rm_X7_bitsOf, rm_X7_greatest, rm_X7_isSettled, rm_X7_record] <;> omega), (by simp only [rm_X7_search, rm_X7_branch, rm_X7_areMet, rm_X7_bitsOf, rm_X7_greatest, rm_X7_isSettled, rm_X7_record] <;> omega)⟩ dX7_search_74 xm_kx (xm_kv (fun S28 h1 => ?_))
        refine x_aload_n C 0 dX7_search_77 rfl rfl ?_
        obtain ⟨ht30, h1⟩ := h1
        refine x_getf_r (n := h) C rfl ht30 fd_73 (by decide) dX7_search_78 ?_
        refine x_iload_n C 1 dX7_search_81 rfl rfl ?_
        obtain ⟨n31, hr32, h1⟩ := h1
        obtain ⟨z34, ht33, h1⟩ := h1
        obtain ⟨hi35, h1⟩ := h1
        refine x_iald (n := n31) C hr32 ht33 hi35 dX7_search_82 ?_
        refine x_iload_n C 1 dX7_search_83 rfl rfl ?_
        refine x_callS (rm' := rm_X7_bitsOf) C (kp_X7_bitsOf_met h1) lk_29 gw_212 rfl (Nat.le_of_ble_eq_true rfl) ⟨(by simp only [rm_X7_search, rm_X7_branch, rm_X7_areMet, rm_X7_bitsOf, rm_X7_greatest, rm_X7_isSettled, rm_X7_record] <;> omega), (by simp only [rm_X7_search, rm_X7_branch, rm_X7_areMet, rm_X7_bitsOf, rm_X7_greatest, rm_X7_isSettled, rm_X7_record] <;> omega), (by simp only [rm_X7_search, rm_X7_branch, rm_X7_areMet, rm_X7_bitsOf, rm_X7_greatest, rm_X7_isSettled, rm_X7_record] <;> omega), (by simp only [rm_X7_search, rm_X7_branch, rm_X7_areMet, rm_X7_bitsOf, rm_X7_greatest, rm_X7_isSettled, rm_X7_record] <;> omega)⟩ dX7_search_84 xm_kx (xm_ki (fun r37 S36 h1 => ?_))
        refine x_iand C dX7_search_87 ?_
        refine x_iload_n C 1 dX7_search_88 rfl rfl ?_
        refine x_iconst (v := (nI 4)) C dX7_search_89 (by decide) ?_
        refine x_imul C dX7_search_90 ?_
        refine x_ishr C dX7_search_91 ?_
        refine x_topi (fun y38 e39 => ?_)
        have h1 := h1 y38 e39
        refine x_istore (L' := [(4, xm_i y38), (0, xm_r (some h)), (1, xm_i x1), (2, xm_i x2), (3, xm_i x3)]) C dX7_search_92 (by decide) rfl ?_
        refine x_iconst (v := (0 : Int32)) C dX7_search_94 (by decide) ?_
        refine x_istore (L' := [(5, xm_i (0 : Int32)), (4, xm_i y38), (0, xm_r (some h)), (1, xm_i x1), (2, xm_i x2), (3, xm_i x3)]) C dX7_search_95 (by decide) rfl ?_
        refine x_keep (L' := [(0, xm_r (some h)), (1, xm_i x1), (2, xm_i x2), (3, xm_i x3), (4, xm_i y38), (5, xm_i (0 : Int32))]) C [2, 3, 4, 5, 1, 0] rfl ?_
        exact kp_X7_search_97 h x1 x2 x3 y38 (0 : Int32) S36 C N hg hws  h1
      · have h1 := h1.2 z9
        exact x_vret C (by simp only [rm_X7_search, rm_X7_branch, rm_X7_areMet, rm_X7_bitsOf, rm_X7_greatest, rm_X7_isSettled, rm_X7_record] <;> omega) (by simp only [rm_X7_search, rm_X7_branch, rm_X7_areMet, rm_X7_bitsOf, rm_X7_greatest, rm_X7_isSettled, rm_X7_record] <;> omega) rfl dX7_search_68 (hg _ h1)
    · have h1 := h1.2 z9
      refine x_aload_n C 0 dX7_search_16 rfl rfl ?_
      refine x_iconst (v := (0 : Int32)) C dX7_search_17 (by decide) ?_
      refine x_aload_n C 0 dX7_search_18 rfl rfl ?_
      obtain ⟨ht40, h1⟩ := h1
      refine x_getf_i (n := h) C rfl ht40 fd_70 (by decide) dX7_search_19 ?_
      refine x_callV (rm' := rm_X7_areMet) (n := h) C (kp_X7_areMet_met h1) lk_28 gw_208 gw_209 xv_7 rfl rfl ht40 rfl (Nat.le_of_ble_eq_true rfl) ⟨(by simp only [rm_X7_search, rm_X7_branch, rm_X7_areMet, rm_X7_bitsOf, rm_X7_greatest, rm_X7_isSettled, rm_X7_record] <;> omega), (by simp only [rm_X7_search, rm_X7_branch, rm_X7_areMet, rm_X7_bitsOf, rm_X7_greatest, rm_X7_isSettled, rm_X7_record] <;> omega), (by simp only [rm_X7_search, rm_X7_branch, rm_X7_areMet, rm_X7_bitsOf, rm_X7_greatest, rm_X7_isSettled, rm_X7_record] <;> omega), (by simp only [rm_X7_search, rm_X7_branch, rm_X7_areMet, rm_X7_bitsOf, rm_X7_greatest, rm_X7_isSettled, rm_X7_record] <;> omega)⟩ dX7_search_22 xm_kx (xm_ki (fun r42 S41 h1 => ?_))
      refine x_if_eq (tgt := 45) C dX7_search_25 (by decide) (fun z9 => ?_) (fun z9 => ?_)
      · have h1 := h1.1 z9
        refine x_keep (L' := []) C [] rfl ?_
        exact kp_X7_search_45 h S41 C N hg hws  h1
      · have h1 := h1.2 z9
        refine x_aload_n C 0 dX7_search_28 rfl rfl ?_
        obtain ⟨ht43, h1⟩ := h1
        refine x_getf_i (n := h) C rfl ht43 fd_49 (by decide) dX7_search_29 ?_
        refine x_aload_n C 0 dX7_search_32 rfl rfl ?_
        refine x_getf_i (n := h) C rfl ht43 fd_70 (by decide) dX7_search_33 ?_
        refine x_icmp_ne (tgt := 45) C dX7_search_36 (by decide) (fun z9 => ?_) (fun z9 => ?_)
        · have h1 := h1.1 z9
          refine x_keep (L' := []) C [] rfl ?_
          exact kp_X7_search_45 h S41 C N hg hws  h1
        · have h1 := h1.2 z9
          refine x_aload_n C 0 dX7_search_39 rfl rfl ?_
          refine x_iload_n C 2 dX7_search_40 rfl rfl ?_
          refine x_iload_n C 3 dX7_search_41 rfl rfl ?_
          refine x_callV (rm' := rm_X7_record) (n := h) C (kp_X7_record_met h1) lk_30 gw_215 gw_216 xv_7 rfl rfl ht43 rfl (Nat.le_of_ble_eq_true rfl) ⟨(by simp only [rm_X7_search, rm_X7_branch, rm_X7_areMet, rm_X7_bitsOf, rm_X7_greatest, rm_X7_isSettled, rm_X7_record] <;> omega), (by simp only [rm_X7_search, rm_X7_branch, rm_X7_areMet, rm_X7_bitsOf, rm_X7_greatest, rm_X7_isSettled, rm_X7_record] <;> omega), (by simp only [rm_X7_search, rm_X7_branch, rm_X7_areMet, rm_X7_bitsOf, rm_X7_greatest, rm_X7_isSettled, rm_X7_record] <;> omega), (by simp only [rm_X7_search, rm_X7_branch, rm_X7_areMet, rm_X7_bitsOf, rm_X7_greatest, rm_X7_isSettled, rm_X7_record] <;> omega)⟩ dX7_search_42 xm_kx (xm_kv (fun S44 h1 => ?_))
          refine x_keep (L' := []) C [] rfl ?_
          exact kp_X7_search_45 h S44 C N hg hws  h1
  · have h1 := h1.2 z9
    exact x_vret C (by simp only [rm_X7_search, rm_X7_branch, rm_X7_areMet, rm_X7_bitsOf, rm_X7_greatest, rm_X7_isSettled, rm_X7_record] <;> omega) (by simp only [rm_X7_search, rm_X7_branch, rm_X7_areMet, rm_X7_bitsOf, rm_X7_greatest, rm_X7_isSettled, rm_X7_record] <;> omega) rfl dX7_search_9 (hg _ h1)
theorem kp_X7_search_met {ws : Nat → Int32 → Int32 → Int32 → xm_S → (xm_S → Prop) → Prop} {d : Nat} {h : Nat} {x1 : Int32} {x2 : Int32} {x3 : Int32} {S : xm_S} {g : xm_S → Prop}  (hws : ∀ {h : Nat} {a b c : Int32} {S : xm_S} {g : xm_S → Prop}, ws h a b c S g → xm_Met yX7_search cX7_search 7 none (rm_X7_search d) [xm_r (some h), xm_i a, xm_i b, xm_i c] S (xm_qv g) xm_nox) (h1 : wp_X7_search ws h x1 x2 x3 S g) : xm_Met yX7_search cX7_search 7 none (rm_X7_search (d + 1)) [xm_r (some h), xm_i x1, xm_i x2, xm_i x3] S (xm_qv g) xm_nox :=
  xm_ofW RX7 (by decide +kernel) rfl (Nat.le_of_ble_eq_true rfl) (fun K C N hq hx hi => kp_X7_search h x1 x2 x3 S C N (fun S h => by rw [hq]; exact ⟨rfl, h⟩) hws  h1)
def wz_X7_search : Nat → Nat → Int32 → Int32 → Int32 → xm_S → (xm_S → Prop) → Prop
  | 0 => fun _ _ _ _ _ _ => False
  | d + 1 => wp_X7_search (wz_X7_search d)
theorem kz_X7_search_met : ∀ {d : Nat} {h : Nat} {a b c : Int32} {S : xm_S} {g : xm_S → Prop}, wz_X7_search d h a b c S g → xm_Met yX7_search cX7_search 7 none (rm_X7_search d) [xm_r (some h), xm_i a, xm_i b, xm_i c] S (xm_qv g) xm_nox
  | 0, _, _, _, _, _, _, h => h.elim
  | d + 1, _, _, _, _, _, _, h => kp_X7_search_met kz_X7_search_met h

