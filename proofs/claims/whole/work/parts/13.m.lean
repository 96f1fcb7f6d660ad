def rm_X10_addFile : Room := { frames := 1, cells := 0, slots := 0, locals := 20 }
theorem dX10_addFile_0 : decode cX10_addFile 0 = .ok (.aload_n 0, 1) := by decide +kernel
theorem dX10_addFile_1 : decode cX10_addFile 1 = .ok (.getfield 54, 3) := by decide +kernel
theorem dX10_addFile_4 : decode cX10_addFile 4 = .ok (.iconst 3, 1) := by decide +kernel
theorem dX10_addFile_5 : decode cX10_addFile 5 = .ok (.if_icmp .ge 43, 3) := by decide +kernel
theorem dX10_addFile_8 : decode cX10_addFile 8 = .ok (.aload_n 0, 1) := by decide +kernel
theorem dX10_addFile_9 : decode cX10_addFile 9 = .ok (.getfield 44, 3) := by decide +kernel
theorem dX10_addFile_12 : decode cX10_addFile 12 = .ok (.aload_n 0, 1) := by decide +kernel
theorem dX10_addFile_13 : decode cX10_addFile 13 = .ok (.getfield 54, 3) := by decide +kernel
theorem dX10_addFile_16 : decode cX10_addFile 16 = .ok (.iload_n 1, 1) := by decide +kernel
theorem dX10_addFile_17 : decode cX10_addFile 17 = .ok (.iastore, 1) := by decide +kernel
theorem dX10_addFile_18 : decode cX10_addFile 18 = .ok (.aload_n 0, 1) := by decide +kernel
theorem dX10_addFile_19 : decode cX10_addFile 19 = .ok (.getfield 47, 3) := by decide +kernel
theorem dX10_addFile_22 : decode cX10_addFile 22 = .ok (.aload_n 0, 1) := by decide +kernel
theorem dX10_addFile_23 : decode cX10_addFile 23 = .ok (.getfield 54, 3) := by decide +kernel
theorem dX10_addFile_26 : decode cX10_addFile 26 = .ok (.iload_n 2, 1) := by decide +kernel
theorem dX10_addFile_27 : decode cX10_addFile 27 = .ok (.iastore, 1) := by decide +kernel
theorem dX10_addFile_28 : decode cX10_addFile 28 = .ok (.aload_n 0, 1) := by decide +kernel
theorem dX10_addFile_29 : decode cX10_addFile 29 = .ok (.getfield 50, 3) := by decide +kernel
theorem dX10_addFile_32 : decode cX10_addFile 32 = .ok (.aload_n 0, 1) := by decide +kernel
theorem dX10_addFile_33 : decode cX10_addFile 33 = .ok (.getfield 54, 3) := by decide +kernel
theorem dX10_addFile_36 : decode cX10_addFile 36 = .ok (.iload_n 3, 1) := by decide +kernel
theorem dX10_addFile_37 : decode cX10_addFile 37 = .ok (.bastore, 1) := by decide +kernel
theorem dX10_addFile_38 : decode cX10_addFile 38 = .ok (.aload_n 0, 1) := by decide +kernel
theorem dX10_addFile_39 : decode cX10_addFile 39 = .ok (.dup, 1) := by decide +kernel
theorem dX10_addFile_40 : decode cX10_addFile 40 = .ok (.getfield 54, 3) := by decide +kernel
theorem dX10_addFile_43 : decode cX10_addFile 43 = .ok (.iconst 1, 1) := by decide +kernel
theorem dX10_addFile_44 : decode cX10_addFile 44 = .ok (.iadd, 1) := by decide +kernel
theorem dX10_addFile_45 : decode cX10_addFile 45 = .ok (.putfield 54, 3) := by decide +kernel
theorem dX10_addFile_48 : decode cX10_addFile 48 = .ok (.return_, 1) := by decide +kernel
def wp_X10_addFile_48 (h : Nat)  (S : xm_S) (g : xm_S → Prop) : Prop :=
  g S
set_option maxRecDepth 100000 in
set_option maxHeartbeats 4000000 in
theorem kp_X10_addFile_48 {K : xm_K} (h : Nat)  (S : xm_S) {g : xm_S → Prop} (C : xm_Cx K cX10_addFile RX10 4 none rm_X10_addFile) (N : xm_Nx K) (hg : ∀ S, g S → xm_q K none S)  (h1 : wp_X10_addFile_48 h  S g) : xm_W K 0 0 48 [] [] S := by
  unfold wp_X10_addFile_48 at h1
  exact x_vret C (Nat.le_of_ble_eq_true rfl) (Nat.le_of_ble_eq_true rfl) rfl dX10_addFile_48 (hg _ h1)
def wp_X10_addFile (h : Nat) (x1 : Int32) (x2 : Int32) (x3 : Int32) (S : xm_S) (g : xm_S → Prop) : Prop :=
  st_t S h = some (10, 0) ∧ ((nI 3) ≤ (st_i S h 16) → wp_X10_addFile_48 h S g) ∧ (¬ (nI 3) ≤ (st_i S h 16) → ∃ n2, (st_r S h 13) = some n2 ∧ ∃ z5, st_t S n2 = some (100, z5) ∧ vp_in (st_i S h 16) z5 ∧ ∀ S7, S7 = st_pi S n2 ((st_i S h 16)).toNatClampNeg x1 → ∃ n9, (st_r S7 h 14) = some n9 ∧ ∃ z12, st_t S7 n9 = some (100, z12) ∧ vp_in (st_i S7 h 16) z12 ∧ ∀ S14, S14 = st_pi S7 n9 ((st_i S7 h 16)).toNatClampNeg x2 → ∃ n16, (st_r S14 h 15) = some n16 ∧ ∃ z19, st_t S14 n16 = some (101, z19) ∧ vp_in (st_i S14 h 16) z19 ∧ (x3 = 0 ∨ x3 = 1) ∧ ∀ S22, S22 = st_pi S14 n16 ((st_i S14 h 16)).toNatClampNeg x3 → ∀ S24, S24 = st_pi S22 h 16 ((st_i S22 h 16) + (1 : Int32)) → wp_X10_addFile_48 h S24 g)
set_option maxRecDepth 100000 in
set_option maxHeartbeats 4000000 in
theorem kp_X10_addFile {K : xm_K} (h : Nat) (x1 : Int32) (x2 : Int32) (x3 : Int32) (S : xm_S) {g : xm_S → Prop} (C : xm_Cx K cX10_addFile RX10 4 none rm_X10_addFile) (N : xm_Nx K) (hg : ∀ S, g S → xm_q K none S)  (h1 : wp_X10_addFile h x1 x2 x3 S g) : xm_W K 0 0 0 [(0, xm_r (some h)), (1, xm_i x1), (2, xm_i x2), (3, xm_i x3)] [] S := by
  unfold wp_X10_addFile at h1
  refine x_aload_n C 0 dX10_addFile_0 rfl rfl ?_
  obtain ⟨ht1, h1⟩ := h1
  refine x_getf_i (n := h) C rfl ht1 fd_91 (by decide) dX10_addFile_1 ?_
  refine x_iconst (v := (nI 3)) C dX10_addFile_4 (by decide) ?_
  refine x_icmp_ge (tgt := 48) C dX10_addFile_5 (by decide) (fun z9 => ?_) (fun z9 => ?_)
  · have h1 := h1.1 z9
    refine x_keep (L' := []) C [] rfl ?_
    exact kp_X10_addFile_48 h S C N hg  h1
  · have h1 := h1.2 z9
    refine x_aload_n C 0 dX10_addFile_8 rfl rfl ?_
    refine x_getf_r (n := h) C rfl ht1 fd_92 (by decide) dX10_addFile_9 ?_
    refine x_aload_n C 0 dX10_addFile_12 rfl rfl ?_
    refine x_getf_i (n := h) C rfl ht1 fd_91 (by decide) dX10_addFile_13 ?_
    refine x_iload_n C 1 dX10_addFile_16 rfl rfl ?_
    obtain ⟨n2, hr3, h1⟩ := h1
    obtain ⟨z5, ht4, h1⟩ := h1
    obtain ⟨hi6, h1⟩ := h1
    refine x_iast (n := n2) C hr3 ht4 hi6 dX10_addFile_17 ?_
    refine x_topS (fun S7 e8 => ?_)
    have h1 := h1 S7 e8
    refine x_aload_n C 0 dX10_addFile_18 rfl rfl ?_
    refine x_getf_r (n := h) C rfl (tk_p e8 ht1) fd_93 (by decide) dX10_addFile_19 ?_
    refine x_aload_n C 0 dX10_addFile_22 rfl rfl ?_
    refine x_getf_i (n := h) C rfl (tk_p e8 ht1) fd_91 (by decide) dX10_addFile_23 ?_
    refine x_iload_n C 2 dX10_addFile_26 rfl rfl ?_
    obtain ⟨n9, hr10, h1⟩ := h1
    obtain ⟨z12, ht11, h1⟩ := h1
    obtain ⟨hi13, h1⟩ := h1
    refine x_iast (n := n9) C hr10 ht11 hi13 dX10_addFile_27 ?_
    refine x_topS (fun S14 e15 => ?_)
    have h1 := h1 S14 e15
    refine x_aload_n C 0 dX10_addFile_28 rfl rfl ?_
    refine x_getf_r (n := h) C rfl (tk_p e15 (tk_p e8 ht1)) fd_94 (by decide) dX10_addFile_29 ?_
    refine x_aload_n C 0 dX10_addFile_32 rfl rfl ?_
    refine x_getf_i (n := h) C rfl (tk_p e15 (tk_p e8 ht1)) fd_91 (by decide) dX10_addFile_33 ?_
    refine x_iload_n C 3 dX10_addFile_36 rfl rfl ?_
    obtain ⟨n16, hr17, h1⟩ := h1
    obtain ⟨z19, ht18, h1⟩ := h1
    obtain ⟨hi20, h1⟩ := h1
    obtain ⟨hz21, h1⟩ := h1
    refine x_zast (n := n16) C hr17 ht18 hi20 hz21 dX10_addFile_37 ?_
    refine x_topS (fun S22 e23 => ?_)
    have h1 := h1 S22 e23
    refine x_aload_n C 0 dX10_addFile_38 rfl rfl ?_
    refine x_dup_r C dX10_addFile_39 ?_
    refine x_getf_i (n := h) C rfl (tk_p e23 (tk_p e15 (tk_p e8 ht1))) fd_91 (by decide) dX10_addFile_40 ?_
    refine x_iconst (v := (1 : Int32)) C dX10_addFile_43 (by decide) ?_
    refine x_iadd C dX10_addFile_44 ?_
    refine x_putf_i (n := h) C rfl (tk_p e23 (tk_p e15 (tk_p e8 ht1))) fd_91 xc_10 (by decide) rfl ⟨rfl, rfl⟩ dX10_addFile_45 ?_
    refine x_topS (fun S24 e25 => ?_)
    have h1 := h1 S24 e25
    refine x_keep (L' := []) C [] rfl ?_
    exact kp_X10_addFile_48 h S24 C N hg  h1
theorem kp_X10_addFile_met {h : Nat} {x1 : Int32} {x2 : Int32} {x3 : Int32} {S : xm_S} {g : xm_S → Prop}  (h1 : wp_X10_addFile h x1 x2 x3 S g) : xm_Met yX10_addFile cX10_addFile 4 none rm_X10_addFile [xm_r (some h), xm_i x1, xm_i x2, xm_i x3] S (xm_qv g) xm_nox :=
  xm_ofW RX10 (by decide +kernel) rfl (Nat.le_of_ble_eq_true rfl) (fun K C N hq hx hi => kp_X10_addFile h x1 x2 x3 S C N (fun S h => by rw [hq]; exact ⟨rfl, h⟩)  h1)
def rm_X10_givenBy : Room := { frames := 1, cells := 0, slots := 0, locals := 20 }
theorem dX10_givenBy_0 : decode cX10_givenBy 0 = .ok (.aload_n 0, 1) := by decide +kernel
theorem dX10_givenBy_1 : decode cX10_givenBy 1 = .ok (.getfield 57, 3) := by decide +kernel
theorem dX10_givenBy_4 : decode cX10_givenBy 4 = .ok (.iload_n 1, 1) := by decide +kernel
theorem dX10_givenBy_5 : decode cX10_givenBy 5 = .ok (.iaload, 1) := by decide +kernel
theorem dX10_givenBy_6 : decode cX10_givenBy 6 = .ok (.iconst (-1), 1) := by decide +kernel
theorem dX10_givenBy_7 : decode cX10_givenBy 7 = .ok (.if_icmp .ne 10, 3) := by decide +kernel
theorem dX10_givenBy_10 : decode cX10_givenBy 10 = .ok (.aload_n 0, 1) := by decide +kernel
theorem dX10_givenBy_11 : decode cX10_givenBy 11 = .ok (.getfield 75, 3) := by decide +kernel
theorem dX10_givenBy_14 : decode cX10_givenBy 14 = .ok (.goto 9, 3) := by decide +kernel
theorem dX10_givenBy_17 : decode cX10_givenBy 17 = .ok (.aload_n 0, 1) := by decide +kernel
theorem dX10_givenBy_18 : decode cX10_givenBy 18 = .ok (.getfield 57, 3) := by decide +kernel
theorem dX10_givenBy_21 : decode cX10_givenBy 21 = .ok (.iload_n 1, 1) := by decide +kernel
theorem dX10_givenBy_22 : decode cX10_givenBy 22 = .ok (.iaload, 1) := by decide +kernel
theorem dX10_givenBy_23 : decode cX10_givenBy 23 = .ok (.ireturn, 1) := by decide +kernel
def wp_X10_givenBy_23 (h : Nat) (s0 : Int32) (S : xm_S) (g : Int32 → xm_S → Prop) : Prop :=
  g s0 S
set_option maxRecDepth 100000 in
set_option maxHeartbeats 4000000 in
theorem kp_X10_givenBy_23 {K : xm_K} (h : Nat) (s0 : Int32) (S : xm_S) {g : Int32 → xm_S → Prop} (C : xm_Cx K cX10_givenBy RX10 2 (some (FieldType.int)) rm_X10_givenBy) (N : xm_Nx K) (hg : ∀ v S, g v S → xm_q K (some (xm_i v)) S)  (h1 : wp_X10_givenBy_23 h s0 S g) : xm_W K 0 0 23 [] [xm_i s0] S := by
  unfold wp_X10_givenBy_23 at h1
  exact x_iret C (Nat.le_of_ble_eq_true rfl) (Nat.le_of_ble_eq_true rfl) rfl dX10_givenBy_23 (hg _ _ h1)
def wp_X10_givenBy (h : Nat) (x1 : Int32) (S : xm_S) (g : Int32 → xm_S → Prop) : Prop :=
  st_t S h = some (10, 0) ∧ ∃ n2, (st_r S h 17) = some n2 ∧ ∃ z5, st_t S n2 = some (100, z5) ∧ vp_in x1 z5 ∧ (¬ (st_i S n2 (x1).toNatClampNeg) = (-1 : Int32) → ∃ n7, (st_r S h 17) = some n7 ∧ ∃ z10, st_t S n7 = some (100, z10) ∧ vp_in x1 z10 ∧ wp_X10_givenBy_23 h (st_i S n7 (x1).toNatClampNeg) S g) ∧ ((st_i S n2 (x1).toNatClampNeg) = (-1 : Int32) → wp_X10_givenBy_23 h (st_i S h 3) S g)
set_option maxRecDepth 100000 in
set_option maxHeartbeats 4000000 in
theorem kp_X10_givenBy {K : xm_K} (h : Nat) (x1 : Int32) (S : xm_S) {g : Int32 → xm_S → Prop} (C : xm_Cx K cX10_givenBy RX10 2 (some (FieldType.int)) rm_X10_givenBy) (N : xm_Nx K) (hg : ∀ v S, g v S → xm_q K (some (xm_i v)) S)  (h1 : wp_X10_givenBy h x1 S g) : xm_W K 0 0 0 [(0, xm_r (some h)), (1, xm_i x1)] [] S := by
  unfold wp_X10_givenBy at h1
  refine x_aload_n C 0 dX10_givenBy_0 rfl rfl ?_
  obtain ⟨ht1, h1⟩ := h1
  refine x_getf_r (n := h) C rfl ht1 fd_95 (by decide) dX10_givenBy_1 ?_
  refine x_iload_n C 1 dX10_givenBy_4 rfl rfl ?_
  obtain ⟨n2, hr3, h1⟩ := h1
  obtain ⟨z5, ht4, h1⟩ := h1
  obtain ⟨hi6, h1⟩ := h1
  refine x_iald (n := n2) C hr3 ht4 hi6 dX10_givenBy_5 ?_
  refine x_iconst (v := (-1 : Int32)) C dX10_givenBy_6 (by decide) ?_
  refine x_icmp_ne (tgt := 17) C dX10_givenBy_7 (by decide) (fun z9 => ?_) (fun z9 => ?_)
  · have h1 := h1.1 z9
    refine x_aload_n C 0 dX10_givenBy_17 rfl rfl ?_
    refine x_getf_r (n := h) C rfl ht1 fd_95 (by decide) dX10_givenBy_18 ?_
    refine x_iload_n C 1 dX10_givenBy_21 rfl rfl ?_
    obtain ⟨n7, hr8, h1⟩ := h1
    obtain ⟨z10, ht9, h1⟩ := h1
    obtain ⟨hi11, h1⟩ := h1
    refine x_iald (n := n7) C hr8 ht9 hi11 dX10_givenBy_22 ?_
    refine x_keep (L' := []) C [] rfl ?_
    exact kp_X10_givenBy_23 h (st_i S n7 (x1).toNatClampNeg) S C N hg  h1
  · have h1 := h1.2 z9
    refine x_aload_n C 0 dX10_givenBy_10 rfl rfl ?_
    refine x_getf_i (n := h) C rfl ht1 fd_96 (by decide) dX10_givenBy_11 ?_
    refine x_goto (tgt := 23) C dX10_givenBy_14 (by decide) ?_
    refine x_keep (L' := []) C [] rfl ?_
    exact kp_X10_givenBy_23 h (st_i S h 3) S C N hg  h1
theorem kp_X10_givenBy_met {h : Nat} {x1 : Int32} {S : xm_S} {g : Int32 → xm_S → Prop}  (h1 : wp_X10_givenBy h x1 S g) : xm_Met yX10_givenBy cX10_givenBy 2 (some (FieldType.int)) rm_X10_givenBy [xm_r (some h), xm_i x1] S (xm_qi g) xm_nox :=
  xm_ofW RX10 (by decide +kernel) rfl (Nat.le_of_ble_eq_true rfl) (fun K C N hq hx hi => kp_X10_givenBy h x1 S C N (fun v S h => by rw [hq]; exact ⟨v, rfl, h⟩)  h1)
def rm_X10_hasFileAt : Room := { frames := 1, cells := 0, slots := 0, locals := 20 }
theorem dX10_hasFileAt_0 : decode cX10_hasFileAt 0 = .ok (.iconst 0, 1) := by decide +kernel
theorem dX10_hasFileAt_1 : decode cX10_hasFileAt 1 = .ok (.istore_n 2, 1) := by decide +kernel
theorem dX10_hasFileAt_2 : decode cX10_hasFileAt 2 = .ok (.iload_n 2, 1) := by decide +kernel
theorem dX10_hasFileAt_3 : decode cX10_hasFileAt 3 = .ok (.aload_n 0, 1) := by decide +kernel
theorem dX10_hasFileAt_4 : decode cX10_hasFileAt 4 = .ok (.getfield 54, 3) := by decide +kernel
theorem dX10_hasFileAt_7 : decode cX10_hasFileAt 7 = .ok (.if_icmp .ge 21, 3) := by decide +kernel
theorem dX10_hasFileAt_10 : decode cX10_hasFileAt 10 = .ok (.aload_n 0, 1) := by decide +kernel
theorem dX10_hasFileAt_11 : decode cX10_hasFileAt 11 = .ok (.getfield 44, 3) := by decide +kernel
theorem dX10_hasFileAt_14 : decode cX10_hasFileAt 14 = .ok (.iload_n 2, 1) := by decide +kernel
theorem dX10_hasFileAt_15 : decode cX10_hasFileAt 15 = .ok (.iaload, 1) := by decide +kernel
theorem dX10_hasFileAt_16 : decode cX10_hasFileAt 16 = .ok (.iload_n 1, 1) := by decide +kernel
theorem dX10_hasFileAt_17 : decode cX10_hasFileAt 17 = .ok (.if_icmp .ne 5, 3) := by decide +kernel
theorem dX10_hasFileAt_20 : decode cX10_hasFileAt 20 = .ok (.iconst 1, 1) := by decide +kernel
theorem dX10_hasFileAt_21 : decode cX10_hasFileAt 21 = .ok (.ireturn, 1) := by decide +kernel
theorem dX10_hasFileAt_22 : decode cX10_hasFileAt 22 = .ok (.iinc 2 1, 3) := by decide +kernel
theorem dX10_hasFileAt_25 : decode cX10_hasFileAt 25 = .ok (.goto (-23), 3) := by decide +kernel
theorem dX10_hasFileAt_28 : decode cX10_hasFileAt 28 = .ok (.iconst 0, 1) := by decide +kernel
theorem dX10_hasFileAt_29 : decode cX10_hasFileAt 29 = .ok (.ireturn, 1) := by decide +kernel
def wp_X10_hasFileAt_2B (h : Nat) (x1 : Int32) (x2 : Int32) (S : xm_S) (g : Int32 → xm_S → Prop) (Z2 : Int32 → Int32 → xm_S → Prop) : Prop :=
  st_t S h = some (10, 0) ∧ ((st_i S h 16) ≤ x2 → g (0 : Int32) S) ∧ (¬ (st_i S h 16) ≤ x2 → ∃ n2, (st_r S h 13) = some n2 ∧ ∃ z5, st_t S n2 = some (100, z5) ∧ vp_in x2 z5 ∧ (¬ (st_i S n2 (x2).toNatClampNeg) = x1 → ∀ y7, y7 = (x2 + (1 : Int32)) → Z2 x1 y7 S) ∧ ((st_i S n2 (x2).toNatClampNeg) = x1 → g (1 : Int32) S))
def wp_X10_hasFileAt_2 (h : Nat) (x1 : Int32) (x2 : Int32) (S : xm_S) (g : Int32 → xm_S → Prop) : Prop :=
  ∀ Z2 : Int32 → Int32 → xm_S → Prop, (∀ x1 x2 S, wp_X10_hasFileAt_2B h x1 x2 S g Z2 → Z2 x1 x2 S) → Z2 x1 x2 S
set_option maxRecDepth 100000 in
set_option maxHeartbeats 4000000 in
theorem kp_X10_hasFileAt_2B {K : xm_K} (h : Nat) (x1 : Int32) (x2 : Int32) (S : xm_S) {g : Int32 → xm_S → Prop} {Z2 : Int32 → Int32 → xm_S → Prop} (C : xm_Cx K cX10_hasFileAt RX10 3 (some (FieldType.boolean)) rm_X10_hasFileAt) (N : xm_Nx K) (hg : ∀ v S, g v S → xm_q K (some (xm_i v)) S) (hZ2 : ∀ x1 x2 S, Z2 x1 x2 S → xm_W K 0 0 2 [(0, xm_r (some h)), (1, xm_i x1), (2, xm_i x2)] [] S) (h1 : wp_X10_hasFileAt_2B h x1 x2 S g Z2) : xm_W K 0 0 2 [(0, xm_r (some h)), (1, xm_i x1), (2, xm_i x2)] [] S := by
  unfold wp_X10_hasFileAt_2B at h1
  refine x_iload_n C 2 dX10_hasFileAt_2 rfl rfl ?_
  refine x_aload_n C 0 dX10_hasFileAt_3 rfl rfl ?_
  obtain ⟨ht1, h1⟩ := h1
  refine x_getf_i (n := h) C rfl ht1 fd_91 (by decide) dX10_hasFileAt_4 ?_
  refine x_icmp_ge (tgt := 28) C dX10_hasFileAt_7 (by decide) (fun z9 => ?_) (fun z9 => ?_)
  · have h1 := h1.1 z9
    refine x_iconst (v := (0 : Int32)) C dX10_hasFileAt_28 (by decide) ?_
    exact x_zret C (Nat.le_of_ble_eq_true rfl) (Nat.le_of_ble_eq_true rfl) rfl (by decide) dX10_hasFileAt_29 (hg _ _ h1)
  · have h1 := h1.2 z9
    refine x_aload_n C 0 dX10_hasFileAt_10 rfl rfl ?_
    refine x_getf_r (n := h) C rfl ht1 fd_92 (by decide) dX10_hasFileAt_11 ?_
    refine x_iload_n C 2 dX10_hasFileAt_14 rfl rfl ?_
    obtain ⟨n2, hr3, h1⟩ := h1
    obtain ⟨z5, ht4, h1⟩ := h1
    obtain ⟨hi6, h1⟩ := h1
    refine x_iald (n := n2) C hr3 ht4 hi6 dX10_hasFileAt_15 ?_
    refine x_iload_n C 1 dX10_hasFileAt_16 rfl rfl ?_
    refine x_icmp_ne (tgt := 22) C dX10_hasFileAt_17 (by decide) (fun z9 => ?_) (fun z9 => ?_)
    · have h1 := h1.1 z9
      obtain ⟨y7, e8⟩ : ∃ y7, y7 = (x2 + (1 : Int32)) := ⟨_, rfl⟩
      have h1 := h1 y7 e8
      refine x_iinc (v := y7) (L' := [(2, xm_i y7), (0, xm_r (some h)), (1, xm_i x1)]) C 2 dX10_hasFileAt_22 rfl (by rw [e8]; rfl) (by decide) rfl ?_
      refine x_goto (tgt := 2) C dX10_hasFileAt_25 (by decide) ?_
      refine x_keep (L' := [(0, xm_r (some h)), (1, xm_i x1), (2, xm_i y7)]) C [1, 2, 0] rfl ?_
      exact hZ2 x1 y7 S h1
    · have h1 := h1.2 z9
      refine x_iconst (v := (1 : Int32)) C dX10_hasFileAt_20 (by decide) ?_
      exact x_zret C (Nat.le_of_ble_eq_true rfl) (Nat.le_of_ble_eq_true rfl) rfl (by decide) dX10_hasFileAt_21 (hg _ _ h1)
theorem kp_X10_hasFileAt_2 {K : xm_K} (h : Nat) (x1 : Int32) (x2 : Int32) (S : xm_S) {g : Int32 → xm_S → Prop} (C : xm_Cx K cX10_hasFileAt RX10 3 (some (FieldType.boolean)) rm_X10_hasFileAt) (N : xm_Nx K) (hg : ∀ v S, g v S → xm_q K (some (xm_i v)) S)  (h1 : wp_X10_hasFileAt_2 h x1 x2 S g) : xm_W K 0 0 2 [(0, xm_r (some h)), (1, xm_i x1), (2, xm_i x2)] [] S :=
  h1 (fun x1 x2 S => xm_W K 0 0 2 [(0, xm_r (some h)), (1, xm_i x1), (2, xm_i x2)] [] S) (fun x1 x2 S hb => kp_X10_hasFileAt_2B h x1 x2 S C N hg (fun x1 x2 S hz => hz) hb)
def wp_X10_hasFileAt (h : Nat) (x1 : Int32) (S : xm_S) (g : Int32 → xm_S → Prop) : Prop :=
  wp_X10_hasFileAt_2 h x1 (0 : Int32) S g
set_option maxRecDepth 100000 in
set_option maxHeartbeats 4000000 in
theorem kp_X10_hasFileAt {K : xm_K} (h : Nat) (x1 : Int32) (S : xm_S) {g : Int32 → xm_S → Prop} (C : xm_Cx K cX10_hasFileAt RX10 3 (some (FieldType.boolean)) rm_X10_hasFileAt) (N : xm_Nx K) (hg : ∀ v S, g v S → xm_q K (some (xm_i v)) S)  (h1 : wp_X10_hasFileAt h x1 S g) : xm_W K 0 0 0 [(0, xm_r (some h)), (1, xm_i x1)] [] S := by
  unfold wp_X10_hasFileAt at h1
  refine x_iconst (v := (0 : Int32)) C dX10_hasFileAt_0 (by decide) ?_
  refine x_istore_n (L' := [(2, xm_i (0 : Int32)), (0, xm_r (some h)), (1, xm_i x1)]) C dX10_hasFileAt_1 rfl (by decide) rfl ?_
  refine x_keep (L' := [(0, xm_r (some h)), (1, xm_i x1), (2, xm_i (0 : Int32))]) C [1, 2, 0] rfl ?_
  exact kp_X10_hasFileAt_2 h x1 (0 : Int32) S C N hg  h1
theorem kp_X10_hasFileAt_met {h : Nat} {x1 : Int32} {S : xm_S} {g : Int32 → xm_S → Prop}  (h1 : wp_X10_hasFileAt h x1 S g) : xm_Met yX10_hasFileAt cX10_hasFileAt 3 (some (FieldType.boolean)) rm_X10_hasFileAt [xm_r (some h), xm_i x1] S (xm_qi g) xm_nox :=
  xm_ofW RX10 (by decide +kernel) rfl (Nat.le_of_ble_eq_true rfl) (fun K C N hq hx hi => kp_X10_hasFileAt h x1 S C N (fun v S h => by rw [hq]; exact ⟨v, rfl, h⟩)  h1)
def rm_X10_init : Room := { frames := 2, cells := 8, slots := 22, locals := 41 }
theorem dX10_init_0 : decode cX10_init 0 = .ok (.aload_n 0, 1) := by decide +kernel
theorem dX10_init_1 : decode cX10_init 1 = .ok (.invokespecial 3, 3) := by decide +kernel
theorem dX10_init_4 : decode cX10_init 4 = .ok (.aload_n 0, 1) := by decide +kernel
theorem dX10_init_5 : decode cX10_init 5 = .ok (.iconst 0, 1) := by decide +kernel
theorem dX10_init_6 : decode cX10_init 6 = .ok (.putfield 9, 3) := by decide +kernel
theorem dX10_init_9 : decode cX10_init 9 = .ok (.aload_n 0, 1) := by decide +kernel
theorem dX10_init_10 : decode cX10_init 10 = .ok (.iconst 0, 1) := by decide +kernel
theorem dX10_init_11 : decode cX10_init 11 = .ok (.putfield 15, 3) := by decide +kernel
theorem dX10_init_14 : decode cX10_init 14 = .ok (.aload_n 0, 1) := by decide +kernel
theorem dX10_init_15 : decode cX10_init 15 = .ok (.iconst 4, 1) := by decide +kernel
theorem dX10_init_16 : decode cX10_init 16 = .ok (.anewarray 18, 3) := by decide +kernel
theorem dX10_init_19 : decode cX10_init 19 = .ok (.putfield 20, 3) := by decide +kernel
theorem dX10_init_22 : decode cX10_init 22 = .ok (.aload_n 0, 1) := by decide +kernel
theorem dX10_init_23 : decode cX10_init 23 = .ok (.iconst 0, 1) := by decide +kernel
theorem dX10_init_24 : decode cX10_init 24 = .ok (.putfield 24, 3) := by decide +kernel
theorem dX10_init_27 : decode cX10_init 27 = .ok (.aload_n 0, 1) := by decide +kernel
theorem dX10_init_28 : decode cX10_init 28 = .ok (.iconst 2, 1) := by decide +kernel
theorem dX10_init_29 : decode cX10_init 29 = .ok (.anewarray 18, 3) := by decide +kernel
theorem dX10_init_32 : decode cX10_init 32 = .ok (.putfield 28, 3) := by decide +kernel
theorem dX10_init_35 : decode cX10_init 35 = .ok (.aload_n 0, 1) := by decide +kernel
theorem dX10_init_36 : decode cX10_init 36 = .ok (.iconst 0, 1) := by decide +kernel
theorem dX10_init_37 : decode cX10_init 37 = .ok (.putfield 31, 3) := by decide +kernel
theorem dX10_init_40 : decode cX10_init 40 = .ok (.aload_n 0, 1) := by decide +kernel
theorem dX10_init_41 : decode cX10_init 41 = .ok (.iconst 2, 1) := by decide +kernel
theorem dX10_init_42 : decode cX10_init 42 = .ok (.newarray .int, 2) := by decide +kernel
theorem dX10_init_44 : decode cX10_init 44 = .ok (.putfield 34, 3) := by decide +kernel
theorem dX10_init_47 : decode cX10_init 47 = .ok (.aload_n 0, 1) := by decide +kernel
theorem dX10_init_48 : decode cX10_init 48 = .ok (.iconst 2, 1) := by decide +kernel
theorem dX10_init_49 : decode cX10_init 49 = .ok (.newarray .int, 2) := by decide +kernel
theorem dX10_init_51 : decode cX10_init 51 = .ok (.putfield 38, 3) := by decide +kernel
theorem dX10_init_54 : decode cX10_init 54 = .ok (.aload_n 0, 1) := by decide +kernel
theorem dX10_init_55 : decode cX10_init 55 = .ok (.iconst 0, 1) := by decide +kernel
theorem dX10_init_56 : decode cX10_init 56 = .ok (.putfield 41, 3) := by decide +kernel
theorem dX10_init_59 : decode cX10_init 59 = .ok (.aload_n 0, 1) := by decide +kernel
theorem dX10_init_60 : decode cX10_init 60 = .ok (.iconst 3, 1) := by decide +kernel
theorem dX10_init_61 : decode cX10_init 61 = .ok (.newarray .int, 2) := by decide +kernel
theorem dX10_init_63 : decode cX10_init 63 = .ok (.putfield 44, 3) := by decide +kernel
theorem dX10_init_66 : decode cX10_init 66 = .ok (.aload_n 0, 1) := by decide +kernel
theorem dX10_init_67 : decode cX10_init 67 = .ok (.iconst 3, 1) := by decide +kernel
theorem dX10_init_68 : decode cX10_init 68 = .ok (.newarray .int, 2) := by decide +kernel
theorem dX10_init_70 : decode cX10_init 70 = .ok (.putfield 47, 3) := by decide +kernel
theorem dX10_init_73 : decode cX10_init 73 = .ok (.aload_n 0, 1) := by decide +kernel
theorem dX10_init_74 : decode cX10_init 74 = .ok (.iconst 3, 1) := by decide +kernel
theorem dX10_init_75 : decode cX10_init 75 = .ok (.newarray .boolean, 2) := by decide +kernel
theorem dX10_init_77 : decode cX10_init 77 = .ok (.putfield 50, 3) := by decide +kernel
theorem dX10_init_80 : decode cX10_init 80 = .ok (.aload_n 0, 1) := by decide +kernel
theorem dX10_init_81 : decode cX10_init 81 = .ok (.iconst 0, 1) := by decide +kernel
theorem dX10_init_82 : decode cX10_init 82 = .ok (.putfield 54, 3) := by decide +kernel
theorem dX10_init_85 : decode cX10_init 85 = .ok (.aload_n 0, 1) := by decide +kernel
theorem dX10_init_86 : decode cX10_init 86 = .ok (.iconst 3, 1) := by decide +kernel
theorem dX10_init_87 : decode cX10_init 87 = .ok (.newarray .int, 2) := by decide +kernel
theorem dX10_init_89 : decode cX10_init 89 = .ok (.dup, 1) := by decide +kernel
theorem dX10_init_90 : decode cX10_init 90 = .ok (.iconst 0, 1) := by decide +kernel
theorem dX10_init_91 : decode cX10_init 91 = .ok (.iconst (-1), 1) := by decide +kernel
theorem dX10_init_92 : decode cX10_init 92 = .ok (.iastore, 1) := by decide +kernel
theorem dX10_init_93 : decode cX10_init 93 = .ok (.dup, 1) := by decide +kernel
theorem dX10_init_94 : decode cX10_init 94 = .ok (.iconst 1, 1) := by decide +kernel
theorem dX10_init_95 : decode cX10_init 95 = .ok (.iconst (-1), 1) := by decide +kernel
theorem dX10_init_96 : decode cX10_init 96 = .ok (.iastore, 1) := by decide +kernel
theorem dX10_init_97 : decode cX10_init 97 = .ok (.dup, 1) := by decide +kernel
theorem dX10_init_98 : decode cX10_init 98 = .ok (.iconst 2, 1) := by decide +kernel
theorem dX10_init_99 : decode cX10_init 99 = .ok (.iconst (-1), 1) := by decide +kernel
theorem dX10_init_100 : decode cX10_init 100 = .ok (.iastore, 1) := by decide +kernel
theorem dX10_init_101 : decode cX10_init 101 = .ok (.putfield 57, 3) := by decide +kernel
theorem dX10_init_104 : decode cX10_init 104 = .ok (.aload_n 0, 1) := by decide +kernel
theorem dX10_init_105 : decode cX10_init 105 = .ok (.iload_n 1, 1) := by decide +kernel
theorem dX10_init_106 : decode cX10_init 106 = .ok (.invokestatic 60, 3) := by decide +kernel
theorem dX10_init_109 : decode cX10_init 109 = .ok (.putfield 66, 3) := by decide +kernel
theorem dX10_init_112 : decode cX10_init 112 = .ok (.aload_n 0, 1) := by decide +kernel
theorem dX10_init_113 : decode cX10_init 113 = .ok (.iload_n 2, 1) := by decide +kernel
theorem dX10_init_114 : decode cX10_init 114 = .ok (.putfield 69, 3) := by decide +kernel
theorem dX10_init_117 : decode cX10_init 117 = .ok (.aload_n 0, 1) := by decide +kernel
theorem dX10_init_118 : decode cX10_init 118 = .ok (.iload_n 3, 1) := by decide +kernel
theorem dX10_init_119 : decode cX10_init 119 = .ok (.putfield 72, 3) := by decide +kernel
theorem dX10_init_122 : decode cX10_init 122 = .ok (.aload_n 0, 1) := by decide +kernel
theorem dX10_init_123 : decode cX10_init 123 = .ok (.iload 4, 2) := by decide +kernel
theorem dX10_init_125 : decode cX10_init 125 = .ok (.putfield 75, 3) := by decide +kernel
theorem dX10_init_128 : decode cX10_init 128 = .ok (.return_, 1) := by decide +kernel
def wp_X10_init (h : Nat) (x1 : Int32) (x2 : Int32) (x3 : Int32) (x4 : Int32) (S : xm_S) (g : xm_S → Prop) : Prop :=
  st_t S h = some (10, 0) ∧ ∀ S2, S2 = st_pi S h 4 (0 : Int32) → ∀ S4, S4 = st_pi S2 h 5 (0 : Int32) → ∃ n6, st_t S4 n6 = none ∧ ∀ S8, S8 = st_nw S4 n6 (114, 4) → ∀ S10, S10 = st_pr S8 h 6 (some n6) → ∀ S12, S12 = st_pi S10 h 7 (0 : Int32) → ∃ n14, st_t S12 n14 = none ∧ ∀ S16, S16 = st_nw S12 n14 (114, 2) → ∀ S18, S18 = st_pr S16 h 8 (some n14) → ∀ S20, S20 = st_pi S18 h 9 (0 : Int32) → ∃ n22, st_t S20 n22 = none ∧ ∀ S24, S24 = st_nw S20 n22 (100, 2) → ∀ S26, S26 = st_pr S24 h 10 (some n22) → ∃ n28, st_t S26 n28 = none ∧ ∀ S30, S30 = st_nw S26 n28 (100, 2) → ∀ S32, S32 = st_pr S30 h 11 (some n28) → ∀ S34, S34 = st_pi S32 h 12 (0 : Int32) → ∃ n36, st_t S34 n36 = none ∧ ∀ S38, S38 = st_nw S34 n36 (100, 3) → ∀ S40, S40 = st_pr S38 h 13 (some n36) → ∃ n42, st_t S40 n42 = none ∧ ∀ S44, S44 = st_nw S40 n42 (100, 3) → ∀ S46, S46 = st_pr S44 h 14 (some n42) → ∃ n48, st_t S46 n48 = none ∧ ∀ S50, S50 = st_nw S46 n48 (101, 3) → ∀ S52, S52 = st_pr S50 h 15 (some n48) → ∀ S54, S54 = st_pi S52 h 16 (0 : Int32) → ∃ n56, st_t S54 n56 = none ∧ ∀ S58, S58 = st_nw S54 n56 (100, 3) → vp_in (0 : Int32) 3 ∧ ∀ S61, S61 = st_pi S58 n56 ((0 : Int32)).toNatClampNeg (-1 : Int32) → vp_in (1 : Int32) 3 ∧ ∀ S64, S64 = st_pi S61 n56 ((1 : Int32)).toNatClampNeg (-1 : Int32) → vp_in (nI 2) 3 ∧ ∀ S67, S67 = st_pi S64 n56 ((nI 2)).toNatClampNeg (-1 : Int32) → ∀ S69, S69 = st_pr S67 h 17 (some n56) → wp_X9_digitsOf x1 S69 (fun r72 S71 => st_t S71 h = some (10, 0) ∧ ∀ S74, S74 = st_pi S71 h 0 r72 → ∀ S76, S76 = st_pi S74 h 1 x2 → ∀ S78, S78 = st_pi S76 h 2 x3 → ∀ S80, S80 = st_pi S78 h 3 x4 → g S80)
set_option maxRecDepth 100000 in
set_option maxHeartbeats 4000000 in
theorem kp_X10_init {K : xm_K} (h : Nat) (x1 : Int32) (x2 : Int32) (x3 : Int32) (x4 : Int32) (S : xm_S) {g : xm_S → Prop} (C : xm_Cx K cX10_init RX10 5 none rm_X10_init) (N : xm_Nx K) (hini : xm_init K) (hg : ∀ S, g S → xm_q K none S)  (h1 : wp_X10_init h x1 x2 x3 x4 S g) : xm_W K 0 0 0 [(0, xm_r (some h)), (1, xm_i x1), (2, xm_i x2), (3, xm_i x3), (4, xm_i x4)] [] S := by
  unfold wp_X10_init at h1
  refine x_aload_n C 0 dX10_init_0 rfl rfl ?_
  refine x_objInit (n := h) C rfl gw_240 (Nat.le_of_ble_eq_true rfl) (Nat.le_of_ble_eq_true rfl) (Nat.le_of_ble_eq_true rfl) dX10_init_1 gw_1 gw_2 ?_
  refine x_aload_n C 0 dX10_init_4 rfl rfl ?_
  refine x_iconst (v := (0 : Int32)) C dX10_init_5 (by decide) ?_
  obtain ⟨ht1, h1⟩ := h1
  refine x_putf_i (n := h) C rfl ht1 fd_97 xc_10 (by decide) rfl (xm_nz (by decide)) dX10_init_6 ?_
  refine x_topS (fun S2 e3 => ?_)
  have h1 := h1 S2 e3
  refine x_aload_n C 0 dX10_init_9 rfl rfl ?_
  refine x_iconst (v := (0 : Int32)) C dX10_init_10 (by decide) ?_
  refine x_putf_i (n := h) C rfl (tk_p e3 ht1) fd_98 xc_10 (by decide) rfl (xm_nz (by decide)) dX10_init_11 ?_
  refine x_topS (fun S4 e5 => ?_)
  have h1 := h1 S4 e5
  refine x_aload_n C 0 dX10_init_14 rfl rfl ?_
  refine x_iconst (v := (nI 4)) C dX10_init_15 (by decide) ?_
  obtain ⟨n6, hn7, h1⟩ := h1
  refine x_newq (n := n6) (ci := 4) (len := 4) C gw_243 (by decide +kernel) (by decide) rfl (by decide) (by decide) hn7 (Nat.le_of_ble_eq_true rfl) (Nat.le_of_ble_eq_true rfl) dX10_init_16 ?_
  refine x_topS (fun S8 e9 => ?_)
  have h1 := h1 S8 e9
  refine x_putfF_r (n := h) C rfl (tk_n e9 hn7 (tk_p e5 (tk_p e3 ht1))) fd_99 xc_10 (by decide) rfl hini rfl (xm_nr rfl) dX10_init_19 ?_
  refine x_topS (fun S10 e11 => ?_)
  have h1 := h1 S10 e11
  refine x_aload_n C 0 dX10_init_22 rfl rfl ?_
  refine x_iconst (v := (0 : Int32)) C dX10_init_23 (by decide) ?_
  refine x_putf_i (n := h) C rfl (tk_p e11 (tk_n e9 hn7 (tk_p e5 (tk_p e3 ht1)))) fd_100 xc_10 (by decide) rfl ⟨rfl, rfl⟩ dX10_init_24 ?_
  refine x_topS (fun S12 e13 => ?_)
  have h1 := h1 S12 e13
  refine x_aload_n C 0 dX10_init_27 rfl rfl ?_
  refine x_iconst (v := (nI 2)) C dX10_init_28 (by decide) ?_
  obtain ⟨n14, hn15, h1⟩ := h1
  refine x_newq (n := n14) (ci := 4) (len := 2) C gw_243 (by decide +kernel) (by decide) rfl (by decide) (by decide) hn15 (Nat.le_of_ble_eq_true rfl) (Nat.le_of_ble_eq_true rfl) dX10_init_29 ?_
  refine x_topS (fun S16 e17 => ?_)
  have h1 := h1 S16 e17
  refine x_putfF_r (n := h) C rfl (tk_n e17 hn15 (tk_p e13 (tk_p e11 (tk_n e9 hn7 (tk_p e5 (tk_p e3 ht1)))))) fd_101 xc_10 (by decide) rfl hini rfl (xm_nr rfl) dX10_init_32 ?_
  refine x_topS (fun S18 e19 => ?_)
  have h1 := h1 S18 e19
  refine x_aload_n C 0 dX10_init_35 rfl rfl ?_
  refine x_iconst (v := (0 : Int32)) C dX10_init_36 (by decide) ?_
  refine x_putf_i (n := h) C rfl (tk_p e19 (tk_n e17 hn15 (tk_p e13 (tk_p e11 (tk_n e9 hn7 (tk_p e5 (tk_p e3 ht1))))))) fd_102 xc_10 (by decide) rfl ⟨rfl, rfl⟩ dX10_init_37 ?_
  refine x_topS (fun S20 e21 => ?_)
  have h1 := h1 S20 e21
  refine x_aload_n C 0 dX10_init_40 rfl rfl ?_
  refine x_iconst (v := (nI 2)) C dX10_init_41 (by decide) ?_
  obtain ⟨n22, hn23, h1⟩ := h1
  refine x_newa_i (n := n22) (len := 2) C gw_11 (by decide) (by decide) hn23 (Nat.le_of_ble_eq_true rfl) (Nat.le_of_ble_eq_true rfl) dX10_init_42 ?_
  refine x_topS (fun S24 e25 => ?_)
  have h1 := h1 S24 e25
  refine x_putfF_r (n := h) C rfl (tk_n e25 hn23 (tk_p e21 (tk_p e19 (tk_n e17 hn15 (tk_p e13 (tk_p e11 (tk_n e9 hn7 (tk_p e5 (tk_p e3 ht1))))))))) fd_74 xc_10 (by decide) rfl hini rfl (xm_nr rfl) dX10_init_44 ?_
  refine x_topS (fun S26 e27 => ?_)
  have h1 := h1 S26 e27
  refine x_aload_n C 0 dX10_init_47 rfl rfl ?_
  refine x_iconst (v := (nI 2)) C dX10_init_48 (by decide) ?_
  obtain ⟨n28, hn29, h1⟩ := h1
  refine x_newa_i (n := n28) (len := 2) C gw_11 (by decide) (by decide) hn29 (Nat.le_of_ble_eq_true rfl) (Nat.le_of_ble_eq_true rfl) dX10_init_49 ?_
  refine x_topS (fun S30 e31 => ?_)
  have h1 := h1 S30 e31
  refine x_putfF_r (n := h) C rfl (tk_n e31 hn29 (tk_p e27 (tk_n e25 hn23 (tk_p e21 (tk_p e19 (tk_n e17 hn15 (tk_p e13 (tk_p e11 (tk_n e9 hn7 (tk_p e5 (tk_p e3 ht1))))))))))) fd_75 xc_10 (by decide) rfl hini rfl (xm_nr rfl) dX10_init_51 ?_
  refine x_topS (fun S32 e33 => ?_)
  have h1 := h1 S32 e33
  refine x_aload_n C 0 dX10_init_54 rfl rfl ?_
  refine x_iconst (v := (0 : Int32)) C dX10_init_55 (by decide) ?_
  refine x_putf_i (n := h) C rfl (tk_p e33 (tk_n e31 hn29 (tk_p e27 (tk_n e25 hn23 (tk_p e21 (tk_p e19 (tk_n e17 hn15 (tk_p e13 (tk_p e11 (tk_n e9 hn7 (tk_p e5 (tk_p e3 ht1)))))))))))) fd_73 xc_10 (by decide) rfl ⟨rfl, rfl⟩ dX10_init_56 ?_
  refine x_topS (fun S34 e35 => ?_)
  have h1 := h1 S34 e35
  refine x_aload_n C 0 dX10_init_59 rfl rfl ?_
  refine x_iconst (v := (nI 3)) C dX10_init_60 (by decide) ?_
  obtain ⟨n36, hn37, h1⟩ := h1
  refine x_newa_i (n := n36) (len := 3) C gw_11 (by decide) (by decide) hn37 (Nat.le_of_ble_eq_true rfl) (Nat.le_of_ble_eq_true rfl) dX10_init_61 ?_
  refine x_topS (fun S38 e39 => ?_)
  have h1 := h1 S38 e39
  refine x_putfF_r (n := h) C rfl (tk_n e39 hn37 (tk_p e35 (tk_p e33 (tk_n e31 hn29 (tk_p e27 (tk_n e25 hn23 (tk_p e21 (tk_p e19 (tk_n e17 hn15 (tk_p e13 (tk_p e11 (tk_n e9 hn7 (tk_p e5 (tk_p e3 ht1)))))))))))))) fd_92 xc_10 (by decide) rfl hini rfl (xm_nr rfl) dX10_init_63 ?_
  refine x_topS (fun S40 e41 => ?_)
  have h1 := h1 S40 e41
  refine x_aload_n C 0 dX10_init_66 rfl rfl ?_
  refine x_iconst (v := (nI 3)) C dX10_init_67 (by decide) ?_
  obtain ⟨n42, hn43, h1⟩ := h1
  refine x_newa_i (n := n42) (len := 3) C gw_11 (by decide) (by decide) hn43 (Nat.le_of_ble_eq_true rfl) (Nat.le_of_ble_eq_true rfl) dX10_init_68 ?_
  refine x_topS (fun S44 e45 => ?_)
  have h1 := h1 S44 e45
  refine x_putfF_r (n := h) C rfl (tk_n e45 hn43 (tk_p e41 (tk_n e39 hn37 (tk_p e35 (tk_p e33 (tk_n e31 hn29 (tk_p e27 (tk_n e25 hn23 (tk_p e21 (tk_p e19 (tk_n e17 hn15 (tk_p e13 (tk_p e11 (tk_n e9 hn7 (tk_p e5 (tk_p e3 ht1)))))))))))))))) fd_93 xc_10 (by decide) rfl hini rfl (xm_nr rfl) dX10_init_70 ?_
  refine x_topS (fun S46 e47 => ?_)
  have h1 := h1 S46 e47
  refine x_aload_n C 0 dX10_init_73 rfl rfl ?_
  refine x_iconst (v := (nI 3)) C dX10_init_74 (by decide) ?_
  obtain ⟨n48, hn49, h1⟩ := h1
  refine x_newa_z (n := n48) (len := 3) C gw_248 (by decide) (by decide) hn49 (Nat.le_of_ble_eq_true rfl) (Nat.le_of_ble_eq_true rfl) dX10_init_75 ?_
  refine x_topS (fun S50 e51 => ?_)
  have h1 := h1 S50 e51
  refine x_putfF_r (n := h) C rfl (tk_n e51 hn49 (tk_p e47 (tk_n e45 hn43 (tk_p e41 (tk_n e39 hn37 (tk_p e35 (tk_p e33 (tk_n e31 hn29 (tk_p e27 (tk_n e25 hn23 (tk_p e21 (tk_p e19 (tk_n e17 hn15 (tk_p e13 (tk_p e11 (tk_n e9 hn7 (tk_p e5 (tk_p e3 ht1)))))))))))))))))) fd_94 xc_10 (by decide) rfl hini rfl (xm_nr rfl) dX10_init_77 ?_
  refine x_topS (fun S52 e53 => ?_)
  have h1 := h1 S52 e53
  refine x_aload_n C 0 dX10_init_80 rfl rfl ?_
  refine x_iconst (v := (0 : Int32)) C dX10_init_81 (by decide) ?_
  refine x_putf_i (n := h) C rfl (tk_p e53 (tk_n e51 hn49 (tk_p e47 (tk_n e45 hn43 (tk_p e41 (tk_n e39 hn37 (tk_p e35 (tk_p e33 (tk_n e31 hn29 (tk_p e27 (tk_n e25 hn23 (tk_p e21 (tk_p e19 (tk_n e17 hn15 (tk_p e13 (tk_p e11 (tk_n e9 hn7 (tk_p e5 (tk_p e3 ht1))))))))))))))))))) fd_91 xc_10 (by decide) rfl ⟨rfl, rfl⟩ dX10_init_82 ?_
  refine x_topS (fun S54 e55 => ?_)
  have h1 := h1 S54 e55
  refine x_aload_n C 0 dX10_init_85 rfl rfl ?_
  refine x_iconst (v := (nI 3)) C dX10_init_86 (by decide) ?_
  obtain ⟨n56, hn57, h1⟩ := h1
  refine x_newa_i (n := n56) (len := 3) C gw_11 (by decide) (by decide) hn57 (Nat.le_of_ble_eq_true rfl) (Nat.le_of_ble_eq_true rfl) dX10_init_87 ?_
  refine x_topS (fun S58 e59 => ?_)
  have h1 := h1 S58 e59
  refine x_dup_r C dX10_init_89 ?_
  refine x_iconst (v := (0 : Int32)) C dX10_init_90 (by decide) ?_
  refine x_iconst (v := (-1 : Int32)) C dX10_init_91 (by decide) ?_
  obtain ⟨hi60, h1⟩ := h1
  refine x_iast (n := n56) C rfl (tk_nn e59) hi60 dX10_init_92 ?_
  refine x_topS (fun S61 e62 => ?_)
  have h1 := h1 S61 e62
  refine x_dup_r C dX10_init_93 ?_
  refine x_iconst (v := (1 : Int32)) C dX10_init_94 (by decide) ?_
  refine x_iconst (v := (-1 : Int32)) C dX10_init_95 (by decide) ?_
  obtain ⟨hi63, h1⟩ := h1
  refine x_iast (n := n56) C rfl (tk_p e62 (tk_nn e59)) hi63 dX10_init_96 ?_
  refine x_topS (fun S64 e65 => ?_)
  have h1 := h1 S64 e65
  refine x_dup_r C dX10_init_97 ?_
  refine x_iconst (v := (nI 2)) C dX10_init_98 (by decide) ?_
  refine x_iconst (v := (-1 : Int32)) C dX10_init_99 (by decide) ?_
  obtain ⟨hi66, h1⟩ := h1
  refine x_iast (n := n56) C rfl (tk_p e65 (tk_p e62 (tk_nn e59))) hi66 dX10_init_100 ?_
  refine x_topS (fun S67 e68 => ?_)
  have h1 := h1 S67 e68
  refine x_putfF_r (n := h) C rfl (tk_p e68 (tk_p e65 (tk_p e62 (tk_n e59 hn57 (tk_p e55 (tk_p e53 (tk_n e51 hn49 (tk_p e47 (tk_n e45 hn43 (tk_p e41 (tk_n e39 hn37 (tk_p e35 (tk_p e33 (tk_n e31 hn29 (tk_p e27 (tk_n e25 hn23 (tk_p e21 (tk_p e19 (tk_n e17 hn15 (tk_p e13 (tk_p e11 (tk_n e9 hn7 (tk_p e5 (tk_p e3 ht1)))))))))))))))))))))))) fd_95 xc_10 (by decide) rfl hini rfl (xm_nr rfl) dX10_init_101 ?_
  refine x_topS (fun S69 e70 => ?_)
  have h1 := h1 S69 e70
  refine x_aload_n C 0 dX10_init_104 rfl rfl ?_
  refine x_iload_n C 1 dX10_init_105 rfl rfl ?_
  refine x_callS (rm' := rm_X9_digitsOf) C (kp_X9_digitsOf_met h1) lk_33 gw_220 rfl (Nat.le_of_ble_eq_true rfl) ⟨Nat.le_of_ble_eq_true rfl, Nat.le_of_ble_eq_true rfl, (Nat.le_of_ble_eq_true rfl), (Nat.le_of_ble_eq_true rfl)⟩ dX10_init_106 xm_kx (xm_ki (fun r72 S71 h1 => ?_))
  obtain ⟨ht73, h1⟩ := h1
  refine x_putfF_i (n := h) C rfl ht73 fd_103 xc_10 (by decide) rfl hini rfl ⟨rfl, rfl⟩ dX10_init_109 ?_
  refine x_topS (fun S74 e75 => ?_)
  have h1 := h1 S74 e75
  refine x_aload_n C 0 dX10_init_112 rfl rfl ?_
  refine x_iload_n C 2 dX10_init_113 rfl rfl ?_
  refine x_putfF_i (n := h) C rfl (tk_p e75 ht73) fd_104 xc_10 (by decide) rfl hini rfl ⟨rfl, rfl⟩ dX10_init_114 ?_
  refine x_topS (fun S76 e77 => ?_)
  have h1 := h1 S76 e77
  refine x_aload_n C 0 dX10_init_117 rfl rfl ?_
  refine x_iload_n C 3 dX10_init_118 rfl rfl ?_
  refine x_putfF_i (n := h) C rfl (tk_p e77 (tk_p e75 ht73)) fd_105 xc_10 (by decide) rfl hini rfl ⟨rfl, rfl⟩ dX10_init_119 ?_
  refine x_topS (fun S78 e79 => ?_)
  have h1 := h1 S78 e79
  refine x_aload_n C 0 dX10_init_122 rfl rfl ?_
  refine x_iload C 4 dX10_init_123 rfl ?_
  refine x_putfF_i (n := h) C rfl (tk_p e79 (tk_p e77 (tk_p e75 ht73))) fd_96 xc_10 (by decide) rfl hini rfl ⟨rfl, rfl⟩ dX10_init_125 ?_
  refine x_topS (fun S80 e81 => ?_)
  have h1 := h1 S80 e81
  exact x_vret C (Nat.le_of_ble_eq_true rfl) (Nat.le_of_ble_eq_true rfl) rfl dX10_init_128 (hg _ h1)
theorem kp_X10_init_met {h : Nat} {x1 : Int32} {x2 : Int32} {x3 : Int32} {x4 : Int32} {S : xm_S} {g : xm_S → Prop}  (h1 : wp_X10_init h x1 x2 x3 x4 S g) : xm_Met yX10_init cX10_init 5 none rm_X10_init [xm_r (some h), xm_i x1, xm_i x2, xm_i x3, xm_i x4] S (xm_qv g) xm_nox :=
  xm_ofW RX10 (by decide +kernel) rfl (Nat.le_of_ble_eq_true rfl) (fun K C N hq hx hi => kp_X10_init h x1 x2 x3 x4 S C N (hi rfl) (fun S h => by rw [hq]; exact ⟨rfl, h⟩)  h1)
def rm_X11_checkPack : Room := { frames := 6, cells := 1, slots := 6, locals := 100 }
theorem dX11_checkPack_0 : decode cX11_checkPack 0 = .ok (.iload_n 0, 1) := by decide +kernel
theorem dX11_checkPack_1 : decode cX11_checkPack 1 = .ok (.ifCond .lt 9, 3) := by decide +kernel
theorem dX11_checkPack_4 : decode cX11_checkPack 4 = .ok (.iload_n 0, 1) := by decide +kernel
theorem dX11_checkPack_5 : decode cX11_checkPack 5 = .ok (.bipush 6, 2) := by decide +kernel
theorem dX11_checkPack_7 : decode cX11_checkPack 7 = .ok (.if_icmp .lt 14, 3) := by decide +kernel
theorem dX11_checkPack_10 : decode cX11_checkPack 10 = .ok (.new 349, 3) := by decide +kernel
theorem dX11_checkPack_13 : decode cX11_checkPack 13 = .ok (.dup, 1) := by decide +kernel
theorem dX11_checkPack_14 : decode cX11_checkPack 14 = .ok (.ldc_w 351, 3) := by decide +kernel
theorem dX11_checkPack_17 : decode cX11_checkPack 17 = .ok (.invokespecial 353, 3) := by decide +kernel
theorem dX11_checkPack_20 : decode cX11_checkPack 20 = .ok (.athrow, 1) := by decide +kernel
theorem dX11_checkPack_21 : decode cX11_checkPack 21 = .ok (.return_, 1) := by decide +kernel
def wp_X11_checkPack_10  (S : xm_S) (g : xm_S → Prop) (Ex : String → xm_S → Prop) : Prop :=
  Ex xm_eI S
set_option maxRecDepth 100000 in
set_option maxHeartbeats 4000000 in
theorem kp_X11_checkPack_10 {K : xm_K}  (S : xm_S) {g : xm_S → Prop} {Ex : String → xm_S → Prop} (C : xm_Cx K cX11_checkPack RX11 1 none rm_X11_checkPack) (N : xm_Nx K) (hg : ∀ S, g S → xm_q K none S) (hEx : ∀ X S, Ex X S → xm_x K X S)  (h1 : wp_X11_checkPack_10  S g Ex) : xm_W K 0 0 10 [] [] S := by
  unfold wp_X11_checkPack_10 at h1
  exact x_throw (text := "no such package") C N th_I_in th_I_fit gw_253 gw_254 (by decide +kernel) th_I_at th_I_no th_I_ot (Nat.le_of_ble_eq_true rfl) ⟨Nat.le_of_ble_eq_true rfl, Nat.le_of_ble_eq_true rfl, (Nat.le_of_ble_eq_true rfl), (Nat.le_of_ble_eq_true rfl)⟩ dX11_checkPack_10 dX11_checkPack_13 (Or.inr ⟨dX11_checkPack_14, dX11_checkPack_17, dX11_checkPack_20⟩) (hEx _ _ h1)
def wp_X11_checkPack (x0 : Int32) (S : xm_S) (g : xm_S → Prop) (Ex : String → xm_S → Prop) : Prop :=
  (x0 < 0 → wp_X11_checkPack_10 S g Ex) ∧ (¬ x0 < 0 → (x0 < (nI 6) → g S) ∧ (¬ x0 < (nI 6) → wp_X11_checkPack_10 S g Ex))
set_option maxRecDepth 100000 in
set_option maxHeartbeats 4000000 in
theorem kp_X11_checkPack {K : xm_K} (x0 : Int32) (S : xm_S) {g : xm_S → Prop} {Ex : String → xm_S → Prop} (C : xm_Cx K cX11_checkPack RX11 1 none rm_X11_checkPack) (N : xm_Nx K) (hg : ∀ S, g S → xm_q K none S) (hEx : ∀ X S, Ex X S → xm_x K X S)  (h1 : wp_X11_checkPack x0 S g Ex) : xm_W K 0 0 0 [(0, xm_i x0)] [] S := by
  unfold wp_X11_checkPack at h1
  refine x_iload_n C 0 dX11_checkPack_0 rfl rfl ?_
  refine x_if_lt (tgt := 10) C dX11_checkPack_1 (by decide) (fun z9 => ?_) (fun z9 => ?_)
  · have h1 := h1.1 z9
    refine x_keep (L' := []) C [] rfl ?_
    exact kp_X11_checkPack_10 S C N hg hEx  h1
  · have h1 := h1.2 z9
    refine x_iload_n C 0 dX11_checkPack_4 rfl rfl ?_
    refine x_bipush (v := (nI 6)) C dX11_checkPack_5 (by decide) ?_
    refine x_icmp_lt (tgt := 21) C dX11_checkPack_7 (by decide) (fun z9 => ?_) (fun z9 => ?_)
    · have h1 := h1.1 z9
      exact x_vret C (Nat.le_of_ble_eq_true rfl) (Nat.le_of_ble_eq_true rfl) rfl dX11_checkPack_21 (hg _ h1)
    · have h1 := h1.2 z9
      refine x_keep (L' := []) C [] rfl ?_
      exact kp_X11_checkPack_10 S C N hg hEx  h1
theorem kp_X11_checkPack_met {x0 : Int32} {S : xm_S} {g : xm_S → Prop} {Ex : String → xm_S → Prop}  (h1 : wp_X11_checkPack x0 S g Ex) : xm_Met yX11_checkPack cX11_checkPack 1 none rm_X11_checkPack [xm_i x0] S (xm_qv g) Ex :=
  xm_ofW RX11 (by decide +kernel) rfl (Nat.le_of_ble_eq_true rfl) (fun K C N hq hx hi => kp_X11_checkPack x0 S C N (fun S h => by rw [hq]; exact ⟨rfl, h⟩) (fun X S h => by rw [hx]; exact h)  h1)
def rm_X11_checkRange : Room := { frames := 6, cells := 1, slots := 6, locals := 100 }
theorem dX11_checkRange_0 : decode cX11_checkRange 0 = .ok (.iload_n 0, 1) := by decide +kernel
theorem dX11_checkRange_1 : decode cX11_checkRange 1 = .ok (.iload_n 1, 1) := by decide +kernel
theorem dX11_checkRange_2 : decode cX11_checkRange 2 = .ok (.if_icmp .lt 8, 3) := by decide +kernel
theorem dX11_checkRange_5 : decode cX11_checkRange 5 = .ok (.iload_n 0, 1) := by decide +kernel
theorem dX11_checkRange_6 : decode cX11_checkRange 6 = .ok (.iload_n 2, 1) := by decide +kernel
theorem dX11_checkRange_7 : decode cX11_checkRange 7 = .ok (.if_icmp .le 14, 3) := by decide +kernel
theorem dX11_checkRange_10 : decode cX11_checkRange 10 = .ok (.new 90, 3) := by decide +kernel
theorem dX11_checkRange_13 : decode cX11_checkRange 13 = .ok (.dup, 1) := by decide +kernel
theorem dX11_checkRange_14 : decode cX11_checkRange 14 = .ok (.ldc_w 360, 3) := by decide +kernel
theorem dX11_checkRange_17 : decode cX11_checkRange 17 = .ok (.invokespecial 94, 3) := by decide +kernel
theorem dX11_checkRange_20 : decode cX11_checkRange 20 = .ok (.athrow, 1) := by decide +kernel
theorem dX11_checkRange_21 : decode cX11_checkRange 21 = .ok (.return_, 1) := by decide +kernel
def wp_X11_checkRange_10  (S : xm_S) (g : xm_S → Prop) (Ex : String → xm_S → Prop) : Prop :=
  Ex xm_eA S
set_option maxRecDepth 100000 in
set_option maxHeartbeats 4000000 in
theorem kp_X11_checkRange_10 {K : xm_K}  (S : xm_S) {g : xm_S → Prop} {Ex : String → xm_S → Prop} (C : xm_Cx K cX11_checkRange RX11 3 none rm_X11_checkRange) (N : xm_Nx K) (hg : ∀ S, g S → xm_q K none S) (hEx : ∀ X S, Ex X S → xm_x K X S)  (h1 : wp_X11_checkRange_10  S g Ex) : xm_W K 0 0 10 [] [] S := by
  unfold wp_X11_checkRange_10 at h1
  exact x_throw (text := "an argument is out of range") C N th_A_in th_A_fit gw_255 gw_256 (by decide +kernel) th_A_at th_A_no th_A_ot (Nat.le_of_ble_eq_true rfl) ⟨Nat.le_of_ble_eq_true rfl, Nat.le_of_ble_eq_true rfl, (Nat.le_of_ble_eq_true rfl), (Nat.le_of_ble_eq_true rfl)⟩ dX11_checkRange_10 dX11_checkRange_13 (Or.inr ⟨dX11_checkRange_14, dX11_checkRange_17, dX11_checkRange_20⟩) (hEx _ _ h1)
def wp_X11_checkRange (x0 : Int32) (x1 : Int32) (x2 : Int32) (S : xm_S) (g : xm_S → Prop) (Ex : String → xm_S → Prop) : Prop :=
  (x0 < x1 → wp_X11_checkRange_10 S g Ex) ∧ (¬ x0 < x1 → (x0 ≤ x2 → g S) ∧ (¬ x0 ≤ x2 → wp_X11_checkRange_10 S g Ex))
set_option maxRecDepth 100000 in
set_option maxHeartbeats 4000000 in
theorem kp_X11_checkRange {K : xm_K} (x0 : Int32) (x1 : Int32) (x2 : Int32) (S : xm_S) {g : xm_S → Prop} {Ex : String → xm_S → Prop} (C : xm_Cx K cX11_checkRange RX11 3 none rm_X11_checkRange) (N : xm_Nx K) (hg : ∀ S, g S → xm_q K none S) (hEx : ∀ X S, Ex X S → xm_x K X S)  (h1 : wp_X11_checkRange x0 x1 x2 S g Ex) : xm_W K 0 0 0 [(0, xm_i x0), (1, xm_i x1), (2, xm_i x2)] [] S := by
  unfold wp_X11_checkRange at h1
  refine x_iload_n C 0 dX11_checkRange_0 rfl rfl ?_
  refine x_iload_n C 1 dX11_checkRange_1 rfl rfl ?_
  refine x_icmp_lt (tgt := 10) C dX11_checkRange_2 (by decide) (fun z9 => ?_) (fun z9 => ?_)
  · have h1 := h1.1 z9
    refine x_keep (L' := []) C [] rfl ?_
    exact kp_X11_checkRange_10 S C N hg hEx  h1
  · have h1 := h1.2 z9
    refine x_iload_n C 0 dX11_checkRange_5 rfl rfl ?_
    refine x_iload_n C 2 dX11_checkRange_6 rfl rfl ?_
    refine x_icmp_le (tgt := 21) C dX11_checkRange_7 (by decide) (fun z9 => ?_) (fun z9 => ?_)
    · have h1 := h1.1 z9
      exact x_vret C (Nat.le_of_ble_eq_true rfl) (Nat.le_of_ble_eq_true rfl) rfl dX11_checkRange_21 (hg _ h1)
    · have h1 := h1.2 z9
      refine x_keep (L' := []) C [] rfl ?_
      exact kp_X11_checkRange_10 S C N hg hEx  h1
theorem kp_X11_checkRange_met {x0 : Int32} {x1 : Int32} {x2 : Int32} {S : xm_S} {g : xm_S → Prop} {Ex : String → xm_S → Prop}  (h1 : wp_X11_checkRange x0 x1 x2 S g Ex) : xm_Met yX11_checkRange cX11_checkRange 3 none rm_X11_checkRange [xm_i x0, xm_i x1, xm_i x2] S (xm_qv g) Ex :=
  xm_ofW RX11 (by decide +kernel) rfl (Nat.le_of_ble_eq_true rfl) (fun K C N hq hx hi => kp_X11_checkRange x0 x1 x2 S C N (fun S h => by rw [hq]; exact ⟨rfl, h⟩) (fun X S h => by rw [hx]; exact h)  h1)
def rm_X11_checkRoom : Room := { frames := 6, cells := 1, slots := 6, locals := 100 }
theorem dX11_checkRoom_0 : decode cX11_checkRoom 0 = .ok (.iload_n 0, 1) := by decide +kernel
theorem dX11_checkRoom_1 : decode cX11_checkRoom 1 = .ok (.iload_n 1, 1) := by decide +kernel
theorem dX11_checkRoom_2 : decode cX11_checkRoom 2 = .ok (.if_icmp .lt 14, 3) := by decide +kernel
theorem dX11_checkRoom_5 : decode cX11_checkRoom 5 = .ok (.new 106, 3) := by decide +kernel
theorem dX11_checkRoom_8 : decode cX11_checkRoom 8 = .ok (.dup, 1) := by decide +kernel
theorem dX11_checkRoom_9 : decode cX11_checkRoom 9 = .ok (.ldc_w 366, 3) := by decide +kernel
theorem dX11_checkRoom_12 : decode cX11_checkRoom 12 = .ok (.invokespecial 110, 3) := by decide +kernel
theorem dX11_checkRoom_15 : decode cX11_checkRoom 15 = .ok (.athrow, 1) := by decide +kernel
theorem dX11_checkRoom_16 : decode cX11_checkRoom 16 = .ok (.return_, 1) := by decide +kernel
def wp_X11_checkRoom (x0 : Int32) (x1 : Int32) (S : xm_S) (g : xm_S → Prop) (Ex : String → xm_S → Prop) : Prop :=
  (x0 < x1 → g S) ∧ (¬ x0 < x1 → Ex xm_eS S)
set_option maxRecDepth 100000 in
set_option maxHeartbeats 4000000 in
theorem kp_X11_checkRoom {K : xm_K} (x0 : Int32) (x1 : Int32) (S : xm_S) {g : xm_S → Prop} {Ex : String → xm_S → Prop} (C : xm_Cx K cX11_checkRoom RX11 2 none rm_X11_checkRoom) (N : xm_Nx K) (hg : ∀ S, g S → xm_q K none S) (hEx : ∀ X S, Ex X S → xm_x K X S)  (h1 : wp_X11_checkRoom x0 x1 S g Ex) : xm_W K 0 0 0 [(0, xm_i x0), (1, xm_i x1)] [] S := by
  unfold wp_X11_checkRoom at h1
  refine x_iload_n C 0 dX11_checkRoom_0 rfl rfl ?_
  refine x_iload_n C 1 dX11_checkRoom_1 rfl rfl ?_
  refine x_icmp_lt (tgt := 16) C dX11_checkRoom_2 (by decide) (fun z9 => ?_) (fun z9 => ?_)
  · have h1 := h1.1 z9
    exact x_vret C (Nat.le_of_ble_eq_true rfl) (Nat.le_of_ble_eq_true rfl) rfl dX11_checkRoom_16 (hg _ h1)
  · have h1 := h1.2 z9
    exact x_throw (text := "there is no room for one more") C N th_S_in th_S_fit gw_257 gw_258 (by decide +kernel) th_S_at th_S_no th_S_ot (Nat.le_of_ble_eq_true rfl) ⟨Nat.le_of_ble_eq_true rfl, Nat.le_of_ble_eq_true rfl, (Nat.le_of_ble_eq_true rfl), (Nat.le_of_ble_eq_true rfl)⟩ dX11_checkRoom_5 dX11_checkRoom_8 (Or.inr ⟨dX11_checkRoom_9, dX11_checkRoom_12, dX11_checkRoom_15⟩) (hEx _ _ h1)
theorem kp_X11_checkRoom_met {x0 : Int32} {x1 : Int32} {S : xm_S} {g : xm_S → Prop} {Ex : String → xm_S → Prop}  (h1 : wp_X11_checkRoom x0 x1 S g Ex) : xm_Met yX11_checkRoom cX11_checkRoom 2 none rm_X11_checkRoom [xm_i x0, xm_i x1] S (xm_qv g) Ex :=
  xm_ofW RX11 (by decide +kernel) rfl (Nat.le_of_ble_eq_true rfl) (fun K C N hq hx hi => kp_X11_checkRoom x0 x1 S C N (fun S h => by rw [hq]; exact ⟨rfl, h⟩) (fun X S h => by rw [hx]; exact h)  h1)
def rm_X11_checkPlatform : Room := { frames := 6, cells := 1, slots := 6, locals := 100 }
theorem dX11_checkPlatform_0 : decode cX11_checkPlatform 0 = .ok (.iload_n 0, 1) := by decide +kernel
theorem dX11_checkPlatform_1 : decode cX11_checkPlatform 1 = .ok (.ifCond .lt 8, 3) := by decide +kernel
theorem dX11_checkPlatform_4 : decode cX11_checkPlatform 4 = .ok (.iload_n 0, 1) := by decide +kernel
theorem dX11_checkPlatform_5 : decode cX11_checkPlatform 5 = .ok (.iconst 3, 1) := by decide +kernel
theorem dX11_checkPlatform_6 : decode cX11_checkPlatform 6 = .ok (.if_icmp .lt 14, 3) := by decide +kernel
theorem dX11_checkPlatform_9 : decode cX11_checkPlatform 9 = .ok (.new 349, 3) := by decide +kernel
theorem dX11_checkPlatform_12 : decode cX11_checkPlatform 12 = .ok (.dup, 1) := by decide +kernel
theorem dX11_checkPlatform_13 : decode cX11_checkPlatform 13 = .ok (.ldc_w 356, 3) := by decide +kernel
theorem dX11_checkPlatform_16 : decode cX11_checkPlatform 16 = .ok (.invokespecial 353, 3) := by decide +kernel
theorem dX11_checkPlatform_19 : decode cX11_checkPlatform 19 = .ok (.athrow, 1) := by decide +kernel
theorem dX11_checkPlatform_20 : decode cX11_checkPlatform 20 = .ok (.return_, 1) := by decide +kernel
def wp_X11_checkPlatform_9  (S : xm_S) (g : xm_S → Prop) (Ex : String → xm_S → Prop) : Prop :=
  Ex xm_eI S
set_option maxRecDepth 100000 in
set_option maxHeartbeats 4000000 in
theorem kp_X11_checkPlatform_9 {K : xm_K}  (S : xm_S) {g : xm_S → Prop} {Ex : String → xm_S → Prop} (C : xm_Cx K cX11_checkPlatform RX11 1 none rm_X11_checkPlatform) (N : xm_Nx K) (hg : ∀ S, g S → xm_q K none S) (hEx : ∀ X S, Ex X S → xm_x K X S)  (h1 : wp_X11_checkPlatform_9  S g Ex) : xm_W K 0 0 9 [] [] S := by
  unfold wp_X11_checkPlatform_9 at h1
  exact x_throw (text := "no such platform") C N th_I_in th_I_fit gw_253 gw_254 (by decide +kernel) th_I_at th_I_no th_I_ot (Nat.le_of_ble_eq_true rfl) ⟨Nat.le_of_ble_eq_true rfl, Nat.le_of_ble_eq_true rfl, (Nat.le_of_ble_eq_true rfl), (Nat.le_of_ble_eq_true rfl)⟩ dX11_checkPlatform_9 dX11_checkPlatform_12 (Or.inr ⟨dX11_checkPlatform_13, dX11_checkPlatform_16, dX11_checkPlatform_19⟩) (hEx _ _ h1)
def wp_X11_checkPlatform (x0 : Int32) (S : xm_S) (g : xm_S → Prop) (Ex : String → xm_S → Prop) : Prop :=
  (x0 < 0 → wp_X11_checkPlatform_9 S g Ex) ∧ (¬ x0 < 0 → (x0 < (nI 3) → g S) ∧ (¬ x0 < (nI 3) → wp_X11_checkPlatform_9 S g Ex))
set_option maxRecDepth 100000 in
set_option maxHeartbeats 4000000 in
theorem kp_X11_checkPlatform {K : xm_K} (x0 : Int32) (S : xm_S) {g : xm_S → Prop} {Ex : String → xm_S → Prop} (C : xm_Cx K cX11_checkPlatform RX11 1 none rm_X11_checkPlatform) (N : xm_Nx K) (hg : ∀ S, g S → xm_q K none S) (hEx : ∀ X S, Ex X S → xm_x K X S)  (h1 : wp_X11_checkPlatform x0 S g Ex) : xm_W K 0 0 0 [(0, xm_i x0)] [] S := by
  unfold wp_X11_checkPlatform at h1
  refine x_iload_n C 0 dX11_checkPlatform_0 rfl rfl ?_
  refine x_if_lt (tgt := 9) C dX11_checkPlatform_1 (by decide) (fun z9 => ?_) (fun z9 => ?_)
  · have h1 := h1.1 z9
    refine x_keep (L' := []) C [] rfl ?_
    exact kp_X11_checkPlatform_9 S C N hg hEx  h1
  · have h1 := h1.2 z9
    refine x_iload_n C 0 dX11_checkPlatform_4 rfl rfl ?_
    refine x_iconst (v := (nI 3)) C dX11_checkPlatform_5 (by decide) ?_
    refine x_icmp_lt (tgt := 20) C dX11_checkPlatform_6 (by decide) (fun z9 => ?_) (fun z9 => ?_)
    · have h1 := h1.1 z9
      exact x_vret C (Nat.le_of_ble_eq_true rfl) (Nat.le_of_ble_eq_true rfl) rfl dX11_checkPlatform_20 (hg _ h1)
    · have h1 := h1.2 z9
      refine x_keep (L' := []) C [] rfl ?_
      exact kp_X11_checkPlatform_9 S C N hg hEx  h1
theorem kp_X11_checkPlatform_met {x0 : Int32} {S : xm_S} {g : xm_S → Prop} {Ex : String → xm_S → Prop}  (h1 : wp_X11_checkPlatform x0 S g Ex) : xm_Met yX11_checkPlatform cX11_checkPlatform 1 none rm_X11_checkPlatform [xm_i x0] S (xm_qv g) Ex :=
  xm_ofW RX11 (by decide +kernel) rfl (Nat.le_of_ble_eq_true rfl) (fun K C N hq hx hi => kp_X11_checkPlatform x0 S C N (fun S h => by rw [hq]; exact ⟨rfl, h⟩) (fun X S h => by rw [hx]; exact h)  h1)
def rm_X11_isIncluded : Room := { frames := 3, cells := 0, slots := 0, locals := 69 }
theorem dX11_isIncluded_0 : decode cX11_isIncluded 0 = .ok (.iload_n 3, 1) := by decide +kernel
theorem dX11_isIncluded_1 : decode cX11_isIncluded 1 = .ok (.iconst (-1), 1) := by decide +kernel
theorem dX11_isIncluded_2 : decode cX11_isIncluded 2 = .ok (.if_icmp .eq 37, 3) := by decide +kernel
theorem dX11_isIncluded_5 : decode cX11_isIncluded 5 = .ok (.aload_n 1, 1) := by decide +kernel
theorem dX11_isIncluded_6 : decode cX11_isIncluded 6 = .ok (.aload_n 0, 1) := by decide +kernel
theorem dX11_isIncluded_7 : decode cX11_isIncluded 7 = .ok (.getfield 18, 3) := by decide +kernel
theorem dX11_isIncluded_10 : decode cX11_isIncluded 10 = .ok (.iload_n 2, 1) := by decide +kernel
theorem dX11_isIncluded_11 : decode cX11_isIncluded 11 = .ok (.aaload, 1) := by decide +kernel
theorem dX11_isIncluded_12 : decode cX11_isIncluded 12 = .ok (.getfield 143, 3) := by decide +kernel
theorem dX11_isIncluded_15 : decode cX11_isIncluded 15 = .ok (.iload_n 3, 1) := by decide +kernel
theorem dX11_isIncluded_16 : decode cX11_isIncluded 16 = .ok (.aaload, 1) := by decide +kernel
theorem dX11_isIncluded_17 : decode cX11_isIncluded 17 = .ok (.getfield 203, 3) := by decide +kernel
theorem dX11_isIncluded_20 : decode cX11_isIncluded 20 = .ok (.aload_n 0, 1) := by decide +kernel
theorem dX11_isIncluded_21 : decode cX11_isIncluded 21 = .ok (.getfield 18, 3) := by decide +kernel
theorem dX11_isIncluded_24 : decode cX11_isIncluded 24 = .ok (.iload_n 2, 1) := by decide +kernel
theorem dX11_isIncluded_25 : decode cX11_isIncluded 25 = .ok (.aaload, 1) := by decide +kernel
theorem dX11_isIncluded_26 : decode cX11_isIncluded 26 = .ok (.getfield 128, 3) := by decide +kernel
theorem dX11_isIncluded_29 : decode cX11_isIncluded 29 = .ok (.invokevirtual 206, 3) := by decide +kernel
theorem dX11_isIncluded_32 : decode cX11_isIncluded 32 = .ok (.ifCond .eq 7, 3) := by decide +kernel
theorem dX11_isIncluded_35 : decode cX11_isIncluded 35 = .ok (.iconst 1, 1) := by decide +kernel
theorem dX11_isIncluded_36 : decode cX11_isIncluded 36 = .ok (.goto 4, 3) := by decide +kernel
theorem dX11_isIncluded_39 : decode cX11_isIncluded 39 = .ok (.iconst 0, 1) := by decide +kernel
theorem dX11_isIncluded_40 : decode cX11_isIncluded 40 = .ok (.ireturn, 1) := by decide +kernel
def wp_X11_isIncluded_40 (h : Nat) (s0 : Int32) (S : xm_S) (g : Int32 → xm_S → Prop) : Prop :=
  (s0 = 0 ∨ s0 = 1) ∧ g s0 S
set_option maxRecDepth 100000 in
set_option maxHeartbeats 4000000 in
theorem kp_X11_isIncluded_40 {K : xm_K} (h : Nat) (s0 : Int32) (S : xm_S) {g : Int32 → xm_S → Prop} (C : xm_Cx K cX11_isIncluded RX11 4 (some (FieldType.boolean)) rm_X11_isIncluded) (N : xm_Nx K) (hg : ∀ v S, g v S → xm_q K (some (xm_i v)) S)  (h1 : wp_X11_isIncluded_40 h s0 S g) : xm_W K 0 0 40 [] [xm_i s0] S := by
  unfold wp_X11_isIncluded_40 at h1
  exact x_zret C (Nat.le_of_ble_eq_true rfl) (Nat.le_of_ble_eq_true rfl) rfl h1.1 dX11_isIncluded_40 (hg _ _ h1.2)
def wp_X11_isIncluded_39 (h : Nat)  (S : xm_S) (g : Int32 → xm_S → Prop) : Prop :=
  wp_X11_isIncluded_40 h (0 : Int32) S g
set_option maxRecDepth 100000 in
set_option maxHeartbeats 4000000 in
theorem kp_X11_isIncluded_39 {K : xm_K} (h : Nat)  (S : xm_S) {g : Int32 → xm_S → Prop} (C : xm_Cx K cX11_isIncluded RX11 4 (some (FieldType.boolean)) rm_X11_isIncluded) (N : xm_Nx K) (hg : ∀ v S, g v S → xm_q K (some (xm_i v)) S)  (h1 : wp_X11_isIncluded_39 h  S g) : xm_W K 0 0 39 [] [] S := by
  unfold wp_X11_isIncluded_39 at h1
  refine x_iconst (v := (0 : Int32)) C dX11_isIncluded_39 (by decide) ?_
  exact kp_X11_isIncluded_40 h (0 : Int32) S C N hg  h1
def wp_X11_isIncluded (h : Nat) (x1 : Option Nat) (x2 : Int32) (x3 : Int32) (S : xm_S) (g : Int32 → xm_S → Prop) : Prop :=
  (x3 = (-1 : Int32) → wp_X11_isIncluded_39 h S g) ∧ (¬ x3 = (-1 : Int32) → st_t S h = some (11, 0) ∧ ∃ n2, (st_r S h 1) = some n2 ∧ ∃ z5, st_t S n2 = some (115, z5) ∧ vp_in x2 z5 ∧ ∃ n7, (st_r S n2 (x2).toNatClampNeg) = some n7 ∧ st_t S n7 = some (5, 0) ∧ ∃ n10, (st_r S n7 1) = some n10 ∧ ∃ z13, st_t S n10 = some (120, z13) ∧ vp_in x3 z13 ∧ ∃ n15, (st_r S n10 (x3).toNatClampNeg) = some n15 ∧ st_t S n15 = some (10, 0) ∧ ∃ n18, (st_r S h 1) = some n18 ∧ ∃ z21, st_t S n18 = some (115, z21) ∧ vp_in x2 z21 ∧ ∃ n23, (st_r S n18 (x2).toNatClampNeg) = some n23 ∧ st_t S n23 = some (5, 0) ∧ ∃ n26, x1 = some n26 ∧ st_t S n26 = some (6, 0) ∧ wp_X6_includes n26 (st_i S n15 0) (st_i S n23 0) S (fun r30 S29 => (r30 = 0 → wp_X11_isIncluded_39 h S29 g) ∧ (¬ r30 = 0 → wp_X11_isIncluded_40 h (1 : Int32) S29 g)))
set_option maxRecDepth 100000 in
set_option maxHeartbeats 4000000 in
theorem kp_X11_isIncluded {K : xm_K} (h : Nat) (x1 : Option Nat) (x2 : Int32) (x3 : Int32) (S : xm_S) {g : Int32 → xm_S → Prop} (C : xm_Cx K cX11_isIncluded RX11 4 (some (FieldType.boolean)) rm_X11_isIncluded) (N : xm_Nx K) (hg : ∀ v S, g v S → xm_q K (some (xm_i v)) S)  (h1 : wp_X11_isIncluded h x1 x2 x3 S g) : xm_W K 0 0 0 [(0, xm_r (some h)), (1, xm_r x1), (2, xm_i x2), (3, xm_i x3)] [] S := by
  unfold wp_X11_isIncluded at h1
  refine x_iload_n C 3 dX11_isIncluded_0 rfl rfl ?_
  refine x_iconst (v := (-1 : Int32)) C dX11_isIncluded_1 (by decide) ?_
  refine x_icmp_eq (tgt := 39) C dX11_isIncluded_2 (by decide) (fun z9 => ?_) (fun z9 => ?_)
  · have h1 := h1.1 z9
    refine x_keep (L' := []) C [] rfl ?_
    exact kp_X11_isIncluded_39 h S C N hg  h1
  · have h1 := h1.2 z9
    refine x_aload_n C 1 dX11_isIncluded_5 rfl rfl ?_
    refine x_aload_n C 0 dX11_isIncluded_6 rfl rfl ?_
    obtain ⟨ht1, h1⟩ := h1
    refine x_getf_r (n := h) C rfl ht1 fd_106 (by decide) dX11_isIncluded_7 ?_
    refine x_iload_n C 2 dX11_isIncluded_10 rfl rfl ?_
    obtain ⟨n2, hr3, h1⟩ := h1
    obtain ⟨z5, ht4, h1⟩ := h1
    obtain ⟨hi6, h1⟩ := h1
    refine x_aald (n := n2) C hr3 (by decide) rfl ht4 hi6 dX11_isIncluded_11 ?_
    obtain ⟨n7, hr8, h1⟩ := h1
    obtain ⟨ht9, h1⟩ := h1
    refine x_getf_r (n := n7) C hr8 ht9 fd_107 (by decide) dX11_isIncluded_12 ?_
    refine x_iload_n C 3 dX11_isIncluded_15 rfl rfl ?_
    obtain ⟨n10, hr11, h1⟩ := h1
    obtain ⟨z13, ht12, h1⟩ := h1
    obtain ⟨hi14, h1⟩ := h1
    refine x_aald (n := n10) C hr11 (by decide) rfl ht12 hi14 dX11_isIncluded_16 ?_
    obtain ⟨n15, hr16, h1⟩ := h1
    obtain ⟨ht17, h1⟩ := h1
    refine x_getf_i (n := n15) C hr16 ht17 fd_108 (by decide) dX11_isIncluded_17 ?_
    refine x_aload_n C 0 dX11_isIncluded_20 rfl rfl ?_
    refine x_getf_r (n := h) C rfl ht1 fd_106 (by decide) dX11_isIncluded_21 ?_
    refine x_iload_n C 2 dX11_isIncluded_24 rfl rfl ?_
    obtain ⟨n18, hr19, h1⟩ := h1
    obtain ⟨z21, ht20, h1⟩ := h1
    obtain ⟨hi22, h1⟩ := h1
    refine x_aald (n := n18) C hr19 (by decide) rfl ht20 hi22 dX11_isIncluded_25 ?_
    obtain ⟨n23, hr24, h1⟩ := h1
    obtain ⟨ht25, h1⟩ := h1
    refine x_getf_i (n := n23) C hr24 ht25 fd_109 (by decide) dX11_isIncluded_26 ?_
    obtain ⟨n26, hr27, h1⟩ := h1
    obtain ⟨ht28, h1⟩ := h1
    refine x_callV (rm' := rm_X6_includes) (n := n26) C (kp_X6_includes_met h1) lk_34 gw_168 gw_169 xv_6 rfl hr27 ht28 rfl (Nat.le_of_ble_eq_true rfl) ⟨Nat.le_of_ble_eq_true rfl, Nat.le_of_ble_eq_true rfl, (Nat.le_of_ble_eq_true rfl), (Nat.le_of_ble_eq_true rfl)⟩ dX11_isIncluded_29 xm_kx (xm_ki (fun r30 S29 h1 => ?_))
    refine x_if_eq (tgt := 39) C dX11_isIncluded_32 (by decide) (fun z9 => ?_) (fun z9 => ?_)
    · have h1 := h1.1 z9
      refine x_keep (L' := []) C [] rfl ?_
      exact kp_X11_isIncluded_39 h S29 C N hg  h1
    · have h1 := h1.2 z9
      refine x_iconst (v := (1 : Int32)) C dX11_isIncluded_35 (by decide) ?_
      refine x_goto (tgt := 40) C dX11_isIncluded_36 (by decide) ?_
      refine x_keep (L' := []) C [] rfl ?_
      exact kp_X11_isIncluded_40 h (1 : Int32) S29 C N hg  h1
theorem kp_X11_isIncluded_met {h : Nat} {x1 : Option Nat} {x2 : Int32} {x3 : Int32} {S : xm_S} {g : Int32 → xm_S → Prop}  (h1 : wp_X11_isIncluded h x1 x2 x3 S g) : xm_Met yX11_isIncluded cX11_isIncluded 4 (some (FieldType.boolean)) rm_X11_isIncluded [xm_r (some h), xm_r x1, xm_i x2, xm_i x3] S (xm_qi g) xm_nox :=
  xm_ofW RX11 (by decide +kernel) rfl (Nat.le_of_ble_eq_true rfl) (fun K C N hq hx hi => kp_X11_isIncluded h x1 x2 x3 S C N (fun v S h => by rw [hq]; exact ⟨v, rfl, h⟩)  h1)
def rm_X11_advised : Room := { frames := 7, cells := 2, slots := 12, locals := 122 }
theorem dX11_advised_0 : decode cX11_advised 0 = .ok (.iload_n 1, 1) := by decide +kernel
theorem dX11_advised_1 : decode cX11_advised 1 = .ok (.invokestatic 212, 3) := by decide +kernel
theorem dX11_advised_4 : decode cX11_advised 4 = .ok (.iload_n 2, 1) := by decide +kernel
theorem dX11_advised_5 : decode cX11_advised 5 = .ok (.iconst 1, 1) := by decide +kernel
theorem dX11_advised_6 : decode cX11_advised 6 = .ok (.bipush 9, 2) := by decide +kernel
theorem dX11_advised_8 : decode cX11_advised 8 = .ok (.invokestatic 132, 3) := by decide +kernel
theorem dX11_advised_11 : decode cX11_advised 11 = .ok (.iconst 0, 1) := by decide +kernel
theorem dX11_advised_12 : decode cX11_advised 12 = .ok (.istore_n 3, 1) := by decide +kernel
theorem dX11_advised_13 : decode cX11_advised 13 = .ok (.iconst 0, 1) := by decide +kernel
theorem dX11_advised_14 : decode cX11_advised 14 = .ok (.istore 4, 2) := by decide +kernel
theorem dX11_advised_16 : decode cX11_advised 16 = .ok (.iload 4, 2) := by decide +kernel
theorem dX11_advised_18 : decode cX11_advised 18 = .ok (.aload_n 0, 1) := by decide +kernel
theorem dX11_advised_19 : decode cX11_advised 19 = .ok (.getfield 41, 3) := by decide +kernel
theorem dX11_advised_22 : decode cX11_advised 22 = .ok (.if_icmp .ge 70, 3) := by decide +kernel
theorem dX11_advised_25 : decode cX11_advised 25 = .ok (.aload_n 0, 1) := by decide +kernel
theorem dX11_advised_26 : decode cX11_advised 26 = .ok (.getfield 37, 3) := by decide +kernel
theorem dX11_advised_29 : decode cX11_advised 29 = .ok (.iload 4, 2) := by decide +kernel
theorem dX11_advised_31 : decode cX11_advised 31 = .ok (.aaload, 1) := by decide +kernel
theorem dX11_advised_32 : decode cX11_advised 32 = .ok (.astore 5, 2) := by decide +kernel
theorem dX11_advised_34 : decode cX11_advised 34 = .ok (.aload_n 0, 1) := by decide +kernel
theorem dX11_advised_35 : decode cX11_advised 35 = .ok (.getfield 46, 3) := by decide +kernel
theorem dX11_advised_38 : decode cX11_advised 38 = .ok (.iload_n 1, 1) := by decide +kernel
theorem dX11_advised_39 : decode cX11_advised 39 = .ok (.aaload, 1) := by decide +kernel
theorem dX11_advised_40 : decode cX11_advised 40 = .ok (.aload 5, 2) := by decide +kernel
theorem dX11_advised_42 : decode cX11_advised 42 = .ok (.getfield 244, 3) := by decide +kernel
theorem dX11_advised_45 : decode cX11_advised 45 = .ok (.iaload, 1) := by decide +kernel
theorem dX11_advised_46 : decode cX11_advised 46 = .ok (.istore 6, 2) := by decide +kernel
theorem dX11_advised_48 : decode cX11_advised 48 = .ok (.aload 5, 2) := by decide +kernel
theorem dX11_advised_50 : decode cX11_advised 50 = .ok (.getfield 247, 3) := by decide +kernel
theorem dX11_advised_53 : decode cX11_advised 53 = .ok (.iload_n 2, 1) := by decide +kernel
theorem dX11_advised_54 : decode cX11_advised 54 = .ok (.if_icmp .lt 32, 3) := by decide +kernel
theorem dX11_advised_57 : decode cX11_advised 57 = .ok (.aload_n 0, 1) := by decide +kernel
theorem dX11_advised_58 : decode cX11_advised 58 = .ok (.aload 5, 2) := by decide +kernel
theorem dX11_advised_60 : decode cX11_advised 60 = .ok (.getfield 250, 3) := by decide +kernel
theorem dX11_advised_63 : decode cX11_advised 63 = .ok (.aload 5, 2) := by decide +kernel
theorem dX11_advised_65 : decode cX11_advised 65 = .ok (.getfield 244, 3) := by decide +kernel
theorem dX11_advised_68 : decode cX11_advised 68 = .ok (.iload 6, 2) := by decide +kernel
theorem dX11_advised_70 : decode cX11_advised 70 = .ok (.invokevirtual 254, 3) := by decide +kernel
theorem dX11_advised_73 : decode cX11_advised 73 = .ok (.ifCond .eq 13, 3) := by decide +kernel
theorem dX11_advised_76 : decode cX11_advised 76 = .ok (.iload_n 3, 1) := by decide +kernel
theorem dX11_advised_77 : decode cX11_advised 77 = .ok (.iconst 1, 1) := by decide +kernel
theorem dX11_advised_78 : decode cX11_advised 78 = .ok (.aload 5, 2) := by decide +kernel
theorem dX11_advised_80 : decode cX11_advised 80 = .ok (.getfield 244, 3) := by decide +kernel
theorem dX11_advised_83 : decode cX11_advised 83 = .ok (.ishl, 1) := by decide +kernel
theorem dX11_advised_84 : decode cX11_advised 84 = .ok (.ior, 1) := by decide +kernel
theorem dX11_advised_85 : decode cX11_advised 85 = .ok (.istore_n 3, 1) := by decide +kernel
theorem dX11_advised_86 : decode cX11_advised 86 = .ok (.iinc 4 1, 3) := by decide +kernel
theorem dX11_advised_89 : decode cX11_advised 89 = .ok (.goto (-73), 3) := by decide +kernel
theorem dX11_advised_92 : decode cX11_advised 92 = .ok (.iload_n 3, 1) := by decide +kernel
theorem dX11_advised_93 : decode cX11_advised 93 = .ok (.ireturn, 1) := by decide +kernel
def wp_X11_advised_86 (h : Nat) (x1 : Int32) (x2 : Int32) (x3 : Int32) (x4 : Int32) (S : xm_S) (g : Int32 → xm_S → Prop) (Ex : String → xm_S → Prop) (Z16 : Int32 → Int32 → Int32 → Int32 → xm_S → Prop) : Prop :=
  ∀ y1, y1 = (x4 + (1 : Int32)) → Z16 x1 x2 x3 y1 S
set_option maxRecDepth 100000 in
set_option maxHeartbeats 4000000 in
theorem kp_X11_advised_86 {K : xm_K} (h : Nat) (x1 : Int32) (x2 : Int32) (x3 : Int32) (x4 : Int32) (S : xm_S) {g : Int32 → xm_S → Prop} {Ex : String → xm_S → Prop} {Z16 : Int32 → Int32 → Int32 → Int32 → xm_S → Prop} (C : xm_Cx K cX11_advised RX11 7 (some (FieldType.int)) rm_X11_advised) (N : xm_Nx K) (hg : ∀ v S, g v S → xm_q K (some (xm_i v)) S) (hEx : ∀ X S, Ex X S → xm_x K X S) (hZ16 : ∀ x1 x2 x3 x4 S, Z16 x1 x2 x3 x4 S → xm_W K 2 12 16 [(0, xm_r (some h)), (1, xm_i x1), (2, xm_i x2), (3, xm_i x3), (4, xm_i x4)] [] S) (h1 : wp_X11_advised_86 h x1 x2 x3 x4 S g Ex Z16) : xm_W K 2 12 86 [(0, xm_r (some h)), (1, xm_i x1), (2, xm_i x2), (3, xm_i x3), (4, xm_i x4)] [] S := by
  unfold wp_X11_advised_86 at h1
  obtain ⟨y1, e2⟩ : ∃ y1, y1 = (x4 + (1 : Int32)) := ⟨_, rfl⟩
  have h1 := h1 y1 e2
  refine x_iinc (v := y1) (L' := [(4, xm_i y1), (0, xm_r (some h)), (1, xm_i x1), (2, xm_i x2), (3, xm_i x3)]) C 4 dX11_advised_86 rfl (by rw [e2]; rfl) (by decide) rfl ?_
  refine x_goto (tgt := 16) C dX11_advised_89 (by decide) ?_
  refine x_keep (L' := [(0, xm_r (some h)), (1, xm_i x1), (2, xm_i x2), (3, xm_i x3), (4, xm_i y1)]) C [1, 2, 3, 4, 0] rfl ?_
  exact hZ16 x1 x2 x3 y1 S h1
def wp_X11_advised_16B (h : Nat) (x1 : Int32) (x2 : Int32) (x3 : Int32) (x4 : Int32) (S : xm_S) (g : Int32 → xm_S → Prop) (Ex : String → xm_S → Prop) (Z16 : Int32 → Int32 → Int32 → Int32 → xm_S → Prop) : Prop :=
  st_t S h = some (11, 0) ∧ ((st_i S h 6) ≤ x4 → g x3 S) ∧ (¬ (st_i S h 6) ≤ x4 → ∃ n4, (st_r S h 5) = some n4 ∧ ∃ z7, st_t S n4 = some (110, z7) ∧ vp_in x4 z7 ∧ ∃ n9, (st_r S h 7) = some n9 ∧ ∃ z12, st_t S n9 = some (104, z12) ∧ vp_in x1 z12 ∧ ∃ n14, (st_r S n4 (x4).toNatClampNeg) = some n14 ∧ st_t S n14 = some (0, 0) ∧ ∃ n17, (st_r S n9 (x1).toNatClampNeg) = some n17 ∧ ∃ z20, st_t S n17 = some (100, z20) ∧ vp_in (st_i S n14 0) z20 ∧ ∀ y22, y22 = (st_i S n17 ((st_i S n14 0)).toNatClampNeg) → ∃ n24, (st_r S n4 (x4).toNatClampNeg) = some n24 ∧ st_t S n24 = some (0, 0) ∧ ((st_i S n24 2) < x2 → wp_X11_advised_86 h x1 x2 x3 x4 S g Ex Z16) ∧ (¬ (st_i S n24 2) < x2 → ∃ n27, (st_r S n4 (x4).toNatClampNeg) = some n27 ∧ st_t S n27 = some (0, 0) ∧ ∃ n30, (st_r S n4 (x4).toNatClampNeg) = some n30 ∧ st_t S n30 = some (0, 0) ∧ wp_X11_isIncluded h (st_r S n27 1) (st_i S n30 0) y22 S (fun r34 S33 => (r34 = 0 → wp_X11_advised_86 h x1 x2 x3 x4 S33 g Ex Z16) ∧ (¬ r34 = 0 → ∃ n35, (st_r S n4 (x4).toNatClampNeg) = some n35 ∧ st_t S33 n35 = some (0, 0) ∧ ∀ y38, y38 = (x3 ||| ((1 : Int32) <<< ((st_i S33 n35 0) &&& 31))) → wp_X11_advised_86 h x1 x2 y38 x4 S33 g Ex Z16))))
def wp_X11_advised_16 (h : Nat) (x1 : Int32) (x2 : Int32) (x3 : Int32) (x4 : Int32) (S : xm_S) (g : Int32 → xm_S → Prop) (Ex : String → xm_S → Prop) : Prop :=
  ∀ Z16 : Int32 → Int32 → Int32 → Int32 → xm_S → Prop, (∀ x1 x2 x3 x4 S, wp_X11_advised_16B h x1 x2 x3 x4 S g Ex Z16 → Z16 x1 x2 x3 x4 S) → Z16 x1 x2 x3 x4 S
set_option maxRecDepth 100000 in
set_option maxHeartbeats 4000000 in
theorem kp_X11_advised_16B {K : xm_K} (h : Nat) (x1 : Int32) (x2 : Int32) (x3 : Int32) (x4 : Int32) (S : xm_S) {g : Int32 → xm_S → Prop} {Ex : String → xm_S → Prop} {Z16 : Int32 → Int32 → Int32 → Int32 → xm_S → Prop} (C : xm_Cx K cX11_advised RX11 7 (some (FieldType.int)) rm_X11_advised) (N : xm_Nx K) (hg : ∀ v S, g v S → xm_q K (some (xm_i v)) S) (hEx : ∀ X S, Ex X S → xm_x K X S) (hZ16 : ∀ x1 x2 x3 x4 S, Z16 x1 x2 x3 x4 S → xm_W K 2 12 16 [(0, xm_r (some h)), (1, xm_i x1), (2, xm_i x2), (3, xm_i x3), (4, xm_i x4)] [] S) (h1 : wp_X11_advised_16B h x1 x2 x3 x4 S g Ex Z16) : xm_W K 2 12 16 [(0, xm_r (some h)), (1, xm_i x1), (2, xm_i x2), (3, xm_i x3), (4, xm_i x4)] [] S := by
  unfold wp_X11_advised_16B at h1
  refine x_iload C 4 dX11_advised_16 rfl ?_
  refine x_aload_n C 0 dX11_advised_18 rfl rfl ?_
  obtain ⟨ht3, h1⟩ := h1
  refine x_getf_i (n := h) C rfl ht3 fd_110 (by decide) dX11_advised_19 ?_
  refine x_icmp_ge (tgt := 92) C dX11_advised_22 (by decide) (fun z9 => ?_) (fun z9 => ?_)
  · have h1 := h1.1 z9
    refine x_iload_n C 3 dX11_advised_92 rfl rfl ?_
    exact x_iret C (Nat.le_of_ble_eq_true rfl) (Nat.le_of_ble_eq_true rfl) rfl dX11_advised_93 (hg _ _ h1)
  · have h1 := h1.2 z9
    refine x_aload_n C 0 dX11_advised_25 rfl rfl ?_
    refine x_getf_r (n := h) C rfl ht3 fd_111 (by decide) dX11_advised_26 ?_
    refine x_iload C 4 dX11_advised_29 rfl ?_
    obtain ⟨n4, hr5, h1⟩ := h1
    obtain ⟨z7, ht6, h1⟩ := h1
    obtain ⟨hi8, h1⟩ := h1
    refine x_aald (n := n4) C hr5 (by decide) rfl ht6 hi8 dX11_advised_31 ?_
    refine x_astore (L' := [(5, xm_r (st_r S n4 (x4).toNatClampNeg)), (0, xm_r (some h)), (1, xm_i x1), (2, xm_i x2), (3, xm_i x3), (4, xm_i x4)]) C dX11_advised_32 (by decide) rfl ?_
    refine x_aload_n C 1 dX11_advised_34 rfl rfl ?_
    refine x_getf_r (n := h) C rfl ht3 fd_112 (by decide) dX11_advised_35 ?_
    refine x_iload_n C 2 dX11_advised_38 rfl rfl ?_
    obtain ⟨n9, hr10, h1⟩ := h1
    obtain ⟨z12, ht11, h1⟩ := h1
    obtain ⟨hi13, h1⟩ := h1
    refine x_aald (n := n9) C hr10 (by decide) rfl ht11 hi13 dX11_advised_39 ?_
    refine x_aload C 0 dX11_advised_40 rfl ?_
    obtain ⟨n14, hr15, h1⟩ := h1
    obtain ⟨ht16, h1⟩ := h1
    refine x_getf_i (n := n14) C hr15 ht16 fd_113 (by decide) dX11_advised_42 ?_
    obtain ⟨n17, hr18, h1⟩ := h1
    obtain ⟨z20, ht19, h1⟩ := h1
    obtain ⟨hi21, h1⟩ := h1
    refine x_iald (n := n17) C hr18 ht19 hi21 dX11_advised_45 ?_
    refine x_topi (fun y22 e23 => ?_)
    have h1 := h1 y22 e23
    refine x_istore (L' := [(6, xm_i y22), (5, xm_r (st_r S n4 (x4).toNatClampNeg)), (0, xm_r (some h)), (1, xm_i x1), (2, xm_i x2), (3, xm_i x3), (4, xm_i x4)]) C dX11_advised_46 (by decide) rfl ?_
    refine x_aload C 1 dX11_advised_48 rfl ?_
    obtain ⟨n24, hr25, h1⟩ := h1
    obtain ⟨ht26, h1⟩ := h1
    refine x_getf_i (n := n24) C hr25 ht26 fd_114 (by decide) dX11_advised_50 ?_
    refine x_iload_n C 4 dX11_advised_53 rfl rfl ?_
    refine x_icmp_lt (tgt := 86) C dX11_advised_54 (by decide) (fun z9 => ?_) (fun z9 => ?_)
    · have h1 := h1.1 z9
      refine x_keep (L' := [(0, xm_r (some h)), (1, xm_i x1), (2, xm_i x2), (3, xm_i x3), (4, xm_i x4)]) C [2, 3, 4, 5, 6] rfl ?_
      exact kp_X11_advised_86 h x1 x2 x3 x4 S C N hg hEx hZ16 h1
    · have h1 := h1.2 z9
      refine x_aload_n C 2 dX11_advised_57 rfl rfl ?_
      refine x_aload C 1 dX11_advised_58 rfl ?_
      obtain ⟨n27, hr28, h1⟩ := h1
      obtain ⟨ht29, h1⟩ := h1
      refine x_getf_r (n := n27) C hr28 ht29 fd_115 (by decide) dX11_advised_60 ?_
      refine x_aload C 1 dX11_advised_63 rfl ?_
      obtain ⟨n30, hr31, h1⟩ := h1
      obtain ⟨ht32, h1⟩ := h1
      refine x_getf_i (n := n30) C hr31 ht32 fd_113 (by decide) dX11_advised_65 ?_
      refine x_iload C 0 dX11_advised_68 rfl ?_
      refine x_callV (rm' := rm_X11_isIncluded) (n := h) C (kp_X11_isIncluded_met h1) lk_35 gw_273 gw_274 xv_11 rfl rfl ht3 rfl (Nat.le_of_ble_eq_true rfl) ⟨Nat.le_of_ble_eq_true rfl, Nat.le_of_ble_eq_true rfl, (Nat.le_of_ble_eq_true rfl), (Nat.le_of_ble_eq_true rfl)⟩ dX11_advised_70 xm_kx (xm_ki (fun r34 S33 h1 => ?_))
      refine x_if_eq (tgt := 86) C dX11_advised_73 (by decide) (fun z9 => ?_) (fun z9 => ?_)
      · have h1 := h1.1 z9
        refine x_keep (L' := [(0, xm_r (some h)), (1, xm_i x1), (2, xm_i x2), (3, xm_i x3), (4, xm_i x4)]) C [2, 3, 4, 5, 6] rfl ?_
        exact kp_X11_advised_86 h x1 x2 x3 x4 S33 C N hg hEx hZ16 h1
      · have h1 := h1.2 z9
        refine x_iload_n C 5 dX11_advised_76 rfl rfl ?_
        refine x_iconst (v := (1 : Int32)) C dX11_advised_77 (by decide) ?_
        refine x_aload C 1 dX11_advised_78 rfl ?_
        obtain ⟨n35, hr36, h1⟩ := h1
        obtain ⟨ht37, h1⟩ := h1
        refine x_getf_i (n := n35) C hr36 ht37 fd_113 (by decide) dX11_advised_80 ?_
        refine x_ishl C dX11_advised_83 ?_
        refine x_ior C dX11_advised_84 ?_
        refine x_topi (fun y38 e39 => ?_)
        have h1 := h1 y38 e39
        refine x_istore_n (L' := [(3, xm_i y38), (6, xm_i y22), (5, xm_r (st_r S n4 (x4).toNatClampNeg)), (0, xm_r (some h)), (1, xm_i x1), (2, xm_i x2), (4, xm_i x4)]) C dX11_advised_85 rfl (by decide) rfl ?_
        refine x_keep (L' := [(0, xm_r (some h)), (1, xm_i x1), (2, xm_i x2), (3, xm_i y38), (4, xm_i x4)]) C [3, 4, 5, 0, 6] rfl ?_
        exact kp_X11_advised_86 h x1 x2 y38 x4 S33 C N hg hEx hZ16 h1
theorem kp_X11_advised_16 {K : xm_K} (h : Nat) (x1 : Int32) (x2 : Int32) (x3 : Int32) (x4 : Int32) (S : xm_S) {g : Int32 → xm_S → Prop} {Ex : String → xm_S → Prop} (C : xm_Cx K cX11_advised RX11 7 (some (FieldType.int)) rm_X11_advised) (N : xm_Nx K) (hg : ∀ v S, g v S → xm_q K (some (xm_i v)) S) (hEx : ∀ X S, Ex X S → xm_x K X S)  (h1 : wp_X11_advised_16 h x1 x2 x3 x4 S g Ex) : xm_W K 2 12 16 [(0, xm_r (some h)), (1, xm_i x1), (2, xm_i x2), (3, xm_i x3), (4, xm_i x4)] [] S :=
  h1 (fun x1 x2 x3 x4 S => xm_W K 2 12 16 [(0, xm_r (some h)), (1, xm_i x1), (2, xm_i x2), (3, xm_i x3), (4, xm_i x4)] [] S) (fun x1 x2 x3 x4 S hb => kp_X11_advised_16B h x1 x2 x3 x4 S C N hg hEx (fun x1 x2 x3 x4 S hz => hz) hb)
def wp_X11_advised (h : Nat) (x1 : Int32) (x2 : Int32) (S : xm_S) (g : Int32 → xm_S → Prop) (Ex : String → xm_S → Prop) : Prop :=
  wp_X11_checkPlatform x1 S (fun S40 => wp_X11_checkRange x2 (1 : Int32) (nI 9) S40 (fun S42 => wp_X11_advised_16 h x1 x2 (0 : Int32) (0 : Int32) S42 g Ex) Ex) Ex
set_option maxRecDepth 100000 in
set_option maxHeartbeats 4000000 in
theorem kp_X11_advised {K : xm_K} (h : Nat) (x1 : Int32) (x2 : Int32) (S : xm_S) {g : Int32 → xm_S → Prop} {Ex : String → xm_S → Prop} (C : xm_Cx K cX11_advised RX11 7 (some (FieldType.int)) rm_X11_advised) (N : xm_Nx K) (hg : ∀ v S, g v S → xm_q K (some (xm_i v)) S) (hEx : ∀ X S, Ex X S → xm_x K X S)  (h1 : wp_X11_advised h x1 x2 S g Ex) : xm_W K 0 0 0 [(0, xm_r (some h)), (1, xm_i x1), (2, xm_i x2)] [] S := by
  unfold wp_X11_advised at h1
  refine x_iload_n C 1 dX11_advised_0 rfl rfl ?_
  refine x_callS (rm' := rm_X11_checkPlatform) C (kp_X11_checkPlatform_met h1) lk_36 gw_277 rfl (Nat.le_of_ble_eq_true rfl) ⟨Nat.le_of_ble_eq_true rfl, Nat.le_of_ble_eq_true rfl, (Nat.le_of_ble_eq_true rfl), (Nat.le_of_ble_eq_true rfl)⟩ dX11_advised_1 (fun X9 S9 hx9 => x_thru C N (Nat.le_of_ble_eq_true rfl) (Nat.le_of_ble_eq_true rfl) (hEx _ _ hx9)) (xm_kv (fun S40 h1 => ?_))
  refine x_iload_n C 2 dX11_advised_4 rfl rfl ?_
  refine x_iconst (v := (1 : Int32)) C dX11_advised_5 (by decide) ?_
  refine x_bipush (v := (nI 9)) C dX11_advised_6 (by decide) ?_
  refine x_callS (rm' := rm_X11_checkRange) C (kp_X11_checkRange_met h1) lk_37 gw_280 rfl (Nat.le_of_ble_eq_true rfl) ⟨Nat.le_of_ble_eq_true rfl, Nat.le_of_ble_eq_true rfl, (Nat.le_of_ble_eq_true rfl), (Nat.le_of_ble_eq_true rfl)⟩ dX11_advised_8 (fun X9 S9 hx9 => x_thru C N (Nat.le_of_ble_eq_true rfl) (Nat.le_of_ble_eq_true rfl) (hEx _ _ hx9)) (xm_kv (fun S42 h1 => ?_))
  refine x_iconst (v := (0 : Int32)) C dX11_advised_11 (by decide) ?_
  refine x_istore_n (L' := [(3, xm_i (0 : Int32)), (0, xm_r (some h)), (1, xm_i x1), (2, xm_i x2)]) C dX11_advised_12 rfl (by decide) rfl ?_
  refine x_iconst (v := (0 : Int32)) C dX11_advised_13 (by decide) ?_
  refine x_istore (L' := [(4, xm_i (0 : Int32)), (3, xm_i (0 : Int32)), (0, xm_r (some h)), (1, xm_i x1), (2, xm_i x2)]) C dX11_advised_14 (by decide) rfl ?_
  refine x_keep (L' := [(0, xm_r (some h)), (1, xm_i x1), (2, xm_i x2), (3, xm_i (0 : Int32)), (4, xm_i (0 : Int32))]) C [2, 3, 4, 1, 0] rfl ?_
  exact kp_X11_advised_16 h x1 x2 (0 : Int32) (0 : Int32) S42 C N hg hEx  h1
theorem kp_X11_advised_met {h : Nat} {x1 : Int32} {x2 : Int32} {S : xm_S} {g : Int32 → xm_S → Prop} {Ex : String → xm_S → Prop}  (h1 : wp_X11_advised h x1 x2 S g Ex) : xm_Met yX11_advised cX11_advised 7 (some (FieldType.int)) rm_X11_advised [xm_r (some h), xm_i x1, xm_i x2] S (xm_qi g) Ex :=
  xm_ofW RX11 (by decide +kernel) rfl (Nat.le_of_ble_eq_true rfl) (fun K C N hq hx hi => kp_X11_advised h x1 x2 S C N (fun v S h => by rw [hq]; exact ⟨v, rfl, h⟩) (fun X S h => by rw [hx]; exact h)  h1)
def rm_X11_allWishes : Room := { frames := 1, cells := 0, slots := 0, locals := 20 }
theorem dX11_allWishes_0 : decode cX11_allWishes 0 = .ok (.iconst 1, 1) := by decide +kernel
theorem dX11_allWishes_1 : decode cX11_allWishes 1 = .ok (.aload_n 0, 1) := by decide +kernel
theorem dX11_allWishes_2 : decode cX11_allWishes 2 = .ok (.getfield 28, 3) := by decide +kernel
theorem dX11_allWishes_5 : decode cX11_allWishes 5 = .ok (.ishl, 1) := by decide +kernel
theorem dX11_allWishes_6 : decode cX11_allWishes 6 = .ok (.iconst 1, 1) := by decide +kernel
theorem dX11_allWishes_7 : decode cX11_allWishes 7 = .ok (.isub, 1) := by decide +kernel
theorem dX11_allWishes_8 : decode cX11_allWishes 8 = .ok (.ireturn, 1) := by decide +kernel
def wp_X11_allWishes (h : Nat)  (S : xm_S) (g : Int32 → xm_S → Prop) : Prop :=
  st_t S h = some (11, 0) ∧ g (((1 : Int32) <<< ((st_i S h 3) &&& 31)) - (1 : Int32)) S
set_option maxRecDepth 100000 in
set_option maxHeartbeats 4000000 in
theorem kp_X11_allWishes {K : xm_K} (h : Nat)  (S : xm_S) {g : Int32 → xm_S → Prop} (C : xm_Cx K cX11_allWishes RX11 1 (some (FieldType.int)) rm_X11_allWishes) (N : xm_Nx K) (hg : ∀ v S, g v S → xm_q K (some (xm_i v)) S)  (h1 : wp_X11_allWishes h  S g) : xm_W K 0 0 0 [(0, xm_r (some h))] [] S := by
  unfold wp_X11_allWishes at h1
  refine x_iconst (v := (1 : Int32)) C dX11_allWishes_0 (by decide) ?_
  refine x_aload_n C 0 dX11_allWishes_1 rfl rfl ?_
  obtain ⟨ht1, h1⟩ := h1
  refine x_getf_i (n := h) C rfl ht1 fd_116 (by decide) dX11_allWishes_2 ?_
  refine x_ishl C dX11_allWishes_5 ?_
  refine x_iconst (v := (1 : Int32)) C dX11_allWishes_6 (by decide) ?_
  refine x_isub C dX11_allWishes_7 ?_
  exact x_iret C (Nat.le_of_ble_eq_true rfl) (Nat.le_of_ble_eq_true rfl) rfl dX11_allWishes_8 (hg _ _ h1)
theorem kp_X11_allWishes_met {h : Nat}  {S : xm_S} {g : Int32 → xm_S → Prop}  (h1 : wp_X11_allWishes h  S g) : xm_Met yX11_allWishes cX11_allWishes 1 (some (FieldType.int)) rm_X11_allWishes [xm_r (some h)] S (xm_qi g) xm_nox :=
  xm_ofW RX11 (by decide +kernel) rfl (Nat.le_of_ble_eq_true rfl) (fun K C N hq hx hi => kp_X11_allWishes h  S C N (fun v S h => by rw [hq]; exact ⟨v, rfl, h⟩)  h1)
def rm_X11_aside : Room := { frames := 1, cells := 0, slots := 0, locals := 20 }
theorem dX11_aside_0 : decode cX11_aside 0 = .ok (.aload_n 0, 1) := by decide +kernel
theorem dX11_aside_1 : decode cX11_aside 1 = .ok (.getfield 85, 3) := by decide +kernel
theorem dX11_aside_4 : decode cX11_aside 4 = .ok (.getfield 322, 3) := by decide +kernel
theorem dX11_aside_7 : decode cX11_aside 7 = .ok (.ireturn, 1) := by decide +kernel
def wp_X11_aside (h : Nat)  (S : xm_S) (g : Int32 → xm_S → Prop) : Prop :=
  st_t S h = some (11, 0) ∧ ∃ n2, (st_r S h 17) = some n2 ∧ st_t S n2 = some (2, 0) ∧ g (st_i S n2 6) S
set_option maxRecDepth 100000 in
set_option maxHeartbeats 4000000 in
theorem kp_X11_aside {K : xm_K} (h : Nat)  (S : xm_S) {g : Int32 → xm_S → Prop} (C : xm_Cx K cX11_aside RX11 1 (some (FieldType.int)) rm_X11_aside) (N : xm_Nx K) (hg : ∀ v S, g v S → xm_q K (some (xm_i v)) S)  (h1 : wp_X11_aside h  S g) : xm_W K 0 0 0 [(0, xm_r (some h))] [] S := by
  unfold wp_X11_aside at h1
  refine x_aload_n C 0 dX11_aside_0 rfl rfl ?_
  obtain ⟨ht1, h1⟩ := h1
  refine x_getf_r (n := h) C rfl ht1 fd_117 (by decide) dX11_aside_1 ?_
  obtain ⟨n2, hr3, h1⟩ := h1
  obtain ⟨ht4, h1⟩ := h1
  refine x_getf_i (n := n2) C hr3 ht4 fd_118 (by decide) dX11_aside_4 ?_
  exact x_iret C (Nat.le_of_ble_eq_true rfl) (Nat.le_of_ble_eq_true rfl) rfl dX11_aside_7 (hg _ _ h1)
theorem kp_X11_aside_met {h : Nat}  {S : xm_S} {g : Int32 → xm_S → Prop}  (h1 : wp_X11_aside h  S g) : xm_Met yX11_aside cX11_aside 1 (some (FieldType.int)) rm_X11_aside [xm_r (some h)] S (xm_qi g) xm_nox :=
  xm_ofW RX11 (by decide +kernel) rfl (Nat.le_of_ble_eq_true rfl) (fun K C N hq hx hi => kp_X11_aside h  S C N (fun v S h => by rw [hq]; exact ⟨v, rfl, h⟩)  h1)
def rm_X11_checkMirror : Room := { frames := 6, cells := 1, slots := 6, locals := 100 }
theorem dX11_checkMirror_0 : decode cX11_checkMirror 0 = .ok (.iload_n 0, 1) := by decide +kernel
theorem dX11_checkMirror_1 : decode cX11_checkMirror 1 = .ok (.ifCond .lt 8, 3) := by decide +kernel
theorem dX11_checkMirror_4 : decode cX11_checkMirror 4 = .ok (.iload_n 0, 1) := by decide +kernel
theorem dX11_checkMirror_5 : decode cX11_checkMirror 5 = .ok (.iconst 3, 1) := by decide +kernel
theorem dX11_checkMirror_6 : decode cX11_checkMirror 6 = .ok (.if_icmp .lt 14, 3) := by decide +kernel
theorem dX11_checkMirror_9 : decode cX11_checkMirror 9 = .ok (.new 349, 3) := by decide +kernel
theorem dX11_checkMirror_12 : decode cX11_checkMirror 12 = .ok (.dup, 1) := by decide +kernel
theorem dX11_checkMirror_13 : decode cX11_checkMirror 13 = .ok (.ldc_w 358, 3) := by decide +kernel
theorem dX11_checkMirror_16 : decode cX11_checkMirror 16 = .ok (.invokespecial 353, 3) := by decide +kernel
theorem dX11_checkMirror_19 : decode cX11_checkMirror 19 = .ok (.athrow, 1) := by decide +kernel
theorem dX11_checkMirror_20 : decode cX11_checkMirror 20 = .ok (.return_, 1) := by decide +kernel
def wp_X11_checkMirror_9  (S : xm_S) (g : xm_S → Prop) (Ex : String → xm_S → Prop) : Prop :=
  Ex xm_eI S
set_option maxRecDepth 100000 in
set_option maxHeartbeats 4000000 in
theorem kp_X11_checkMirror_9 {K : xm_K}  (S : xm_S) {g : xm_S → Prop} {Ex : String → xm_S → Prop} (C : xm_Cx K cX11_checkMirror RX11 1 none rm_X11_checkMirror) (N : xm_Nx K) (hg : ∀ S, g S → xm_q K none S) (hEx : ∀ X S, Ex X S → xm_x K X S)  (h1 : wp_X11_checkMirror_9  S g Ex) : xm_W K 0 0 9 [] [] S := by
  unfold wp_X11_checkMirror_9 at h1
  exact x_throw (text := "no such mirror") C N th_I_in th_I_fit gw_253 gw_254 (by decide +kernel) th_I_at th_I_no th_I_ot (Nat.le_of_ble_eq_true rfl) ⟨Nat.le_of_ble_eq_true rfl, Nat.le_of_ble_eq_true rfl, (Nat.le_of_ble_eq_true rfl), (Nat.le_of_ble_eq_true rfl)⟩ dX11_checkMirror_9 dX11_checkMirror_12 (Or.inr ⟨dX11_checkMirror_13, dX11_checkMirror_16, dX11_checkMirror_19⟩) (hEx _ _ h1)
def wp_X11_checkMirror (x0 : Int32) (S : xm_S) (g : xm_S → Prop) (Ex : String → xm_S → Prop) : Prop :=
  (x0 < 0 → wp_X11_checkMirror_9 S g Ex) ∧ (¬ x0 < 0 → (x0 < (nI 3) → g S) ∧ (¬ x0 < (nI 3) → wp_X11_checkMirror_9 S g Ex))
set_option maxRecDepth 100000 in
set_option maxHeartbeats 4000000 in
theorem kp_X11_checkMirror {K : xm_K} (x0 : Int32) (S : xm_S) {g : xm_S → Prop} {Ex : String → xm_S → Prop} (C : xm_Cx K cX11_checkMirror RX11 1 none rm_X11_checkMirror) (N : xm_Nx K) (hg : ∀ S, g S → xm_q K none S) (hEx : ∀ X S, Ex X S → xm_x K X S)  (h1 : wp_X11_checkMirror x0 S g Ex) : xm_W K 0 0 0 [(0, xm_i x0)] [] S := by
  unfold wp_X11_checkMirror at h1
  refine x_iload_n C 0 dX11_checkMirror_0 rfl rfl ?_
  refine x_if_lt (tgt := 9) C dX11_checkMirror_1 (by decide) (fun z9 => ?_) (fun z9 => ?_)
  · have h1 := h1.1 z9
    refine x_keep (L' := []) C [] rfl ?_
    exact kp_X11_checkMirror_9 S C N hg hEx  h1
  · have h1 := h1.2 z9
    refine x_iload_n C 0 dX11_checkMirror_4 rfl rfl ?_
    refine x_iconst (v := (nI 3)) C dX11_checkMirror_5 (by decide) ?_
    refine x_icmp_lt (tgt := 20) C dX11_checkMirror_6 (by decide) (fun z9 => ?_) (fun z9 => ?_)
    · have h1 := h1.1 z9
      exact x_vret C (Nat.le_of_ble_eq_true rfl) (Nat.le_of_ble_eq_true rfl) rfl dX11_checkMirror_20 (hg _ h1)
    · have h1 := h1.2 z9
      refine x_keep (L' := []) C [] rfl ?_
      exact kp_X11_checkMirror_9 S C N hg hEx  h1
theorem kp_X11_checkMirror_met {x0 : Int32} {S : xm_S} {g : xm_S → Prop} {Ex : String → xm_S → Prop}  (h1 : wp_X11_checkMirror x0 S g Ex) : xm_Met yX11_checkMirror cX11_checkMirror 1 none rm_X11_checkMirror [xm_i x0] S (xm_qv g) Ex :=
  xm_ofW RX11 (by decide +kernel) rfl (Nat.le_of_ble_eq_true rfl) (fun K C N hq hx hi => kp_X11_checkMirror x0 S C N (fun S h => by rw [hq]; exact ⟨rfl, h⟩) (fun X S h => by rw [hx]; exact h)  h1)
def rm_X11_checkOther : Room := { frames := 6, cells := 1, slots := 6, locals := 100 }
theorem dX11_checkOther_0 : decode cX11_checkOther 0 = .ok (.iload_n 0, 1) := by decide +kernel
theorem dX11_checkOther_1 : decode cX11_checkOther 1 = .ok (.iload_n 1, 1) := by decide +kernel
theorem dX11_checkOther_2 : decode cX11_checkOther 2 = .ok (.if_icmp .ne 14, 3) := by decide +kernel
theorem dX11_checkOther_5 : decode cX11_checkOther 5 = .ok (.new 90, 3) := by decide +kernel
theorem dX11_checkOther_8 : decode cX11_checkOther 8 = .ok (.dup, 1) := by decide +kernel
theorem dX11_checkOther_9 : decode cX11_checkOther 9 = .ok (.ldc_w 364, 3) := by decide +kernel
theorem dX11_checkOther_12 : decode cX11_checkOther 12 = .ok (.invokespecial 94, 3) := by decide +kernel
theorem dX11_checkOther_15 : decode cX11_checkOther 15 = .ok (.athrow, 1) := by decide +kernel
theorem dX11_checkOther_16 : decode cX11_checkOther 16 = .ok (.return_, 1) := by decide +kernel
def wp_X11_checkOther (x0 : Int32) (x1 : Int32) (S : xm_S) (g : xm_S → Prop) (Ex : String → xm_S → Prop) : Prop :=
  (¬ x0 = x1 → g S) ∧ (x0 = x1 → Ex xm_eA S)
set_option maxRecDepth 100000 in
set_option maxHeartbeats 4000000 in
theorem kp_X11_checkOther {K : xm_K} (x0 : Int32) (x1 : Int32) (S : xm_S) {g : xm_S → Prop} {Ex : String → xm_S → Prop} (C : xm_Cx K cX11_checkOther RX11 2 none rm_X11_checkOther) (N : xm_Nx K) (hg : ∀ S, g S → xm_q K none S) (hEx : ∀ X S, Ex X S → xm_x K X S)  (h1 : wp_X11_checkOther x0 x1 S g Ex) : xm_W K 0 0 0 [(0, xm_i x0), (1, xm_i x1)] [] S := by
  unfold wp_X11_checkOther at h1
  refine x_iload_n C 0 dX11_checkOther_0 rfl rfl ?_
  refine x_iload_n C 1 dX11_checkOther_1 rfl rfl ?_
  refine x_icmp_ne (tgt := 16) C dX11_checkOther_2 (by decide) (fun z9 => ?_) (fun z9 => ?_)
  · have h1 := h1.1 z9
    exact x_vret C (Nat.le_of_ble_eq_true rfl) (Nat.le_of_ble_eq_true rfl) rfl dX11_checkOther_16 (hg _ h1)
  · have h1 := h1.2 z9
    exact x_throw (text := "the other package is its own") C N th_A_in th_A_fit gw_255 gw_256 (by decide +kernel) th_A_at th_A_no th_A_ot (Nat.le_of_ble_eq_true rfl) ⟨Nat.le_of_ble_eq_true rfl, Nat.le_of_ble_eq_true rfl, (Nat.le_of_ble_eq_true rfl), (Nat.le_of_ble_eq_true rfl)⟩ dX11_checkOther_5 dX11_checkOther_8 (Or.inr ⟨dX11_checkOther_9, dX11_checkOther_12, dX11_checkOther_15⟩) (hEx _ _ h1)
theorem kp_X11_checkOther_met {x0 : Int32} {x1 : Int32} {S : xm_S} {g : xm_S → Prop} {Ex : String → xm_S → Prop}  (h1 : wp_X11_checkOther x0 x1 S g Ex) : xm_Met yX11_checkOther cX11_checkOther 2 none rm_X11_checkOther [xm_i x0, xm_i x1] S (xm_qv g) Ex :=
  xm_ofW RX11 (by decide +kernel) rfl (Nat.le_of_ble_eq_true rfl) (fun K C N hq hx hi => kp_X11_checkOther x0 x1 S C N (fun S h => by rw [hq]; exact ⟨rfl, h⟩) (fun X S h => by rw [hx]; exact h)  h1)
def rm_X11_checkOwnFeature : Room := { frames := 6, cells := 1, slots := 6, locals := 100 }
theorem dX11_checkOwnFeature_0 : decode cX11_checkOwnFeature 0 = .ok (.iload_n 0, 1) := by decide +kernel
theorem dX11_checkOwnFeature_1 : decode cX11_checkOwnFeature 1 = .ok (.iconst (-1), 1) := by decide +kernel
theorem dX11_checkOwnFeature_2 : decode cX11_checkOwnFeature 2 = .ok (.if_icmp .eq 35, 3) := by decide +kernel
theorem dX11_checkOwnFeature_5 : decode cX11_checkOwnFeature 5 = .ok (.iload_n 0, 1) := by decide +kernel
theorem dX11_checkOwnFeature_6 : decode cX11_checkOwnFeature 6 = .ok (.iconst 1, 1) := by decide +kernel
theorem dX11_checkOwnFeature_7 : decode cX11_checkOwnFeature 7 = .ok (.if_icmp .eq 30, 3) := by decide +kernel
theorem dX11_checkOwnFeature_10 : decode cX11_checkOwnFeature 10 = .ok (.iload_n 0, 1) := by decide +kernel
theorem dX11_checkOwnFeature_11 : decode cX11_checkOwnFeature 11 = .ok (.iconst 2, 1) := by decide +kernel
theorem dX11_checkOwnFeature_12 : decode cX11_checkOwnFeature 12 = .ok (.if_icmp .eq 25, 3) := by decide +kernel
theorem dX11_checkOwnFeature_15 : decode cX11_checkOwnFeature 15 = .ok (.iload_n 0, 1) := by decide +kernel
theorem dX11_checkOwnFeature_16 : decode cX11_checkOwnFeature 16 = .ok (.iconst 4, 1) := by decide +kernel
theorem dX11_checkOwnFeature_17 : decode cX11_checkOwnFeature 17 = .ok (.if_icmp .eq 20, 3) := by decide +kernel
theorem dX11_checkOwnFeature_20 : decode cX11_checkOwnFeature 20 = .ok (.iload_n 0, 1) := by decide +kernel
theorem dX11_checkOwnFeature_21 : decode cX11_checkOwnFeature 21 = .ok (.bipush 8, 2) := by decide +kernel
theorem dX11_checkOwnFeature_23 : decode cX11_checkOwnFeature 23 = .ok (.if_icmp .eq 14, 3) := by decide +kernel
theorem dX11_checkOwnFeature_26 : decode cX11_checkOwnFeature 26 = .ok (.new 90, 3) := by decide +kernel
theorem dX11_checkOwnFeature_29 : decode cX11_checkOwnFeature 29 = .ok (.dup, 1) := by decide +kernel
theorem dX11_checkOwnFeature_30 : decode cX11_checkOwnFeature 30 = .ok (.ldc_w 362, 3) := by decide +kernel
theorem dX11_checkOwnFeature_33 : decode cX11_checkOwnFeature 33 = .ok (.invokespecial 94, 3) := by decide +kernel
theorem dX11_checkOwnFeature_36 : decode cX11_checkOwnFeature 36 = .ok (.athrow, 1) := by decide +kernel
theorem dX11_checkOwnFeature_37 : decode cX11_checkOwnFeature 37 = .ok (.return_, 1) := by decide +kernel
def wp_X11_checkOwnFeature_37  (S : xm_S) (g : xm_S → Prop) (Ex : String → xm_S → Prop) : Prop :=
  g S
set_option maxRecDepth 100000 in
set_option maxHeartbeats 4000000 in
theorem kp_X11_checkOwnFeature_37 {K : xm_K}  (S : xm_S) {g : xm_S → Prop} {Ex : String → xm_S → Prop} (C : xm_Cx K cX11_checkOwnFeature RX11 1 none rm_X11_checkOwnFeature) (N : xm_Nx K) (hg : ∀ S, g S → xm_q K none S) (hEx : ∀ X S, Ex X S → xm_x K X S)  (h1 : wp_X11_checkOwnFeature_37  S g Ex) : xm_W K 0 0 37 [] [] S := by
  unfold wp_X11_checkOwnFeature_37 at h1
  exact x_vret C (Nat.le_of_ble_eq_true rfl) (Nat.le_of_ble_eq_true rfl) rfl dX11_checkOwnFeature_37 (hg _ h1)
def wp_X11_checkOwnFeature (x0 : Int32) (S : xm_S) (g : xm_S → Prop) (Ex : String → xm_S → Prop) : Prop :=
  (x0 = (-1 : Int32) → wp_X11_checkOwnFeature_37 S g Ex) ∧ (¬ x0 = (-1 : Int32) → (x0 = (1 : Int32) → wp_X11_checkOwnFeature_37 S g Ex) ∧ (¬ x0 = (1 : Int32) → (x0 = (nI 2) → wp_X11_checkOwnFeature_37 S g Ex) ∧ (¬ x0 = (nI 2) → (x0 = (nI 4) → wp_X11_checkOwnFeature_37 S g Ex) ∧ (¬ x0 = (nI 4) → (x0 = (nI 8) → wp_X11_checkOwnFeature_37 S g Ex) ∧ (¬ x0 = (nI 8) → Ex xm_eA S)))))
set_option maxRecDepth 100000 in
set_option maxHeartbeats 4000000 in
theorem kp_X11_checkOwnFeature {K : xm_K} (x0 : Int32) (S : xm_S) {g : xm_S → Prop} {Ex : String → xm_S → Prop} (C : xm_Cx K cX11_checkOwnFeature RX11 1 none rm_X11_checkOwnFeature) (N : xm_Nx K) (hg : ∀ S, g S → xm_q K none S) (hEx : ∀ X S, Ex X S → xm_x K X S)  (h1 : wp_X11_checkOwnFeature x0 S g Ex) : xm_W K 0 0 0 [(0, xm_i x0)] [] S := by
  unfold wp_X11_checkOwnFeature at h1
  refine x_iload_n C 0 dX11_checkOwnFeature_0 rfl rfl ?_
  refine x_iconst (v := (-1 : Int32)) C dX11_checkOwnFeature_1 (by decide) ?_
  refine x_icmp_eq (tgt := 37) C dX11_checkOwnFeature_2 (by decide) (fun z9 => ?_) (fun z9 => ?_)
  · have h1 := h1.1 z9
    refine x_keep (L' := []) C [] rfl ?_
    exact kp_X11_checkOwnFeature_37 S C N hg hEx  h1
  · have h1 := h1.2 z9
    refine x_iload_n C 0 dX11_checkOwnFeature_5 rfl rfl ?_
    refine x_iconst (v := (1 : Int32)) C dX11_checkOwnFeature_6 (by decide) ?_
    refine x_icmp_eq (tgt := 37) C dX11_checkOwnFeature_7 (by decide) (fun z9 => ?_) (fun z9 => ?_)
    · have h1 := h1.1 z9
      refine x_keep (L' := []) C [] rfl ?_
      exact kp_X11_checkOwnFeature_37 S C N hg hEx  h1
    · have h1 := h1.2 z9
      refine x_iload_n C 0 dX11_checkOwnFeature_10 rfl rfl ?_
      refine x_iconst (v := (nI 2)) C dX11_checkOwnFeature_11 (by decide) ?_
      refine x_icmp_eq (tgt := 37) C dX11_checkOwnFeature_12 (by decide) (fun z9 => ?_) (fun z9 => ?_)
      · have h1 := h1.1 z9
        refine x_keep (L' := []) C [] rfl ?_
        exact kp_X11_checkOwnFeature_37 S C N hg hEx  h1
      · have h1 := h1.2 z9
        refine x_iload_n C 0 dX11_checkOwnFeature_15 rfl rfl ?_
        refine x_iconst (v := (nI 4)) C dX11_checkOwnFeature_16 (by decide) ?_
        refine x_icmp_eq (tgt := 37) C dX11_checkOwnFeature_17 (by decide) (fun z9 => ?_) (fun z9 => ?_)
        · have h1 := h1.1 z9
          refine x_keep (L' := []) C [] rfl ?_
          exact kp_X11_checkOwnFeature_37 S C N hg hEx  h1
        · have h1 := h1.2 z9
          refine x_iload_n C 0 dX11_checkOwnFeature_20 rfl rfl ?_
          refine x_bipush (v := (nI 8)) C dX11_checkOwnFeature_21 (by decide) ?_
          refine x_icmp_eq (tgt := 37) C dX11_checkOwnFeature_23 (by decide) (fun z9 => ?_) (fun z9 => ?_)
          · have h1 := h1.1 z9
            refine x_keep (L' := []) C [] rfl ?_
            exact kp_X11_checkOwnFeature_37 S C N hg hEx  h1
          · have h1 := h1.2 z9
            exact x_throw (text := "the own feature is 1, 2, 4, 8 or NONE") C N th_A_in th_A_fit gw_255 gw_256 (by decide +kernel) th_A_at th_A_no th_A_ot (Nat.le_of_ble_eq_true rfl) ⟨Nat.le_of_ble_eq_true rfl, Nat.le_of_ble_eq_true rfl, (Nat.le_of_ble_eq_true rfl), (Nat.le_of_ble_eq_true rfl)⟩ dX11_checkOwnFeature_26 dX11_checkOwnFeature_29 (Or.inr ⟨dX11_checkOwnFeature_30, dX11_checkOwnFeature_33, dX11_checkOwnFeature_36⟩) (hEx _ _ h1)
theorem kp_X11_checkOwnFeature_met {x0 : Int32} {S : xm_S} {g : xm_S → Prop} {Ex : String → xm_S → Prop}  (h1 : wp_X11_checkOwnFeature x0 S g Ex) : xm_Met yX11_checkOwnFeature cX11_checkOwnFeature 1 none rm_X11_checkOwnFeature [xm_i x0] S (xm_qv g) Ex :=
  xm_ofW RX11 (by decide +kernel) rfl (Nat.le_of_ble_eq_true rfl) (fun K C N hq hx hi => kp_X11_checkOwnFeature x0 S C N (fun S h => by rw [hq]; exact ⟨rfl, h⟩) (fun X S h => by rw [hx]; exact h)  h1)
def rm_X11_checkVersion : Room := { frames := 7, cells := 2, slots := 12, locals := 120 }
theorem dX11_checkVersion_0 : decode cX11_checkVersion 0 = .ok (.iload_n 1, 1) := by decide +kernel
theorem dX11_checkVersion_1 : decode cX11_checkVersion 1 = .ok (.invokestatic 122, 3) := by decide +kernel
theorem dX11_checkVersion_4 : decode cX11_checkVersion 4 = .ok (.iload_n 2, 1) := by decide +kernel
theorem dX11_checkVersion_5 : decode cX11_checkVersion 5 = .ok (.ifCond .lt 16, 3) := by decide +kernel
theorem dX11_checkVersion_8 : decode cX11_checkVersion 8 = .ok (.iload_n 2, 1) := by decide +kernel
theorem dX11_checkVersion_9 : decode cX11_checkVersion 9 = .ok (.aload_n 0, 1) := by decide +kernel
theorem dX11_checkVersion_10 : decode cX11_checkVersion 10 = .ok (.getfield 18, 3) := by decide +kernel
theorem dX11_checkVersion_13 : decode cX11_checkVersion 13 = .ok (.iload_n 1, 1) := by decide +kernel
theorem dX11_checkVersion_14 : decode cX11_checkVersion 14 = .ok (.aaload, 1) := by decide +kernel
theorem dX11_checkVersion_15 : decode cX11_checkVersion 15 = .ok (.getfield 136, 3) := by decide +kernel
theorem dX11_checkVersion_18 : decode cX11_checkVersion 18 = .ok (.if_icmp .lt 14, 3) := by decide +kernel
theorem dX11_checkVersion_21 : decode cX11_checkVersion 21 = .ok (.new 349, 3) := by decide +kernel
theorem dX11_checkVersion_24 : decode cX11_checkVersion 24 = .ok (.dup, 1) := by decide +kernel
theorem dX11_checkVersion_25 : decode cX11_checkVersion 25 = .ok (.ldc_w 354, 3) := by decide +kernel
theorem dX11_checkVersion_28 : decode cX11_checkVersion 28 = .ok (.invokespecial 353, 3) := by decide +kernel
theorem dX11_checkVersion_31 : decode cX11_checkVersion 31 = .ok (.athrow, 1) := by decide +kernel
theorem dX11_checkVersion_32 : decode cX11_checkVersion 32 = .ok (.return_, 1) := by decide +kernel
def wp_X11_checkVersion_21 (h : Nat)  (S : xm_S) (g : xm_S → Prop) (Ex : String → xm_S → Prop) : Prop :=
  Ex xm_eI S
set_option maxRecDepth 100000 in
set_option maxHeartbeats 4000000 in
theorem kp_X11_checkVersion_21 {K : xm_K} (h : Nat)  (S : xm_S) {g : xm_S → Prop} {Ex : String → xm_S → Prop} (C : xm_Cx K cX11_checkVersion RX11 3 none rm_X11_checkVersion) (N : xm_Nx K) (hg : ∀ S, g S → xm_q K none S) (hEx : ∀ X S, Ex X S → xm_x K X S)  (h1 : wp_X11_checkVersion_21 h  S g Ex) : xm_W K 1 6 21 [] [] S := by
  unfold wp_X11_checkVersion_21 at h1
  exact x_throw (text := "no such version") C N th_I_in th_I_fit gw_253 gw_254 (by decide +kernel) th_I_at th_I_no th_I_ot (Nat.le_of_ble_eq_true rfl) ⟨Nat.le_of_ble_eq_true rfl, Nat.le_of_ble_eq_true rfl, (Nat.le_of_ble_eq_true rfl), (Nat.le_of_ble_eq_true rfl)⟩ dX11_checkVersion_21 dX11_checkVersion_24 (Or.inr ⟨dX11_checkVersion_25, dX11_checkVersion_28, dX11_checkVersion_31⟩) (hEx _ _ h1)
def wp_X11_checkVersion (h : Nat) (x1 : Int32) (x2 : Int32) (S : xm_S) (g : xm_S → Prop) (Ex : String → xm_S → Prop) : Prop :=
  wp_X11_checkPack x1 S (fun S1 => (x2 < 0 → wp_X11_checkVersion_21 h S1 g Ex) ∧ (¬ x2 < 0 → st_t S1 h = some (11, 0) ∧ ∃ n4, (st_r S1 h 1) = some n4 ∧ ∃ z7, st_t S1 n4 = some (115, z7) ∧ vp_in x1 z7 ∧ ∃ n9, (st_r S1 n4 (x1).toNatClampNeg) = some n9 ∧ st_t S1 n9 = some (5, 0) ∧ (x2 < (st_i S1 n9 2) → g S1) ∧ (¬ x2 < (st_i S1 n9 2) → wp_X11_checkVersion_21 h S1 g Ex))) Ex
set_option maxRecDepth 100000 in
set_option maxHeartbeats 4000000 in
theorem kp_X11_checkVersion {K : xm_K} (h : Nat) (x1 : Int32) (x2 : Int32) (S : xm_S) {g : xm_S → Prop} {Ex : String → xm_S → Prop} (C : xm_Cx K cX11_checkVersion RX11 3 none rm_X11_checkVersion) (N : xm_Nx K) (hg : ∀ S, g S → xm_q K none S) (hEx : ∀ X S, Ex X S → xm_x K X S)  (h1 : wp_X11_checkVersion h x1 x2 S g Ex) : xm_W K 0 0 0 [(0, xm_r (some h)), (1, xm_i x1), (2, xm_i x2)] [] S := by
  unfold wp_X11_checkVersion at h1
  refine x_iload_n C 1 dX11_checkVersion_0 rfl rfl ?_
  refine x_callS (rm' := rm_X11_checkPack) C (kp_X11_checkPack_met h1) lk_38 gw_286 rfl (Nat.le_of_ble_eq_true rfl) ⟨Nat.le_of_ble_eq_true rfl, Nat.le_of_ble_eq_true rfl, (Nat.le_of_ble_eq_true rfl), (Nat.le_of_ble_eq_true rfl)⟩ dX11_checkVersion_1 (fun X9 S9 hx9 => x_thru C N (Nat.le_of_ble_eq_true rfl) (Nat.le_of_ble_eq_true rfl) (hEx _ _ hx9)) (xm_kv (fun S1 h1 => ?_))
  refine x_iload_n C 2 dX11_checkVersion_4 rfl rfl ?_
  refine x_if_lt (tgt := 21) C dX11_checkVersion_5 (by decide) (fun z9 => ?_) (fun z9 => ?_)
  · have h1 := h1.1 z9
    refine x_keep (L' := []) C [] rfl ?_
    exact kp_X11_checkVersion_21 h S1 C N hg hEx  h1
  · have h1 := h1.2 z9
    refine x_iload_n C 2 dX11_checkVersion_8 rfl rfl ?_
    refine x_aload_n C 0 dX11_checkVersion_9 rfl rfl ?_
    obtain ⟨ht3, h1⟩ := h1
    refine x_getf_r (n := h) C rfl ht3 fd_106 (by decide) dX11_checkVersion_10 ?_
    refine x_iload_n C 1 dX11_checkVersion_13 rfl rfl ?_
    obtain ⟨n4, hr5, h1⟩ := h1
    obtain ⟨z7, ht6, h1⟩ := h1
    obtain ⟨hi8, h1⟩ := h1
    refine x_aald (n := n4) C hr5 (by decide) rfl ht6 hi8 dX11_checkVersion_14 ?_
    obtain ⟨n9, hr10, h1⟩ := h1
    obtain ⟨ht11, h1⟩ := h1
    refine x_getf_i (n := n9) C hr10 ht11 fd_119 (by decide) dX11_checkVersion_15 ?_
    refine x_icmp_lt (tgt := 32) C dX11_checkVersion_18 (by decide) (fun z9 => ?_) (fun z9 => ?_)
    · have h1 := h1.1 z9
      exact x_vret C (Nat.le_of_ble_eq_true rfl) (Nat.le_of_ble_eq_true rfl) rfl dX11_checkVersion_32 (hg _ h1)
    · have h1 := h1.2 z9
      refine x_keep (L' := []) C [] rfl ?_
      exact kp_X11_checkVersion_21 h S1 C N hg hEx  h1
theorem kp_X11_checkVersion_met {h : Nat} {x1 : Int32} {x2 : Int32} {S : xm_S} {g : xm_S → Prop} {Ex : String → xm_S → Prop}  (h1 : wp_X11_checkVersion h x1 x2 S g Ex) : xm_Met yX11_checkVersion cX11_checkVersion 3 none rm_X11_checkVersion [xm_r (some h), xm_i x1, xm_i x2] S (xm_qv g) Ex :=
  xm_ofW RX11 (by decide +kernel) rfl (Nat.le_of_ble_eq_true rfl) (fun K C N hq hx hi => kp_X11_checkVersion h x1 x2 S C N (fun S h => by rw [hq]; exact ⟨rfl, h⟩) (fun X S h => by rw [hx]; exact h)  h1)
def rm_X11_prepareSolver : Room := { frames := 6, cells := 0, slots := 0, locals := 148 }
theorem dX11_prepareSolver_0 : decode cX11_prepareSolver 0 = .ok (.aload_n 0, 1) := by decide +kernel
theorem dX11_prepareSolver_1 : decode cX11_prepareSolver 1 = .ok (.getfield 59, 3) := by decide +kernel
theorem dX11_prepareSolver_4 : decode cX11_prepareSolver 4 = .ok (.aload_n 0, 1) := by decide +kernel
theorem dX11_prepareSolver_5 : decode cX11_prepareSolver 5 = .ok (.getfield 18, 3) := by decide +kernel
theorem dX11_prepareSolver_8 : decode cX11_prepareSolver 8 = .ok (.aload_n 0, 1) := by decide +kernel
theorem dX11_prepareSolver_9 : decode cX11_prepareSolver 9 = .ok (.getfield 24, 3) := by decide +kernel
theorem dX11_prepareSolver_12 : decode cX11_prepareSolver 12 = .ok (.aload_n 0, 1) := by decide +kernel
theorem dX11_prepareSolver_13 : decode cX11_prepareSolver 13 = .ok (.getfield 28, 3) := by decide +kernel
theorem dX11_prepareSolver_16 : decode cX11_prepareSolver 16 = .ok (.iload_n 1, 1) := by decide +kernel
theorem dX11_prepareSolver_17 : decode cX11_prepareSolver 17 = .ok (.invokevirtual 378, 3) := by decide +kernel
theorem dX11_prepareSolver_20 : decode cX11_prepareSolver 20 = .ok (.aload_n 0, 1) := by decide +kernel
theorem dX11_prepareSolver_21 : decode cX11_prepareSolver 21 = .ok (.getfield 59, 3) := by decide +kernel
theorem dX11_prepareSolver_24 : decode cX11_prepareSolver 24 = .ok (.aload_n 0, 1) := by decide +kernel
theorem dX11_prepareSolver_25 : decode cX11_prepareSolver 25 = .ok (.getfield 32, 3) := by decide +kernel
theorem dX11_prepareSolver_28 : decode cX11_prepareSolver 28 = .ok (.aload_n 0, 1) := by decide +kernel
theorem dX11_prepareSolver_29 : decode cX11_prepareSolver 29 = .ok (.getfield 46, 3) := by decide +kernel
theorem dX11_prepareSolver_32 : decode cX11_prepareSolver 32 = .ok (.iload_n 1, 1) := by decide +kernel
theorem dX11_prepareSolver_33 : decode cX11_prepareSolver 33 = .ok (.aaload, 1) := by decide +kernel
theorem dX11_prepareSolver_34 : decode cX11_prepareSolver 34 = .ok (.iload_n 2, 1) := by decide +kernel
theorem dX11_prepareSolver_35 : decode cX11_prepareSolver 35 = .ok (.invokevirtual 382, 3) := by decide +kernel
theorem dX11_prepareSolver_38 : decode cX11_prepareSolver 38 = .ok (.return_, 1) := by decide +kernel
def wp_X11_prepareSolver (h : Nat) (x1 : Int32) (x2 : Int32) (S : xm_S) (g : xm_S → Prop) : Prop :=
  st_t S h = some (11, 0) ∧ ∃ n2, (st_r S h 10) = some n2 ∧ st_t S n2 = some (7, 0) ∧ wp_X7_study n2 (st_r S h 1) (st_r S h 2) (st_i S h 3) x1 S (fun S5 => st_t S5 h = some (11, 0) ∧ ∃ n8, (st_r S5 h 7) = some n8 ∧ ∃ z11, st_t S5 n8 = some (104, z11) ∧ vp_in x1 z11 ∧ ∃ n13, (st_r S5 h 10) = some n13 ∧ st_t S5 n13 = some (7, 0) ∧ wp_X7_permit n13 (st_i S5 h 4) (st_r S5 n8 (x1).toNatClampNeg) x2 S5 (fun S16 => g S16))
set_option maxRecDepth 100000 in
set_option maxHeartbeats 4000000 in
theorem kp_X11_prepareSolver {K : xm_K} (h : Nat) (x1 : Int32) (x2 : Int32) (S : xm_S) {g : xm_S → Prop} (C : xm_Cx K cX11_prepareSolver RX11 3 none rm_X11_prepareSolver) (N : xm_Nx K) (hg : ∀ S, g S → xm_q K none S)  (h1 : wp_X11_prepareSolver h x1 x2 S g) : xm_W K 0 0 0 [(0, xm_r (some h)), (1, xm_i x1), (2, xm_i x2)] [] S := by
  unfold wp_X11_prepareSolver at h1
  refine x_aload_n C 0 dX11_prepareSolver_0 rfl rfl ?_
  obtain ⟨ht1, h1⟩ := h1
  refine x_getf_r (n := h) C rfl ht1 fd_120 (by decide) dX11_prepareSolver_1 ?_
  refine x_aload_n C 0 dX11_prepareSolver_4 rfl rfl ?_
  refine x_getf_r (n := h) C rfl ht1 fd_106 (by decide) dX11_prepareSolver_5 ?_
  refine x_aload_n C 0 dX11_prepareSolver_8 rfl rfl ?_
  refine x_getf_r (n := h) C rfl ht1 fd_121 (by decide) dX11_prepareSolver_9 ?_
  refine x_aload_n C 0 dX11_prepareSolver_12 rfl rfl ?_
  refine x_getf_i (n := h) C rfl ht1 fd_116 (by decide) dX11_prepareSolver_13 ?_
  refine x_iload_n C 1 dX11_prepareSolver_16 rfl rfl ?_
  obtain ⟨n2, hr3, h1⟩ := h1
  obtain ⟨ht4, h1⟩ := h1
  refine x_callV (rm' := rm_X7_study) (n := n2) C (kp_X7_study_met h1) lk_39 gw_292 gw_293 xv_7 rfl hr3 ht4 rfl (Nat.le_of_ble_eq_true rfl) ⟨Nat.le_of_ble_eq_true rfl, Nat.le_of_ble_eq_true rfl, (Nat.le_of_ble_eq_true rfl), (Nat.le_of_ble_eq_true rfl)⟩ dX11_prepareSolver_17 xm_kx (xm_kv (fun S5 h1 => ?_))
  refine x_aload_n C 0 dX11_prepareSolver_20 rfl rfl ?_
  obtain ⟨ht7, h1⟩ := h1
  refine x_getf_r (n := h) C rfl ht7 fd_120 (by decide) dX11_prepareSolver_21 ?_
  refine x_aload_n C 0 dX11_prepareSolver_24 rfl rfl ?_
  refine x_getf_i (n := h) C rfl ht7 fd_122 (by decide) dX11_prepareSolver_25 ?_
  refine x_aload_n C 0 dX11_prepareSolver_28 rfl rfl ?_
  refine x_getf_r (n := h) C rfl ht7 fd_112 (by decide) dX11_prepareSolver_29 ?_
  refine x_iload_n C 1 dX11_prepareSolver_32 rfl rfl ?_
  obtain ⟨n8, hr9, h1⟩ := h1
  obtain ⟨z11, ht10, h1⟩ := h1
  obtain ⟨hi12, h1⟩ := h1
  refine x_aald (n := n8) C hr9 (by decide) rfl ht10 hi12 dX11_prepareSolver_33 ?_
  refine x_iload_n C 2 dX11_prepareSolver_34 rfl rfl ?_
  obtain ⟨n13, hr14, h1⟩ := h1
  obtain ⟨ht15, h1⟩ := h1
  refine x_callV (rm' := rm_X7_permit) (n := n13) C (kp_X7_permit_met h1) lk_40 gw_297 gw_298 xv_7 rfl hr14 ht15 rfl (Nat.le_of_ble_eq_true rfl) ⟨Nat.le_of_ble_eq_true rfl, Nat.le_of_ble_eq_true rfl, (Nat.le_of_ble_eq_true rfl), (Nat.le_of_ble_eq_true rfl)⟩ dX11_prepareSolver_35 xm_kx (xm_kv (fun S16 h1 => ?_))
  exact x_vret C (Nat.le_of_ble_eq_true rfl) (Nat.le_of_ble_eq_true rfl) rfl dX11_prepareSolver_38 (hg _ h1)
theorem kp_X11_prepareSolver_met {h : Nat} {x1 : Int32} {x2 : Int32} {S : xm_S} {g : xm_S → Prop}  (h1 : wp_X11_prepareSolver h x1 x2 S g) : xm_Met yX11_prepareSolver cX11_prepareSolver 3 none rm_X11_prepareSolver [xm_r (some h), xm_i x1, xm_i x2] S (xm_qv g) xm_nox :=
  xm_ofW RX11 (by decide +kernel) rfl (Nat.le_of_ble_eq_true rfl) (fun K C N hq hx hi => kp_X11_prepareSolver h x1 x2 S C N (fun S h => by rw [hq]; exact ⟨rfl, h⟩)  h1)
def rm_X11_collect : Room := { frames := 3, cells := 0, slots := 0, locals := 65 }
theorem dX11_collect_0 : decode cX11_collect 0 = .ok (.aload_n 0, 1) := by decide +kernel
theorem dX11_collect_1 : decode cX11_collect 1 = .ok (.getfield 85, 3) := by decide +kernel
theorem dX11_collect_4 : decode cX11_collect 4 = .ok (.invokevirtual 338, 3) := by decide +kernel
theorem dX11_collect_7 : decode cX11_collect 7 = .ok (.ireturn, 1) := by decide +kernel
def wp_X11_collect (h : Nat)  (S : xm_S) (g : Int32 → xm_S → Prop) : Prop :=
  st_t S h = some (11, 0) ∧ ∃ n2, (st_r S h 17) = some n2 ∧ st_t S n2 = some (2, 0) ∧ wp_X2_sweep n2 S (fun r6 S5 => g r6 S5)
set_option maxRecDepth 100000 in
set_option maxHeartbeats 4000000 in
theorem kp_X11_collect {K : xm_K} (h : Nat)  (S : xm_S) {g : Int32 → xm_S → Prop} (C : xm_Cx K cX11_collect RX11 1 (some (FieldType.int)) rm_X11_collect) (N : xm_Nx K) (hg : ∀ v S, g v S → xm_q K (some (xm_i v)) S)  (h1 : wp_X11_collect h  S g) : xm_W K 0 0 0 [(0, xm_r (some h))] [] S := by
  unfold wp_X11_collect at h1
  refine x_aload_n C 0 dX11_collect_0 rfl rfl ?_
  obtain ⟨ht1, h1⟩ := h1
  refine x_getf_r (n := h) C rfl ht1 fd_117 (by decide) dX11_collect_1 ?_
  obtain ⟨n2, hr3, h1⟩ := h1
  obtain ⟨ht4, h1⟩ := h1
  refine x_callV (rm' := rm_X2_sweep) (n := n2) C (kp_X2_sweep_met h1) lk_41 gw_301 gw_302 xv_2 rfl hr3 ht4 rfl (Nat.le_of_ble_eq_true rfl) ⟨Nat.le_of_ble_eq_true rfl, Nat.le_of_ble_eq_true rfl, (Nat.le_of_ble_eq_true rfl), (Nat.le_of_ble_eq_true rfl)⟩ dX11_collect_4 xm_kx (xm_ki (fun r6 S5 h1 => ?_))
  exact x_iret C (Nat.le_of_ble_eq_true rfl) (Nat.le_of_ble_eq_true rfl) rfl dX11_collect_7 (hg _ _ h1)
theorem kp_X11_collect_met {h : Nat}  {S : xm_S} {g : Int32 → xm_S → Prop}  (h1 : wp_X11_collect h  S g) : xm_Met yX11_collect cX11_collect 1 (some (FieldType.int)) rm_X11_collect [xm_r (some h)] S (xm_qi g) xm_nox :=
  xm_ofW RX11 (by decide +kernel) rfl (Nat.le_of_ble_eq_true rfl) (fun K C N hq hx hi => kp_X11_collect h  S C N (fun v S h => by rw [hq]; exact ⟨v, rfl, h⟩)  h1)
def rm_X11_compare : Room := { frames := 8, cells := 4, slots := 24, locals := 142 }
theorem dX11_compare_0 : decode cX11_compare 0 = .ok (.aload_n 0, 1) := by decide +kernel
theorem dX11_compare_1 : decode cX11_compare 1 = .ok (.iload_n 1, 1) := by decide +kernel
theorem dX11_compare_2 : decode cX11_compare 2 = .ok (.iload_n 2, 1) := by decide +kernel
theorem dX11_compare_3 : decode cX11_compare 3 = .ok (.invokevirtual 152, 3) := by decide +kernel
theorem dX11_compare_6 : decode cX11_compare 6 = .ok (.aload_n 0, 1) := by decide +kernel
theorem dX11_compare_7 : decode cX11_compare 7 = .ok (.iload_n 1, 1) := by decide +kernel
theorem dX11_compare_8 : decode cX11_compare 8 = .ok (.iload_n 3, 1) := by decide +kernel
theorem dX11_compare_9 : decode cX11_compare 9 = .ok (.invokevirtual 152, 3) := by decide +kernel
theorem dX11_compare_12 : decode cX11_compare 12 = .ok (.aload_n 0, 1) := by decide +kernel
theorem dX11_compare_13 : decode cX11_compare 13 = .ok (.getfield 18, 3) := by decide +kernel
theorem dX11_compare_16 : decode cX11_compare 16 = .ok (.iload_n 1, 1) := by decide +kernel
theorem dX11_compare_17 : decode cX11_compare 17 = .ok (.aaload, 1) := by decide +kernel
theorem dX11_compare_18 : decode cX11_compare 18 = .ok (.iload_n 2, 1) := by decide +kernel
theorem dX11_compare_19 : decode cX11_compare 19 = .ok (.iload_n 3, 1) := by decide +kernel
theorem dX11_compare_20 : decode cX11_compare 20 = .ok (.invokevirtual 199, 3) := by decide +kernel
theorem dX11_compare_23 : decode cX11_compare 23 = .ok (.ireturn, 1) := by decide +kernel
def wp_X11_compare (h : Nat) (x1 : Int32) (x2 : Int32) (x3 : Int32) (S : xm_S) (g : Int32 → xm_S → Prop) (Ex : String → xm_S → Prop) : Prop :=
  st_t S h = some (11, 0) ∧ wp_X11_checkVersion h x1 x2 S (fun S2 => st_t S2 h = some (11, 0) ∧ wp_X11_checkVersion h x1 x3 S2 (fun S5 => st_t S5 h = some (11, 0) ∧ ∃ n8, (st_r S5 h 1) = some n8 ∧ ∃ z11, st_t S5 n8 = some (115, z11) ∧ vp_in x1 z11 ∧ ∃ n13, (st_r S5 n8 (x1).toNatClampNeg) = some n13 ∧ st_t S5 n13 = some (5, 0) ∧ wp_X5_order n13 x2 x3 S5 (fun r17 S16 => g r17 S16)) Ex) Ex
set_option maxRecDepth 100000 in
set_option maxHeartbeats 4000000 in
theorem kp_X11_compare {K : xm_K} (h : Nat) (x1 : Int32) (x2 : Int32) (x3 : Int32) (S : xm_S) {g : Int32 → xm_S → Prop} {Ex : String → xm_S → Prop} (C : xm_Cx K cX11_compare RX11 4 (some (FieldType.int)) rm_X11_compare) (N : xm_Nx K) (hg : ∀ v S, g v S → xm_q K (some (xm_i v)) S) (hEx : ∀ X S, Ex X S → xm_x K X S)  (h1 : wp_X11_compare h x1 x2 x3 S g Ex) : xm_W K 0 0 0 [(0, xm_r (some h)), (1, xm_i x1), (2, xm_i x2), (3, xm_i x3)] [] S := by
  unfold wp_X11_compare at h1
  refine x_aload_n C 0 dX11_compare_0 rfl rfl ?_
  refine x_iload_n C 1 dX11_compare_1 rfl rfl ?_
  refine x_iload_n C 2 dX11_compare_2 rfl rfl ?_
  obtain ⟨ht1, h1⟩ := h1
  refine x_callV (rm' := rm_X11_checkVersion) (n := h) C (kp_X11_checkVersion_met h1) lk_42 gw_305 gw_306 xv_11 rfl rfl ht1 rfl (Nat.le_of_ble_eq_true rfl) ⟨Nat.le_of_ble_eq_true rfl, Nat.le_of_ble_eq_true rfl, (Nat.le_of_ble_eq_true rfl), (Nat.le_of_ble_eq_true rfl)⟩ dX11_compare_3 (fun X9 S9 hx9 => x_thru C N (Nat.le_of_ble_eq_true rfl) (Nat.le_of_ble_eq_true rfl) (hEx _ _ hx9)) (xm_kv (fun S2 h1 => ?_))
  refine x_aload_n C 0 dX11_compare_6 rfl rfl ?_
  refine x_iload_n C 1 dX11_compare_7 rfl rfl ?_
  refine x_iload_n C 3 dX11_compare_8 rfl rfl ?_
  obtain ⟨ht4, h1⟩ := h1
  refine x_callV (rm' := rm_X11_checkVersion) (n := h) C (kp_X11_checkVersion_met h1) lk_42 gw_305 gw_306 xv_11 rfl rfl ht4 rfl (Nat.le_of_ble_eq_true rfl) ⟨Nat.le_of_ble_eq_true rfl, Nat.le_of_ble_eq_true rfl, (Nat.le_of_ble_eq_true rfl), (Nat.le_of_ble_eq_true rfl)⟩ dX11_compare_9 (fun X9 S9 hx9 => x_thru C N (Nat.le_of_ble_eq_true rfl) (Nat.le_of_ble_eq_true rfl) (hEx _ _ hx9)) (xm_kv (fun S5 h1 => ?_))
  refine x_aload_n C 0 dX11_compare_12 rfl rfl ?_
  obtain ⟨ht7, h1⟩ := h1
  refine x_getf_r (n := h) C rfl ht7 fd_106 (by decide) dX11_compare_13 ?_
  refine x_iload_n C 1 dX11_compare_16 rfl rfl ?_
  obtain ⟨n8, hr9, h1⟩ := h1
  obtain ⟨z11, ht10, h1⟩ := h1
  obtain ⟨hi12, h1⟩ := h1
  refine x_aald (n := n8) C hr9 (by decide) rfl ht10 hi12 dX11_compare_17 ?_
  refine x_iload_n C 2 dX11_compare_18 rfl rfl ?_
  refine x_iload_n C 3 dX11_compare_19 rfl rfl ?_
  obtain ⟨n13, hr14, h1⟩ := h1
  obtain ⟨ht15, h1⟩ := h1
  refine x_callV (rm' := rm_X5_order) (n := n13) C (kp_X5_order_met h1) lk_43 gw_144 gw_145 xv_5 rfl hr14 ht15 rfl (Nat.le_of_ble_eq_true rfl) ⟨Nat.le_of_ble_eq_true rfl, Nat.le_of_ble_eq_true rfl, (Nat.le_of_ble_eq_true rfl), (Nat.le_of_ble_eq_true rfl)⟩ dX11_compare_20 xm_kx (xm_ki (fun r17 S16 h1 => ?_))
  exact x_iret C (Nat.le_of_ble_eq_true rfl) (Nat.le_of_ble_eq_true rfl) rfl dX11_compare_23 (hg _ _ h1)
theorem kp_X11_compare_met {h : Nat} {x1 : Int32} {x2 : Int32} {x3 : Int32} {S : xm_S} {g : Int32 → xm_S → Prop} {Ex : String → xm_S → Prop}  (h1 : wp_X11_compare h x1 x2 x3 S g Ex) : xm_Met yX11_compare cX11_compare 4 (some (FieldType.int)) rm_X11_compare [xm_r (some h), xm_i x1, xm_i x2, xm_i x3] S (xm_qi g) Ex :=
  xm_ofW RX11 (by decide +kernel) rfl (Nat.le_of_ble_eq_true rfl) (fun K C N hq hx hi => kp_X11_compare h x1 x2 x3 S C N (fun v S h => by rw [hq]; exact ⟨v, rfl, h⟩) (fun X S h => by rw [hx]; exact h)  h1)
def rm_X11_divert : Room := { frames := 7, cells := 4, slots := 24, locals := 122 }
theorem dX11_divert_0 : decode cX11_divert 0 = .ok (.iload_n 1, 1) := by decide +kernel
theorem dX11_divert_1 : decode cX11_divert 1 = .ok (.iconst (-1), 1) := by decide +kernel
theorem dX11_divert_2 : decode cX11_divert 2 = .ok (.if_icmp .eq 7, 3) := by decide +kernel
theorem dX11_divert_5 : decode cX11_divert 5 = .ok (.iload_n 1, 1) := by decide +kernel
theorem dX11_divert_6 : decode cX11_divert 6 = .ok (.invokestatic 122, 3) := by decide +kernel
theorem dX11_divert_9 : decode cX11_divert 9 = .ok (.iload_n 2, 1) := by decide +kernel
theorem dX11_divert_10 : decode cX11_divert 10 = .ok (.iconst 0, 1) := by decide +kernel
theorem dX11_divert_11 : decode cX11_divert 11 = .ok (.bipush 15, 2) := by decide +kernel
theorem dX11_divert_13 : decode cX11_divert 13 = .ok (.invokestatic 132, 3) := by decide +kernel
theorem dX11_divert_16 : decode cX11_divert 16 = .ok (.iload_n 3, 1) := by decide +kernel
theorem dX11_divert_17 : decode cX11_divert 17 = .ok (.iconst 0, 1) := by decide +kernel
theorem dX11_divert_18 : decode cX11_divert 18 = .ok (.bipush 15, 2) := by decide +kernel
theorem dX11_divert_20 : decode cX11_divert 20 = .ok (.invokestatic 132, 3) := by decide +kernel
theorem dX11_divert_23 : decode cX11_divert 23 = .ok (.iload_n 2, 1) := by decide +kernel
theorem dX11_divert_24 : decode cX11_divert 24 = .ok (.iload_n 3, 1) := by decide +kernel
theorem dX11_divert_25 : decode cX11_divert 25 = .ok (.if_icmp .ne 14, 3) := by decide +kernel
theorem dX11_divert_28 : decode cX11_divert 28 = .ok (.new 90, 3) := by decide +kernel
theorem dX11_divert_31 : decode cX11_divert 31 = .ok (.dup, 1) := by decide +kernel
theorem dX11_divert_32 : decode cX11_divert 32 = .ok (.ldc_w 290, 3) := by decide +kernel
theorem dX11_divert_35 : decode cX11_divert 35 = .ok (.invokespecial 94, 3) := by decide +kernel
theorem dX11_divert_38 : decode cX11_divert 38 = .ok (.athrow, 1) := by decide +kernel
theorem dX11_divert_39 : decode cX11_divert 39 = .ok (.aload_n 0, 1) := by decide +kernel
theorem dX11_divert_40 : decode cX11_divert 40 = .ok (.getfield 85, 3) := by decide +kernel
theorem dX11_divert_43 : decode cX11_divert 43 = .ok (.iload_n 1, 1) := by decide +kernel
theorem dX11_divert_44 : decode cX11_divert 44 = .ok (.iload_n 2, 1) := by decide +kernel
theorem dX11_divert_45 : decode cX11_divert 45 = .ok (.iload_n 3, 1) := by decide +kernel
theorem dX11_divert_46 : decode cX11_divert 46 = .ok (.invokevirtual 292, 3) := by decide +kernel
theorem dX11_divert_49 : decode cX11_divert 49 = .ok (.ireturn, 1) := by decide +kernel
def wp_X11_divert_9 (h : Nat) (x1 : Int32) (x2 : Int32) (x3 : Int32) (S : xm_S) (g : Int32 → xm_S → Prop) (Ex : String → xm_S → Prop) : Prop :=
  wp_X11_checkRange x2 (0 : Int32) (nI 15) S (fun S1 => wp_X11_checkRange x3 (0 : Int32) (nI 15) S1 (fun S3 => (¬ x2 = x3 → st_t S3 h = some (11, 0) ∧ ∃ n6, (st_r S3 h 17) = some n6 ∧ st_t S3 n6 = some (2, 0) ∧ wp_X2_setDiversion n6 x1 x2 x3 S3 (fun r10 S9 => g r10 S9)) ∧ (x2 = x3 → Ex xm_eA S3)) Ex) Ex
set_option maxRecDepth 100000 in
set_option maxHeartbeats 4000000 in
theorem kp_X11_divert_9 {K : xm_K} (h : Nat) (x1 : Int32) (x2 : Int32) (x3 : Int32) (S : xm_S) {g : Int32 → xm_S → Prop} {Ex : String → xm_S → Prop} (C : xm_Cx K cX11_divert RX11 4 (some (FieldType.int)) rm_X11_divert) (N : xm_Nx K) (hg : ∀ v S, g v S → xm_q K (some (xm_i v)) S) (hEx : ∀ X S, Ex X S → xm_x K X S)  (h1 : wp_X11_divert_9 h x1 x2 x3 S g Ex) : xm_W K 1 6 9 [(0, xm_r (some h)), (1, xm_i x1), (2, xm_i x2), (3, xm_i x3)] [] S := by
  unfold wp_X11_divert_9 at h1
  refine x_iload_n C 2 dX11_divert_9 rfl rfl ?_
  refine x_iconst (v := (0 : Int32)) C dX11_divert_10 (by decide) ?_
  refine x_bipush (v := (nI 15)) C dX11_divert_11 (by decide) ?_
  refine x_callS (rm' := rm_X11_checkRange) C (kp_X11_checkRange_met h1) lk_37 gw_280 rfl (Nat.le_of_ble_eq_true rfl) ⟨Nat.le_of_ble_eq_true rfl, Nat.le_of_ble_eq_true rfl, (Nat.le_of_ble_eq_true rfl), (Nat.le_of_ble_eq_true rfl)⟩ dX11_divert_13 (fun X9 S9 hx9 => x_thru C N (Nat.le_of_ble_eq_true rfl) (Nat.le_of_ble_eq_true rfl) (hEx _ _ hx9)) (xm_kv (fun S1 h1 => ?_))
  refine x_iload_n C 3 dX11_divert_16 rfl rfl ?_
  refine x_iconst (v := (0 : Int32)) C dX11_divert_17 (by decide) ?_
  refine x_bipush (v := (nI 15)) C dX11_divert_18 (by decide) ?_
  refine x_callS (rm' := rm_X11_checkRange) C (kp_X11_checkRange_met h1) lk_37 gw_280 rfl (Nat.le_of_ble_eq_true rfl) ⟨Nat.le_of_ble_eq_true rfl, Nat.le_of_ble_eq_true rfl, (Nat.le_of_ble_eq_true rfl), (Nat.le_of_ble_eq_true rfl)⟩ dX11_divert_20 (fun X9 S9 hx9 => x_thru C N (Nat.le_of_ble_eq_true rfl) (Nat.le_of_ble_eq_true rfl) (hEx _ _ hx9)) (xm_kv (fun S3 h1 => ?_))
  refine x_iload_n C 2 dX11_divert_23 rfl rfl ?_
  refine x_iload_n C 3 dX11_divert_24 rfl rfl ?_
  refine x_icmp_ne (tgt := 39) C dX11_divert_25 (by decide) (fun z9 => ?_) (fun z9 => ?_)
  · have h1 := h1.1 z9
    refine x_aload_n C 0 dX11_divert_39 rfl rfl ?_
    obtain ⟨ht5, h1⟩ := h1
    refine x_getf_r (n := h) C rfl ht5 fd_117 (by decide) dX11_divert_40 ?_
    refine x_iload_n C 1 dX11_divert_43 rfl rfl ?_
    refine x_iload_n C 2 dX11_divert_44 rfl rfl ?_
    refine x_iload_n C 3 dX11_divert_45 rfl rfl ?_
    obtain ⟨n6, hr7, h1⟩ := h1
    obtain ⟨ht8, h1⟩ := h1
    refine x_callV (rm' := rm_X2_setDiversion) (n := n6) C (kp_X2_setDiversion_met h1) lk_44 gw_310 gw_311 xv_2 rfl hr7 ht8 rfl (Nat.le_of_ble_eq_true rfl) ⟨Nat.le_of_ble_eq_true rfl, Nat.le_of_ble_eq_true rfl, (Nat.le_of_ble_eq_true rfl), (Nat.le_of_ble_eq_true rfl)⟩ dX11_divert_46 xm_kx (xm_ki (fun r10 S9 h1 => ?_))
    exact x_iret C (Nat.le_of_ble_eq_true rfl) (Nat.le_of_ble_eq_true rfl) rfl dX11_divert_49 (hg _ _ h1)
  · have h1 := h1.2 z9
    exact x_throw (text := "a path is diverted to another one") C N th_A_in th_A_fit gw_255 gw_256 (by decide +kernel) th_A_at th_A_no th_A_ot (Nat.le_of_ble_eq_true rfl) ⟨Nat.le_of_ble_eq_true rfl, Nat.le_of_ble_eq_true rfl, (Nat.le_of_ble_eq_true rfl), (Nat.le_of_ble_eq_true rfl)⟩ dX11_divert_28 dX11_divert_31 (Or.inr ⟨dX11_divert_32, dX11_divert_35, dX11_divert_38⟩) (hEx _ _ h1)
def wp_X11_divert (h : Nat) (x1 : Int32) (x2 : Int32) (x3 : Int32) (S : xm_S) (g : Int32 → xm_S → Prop) (Ex : String → xm_S → Prop) : Prop :=
  (x1 = (-1 : Int32) → wp_X11_divert_9 h x1 x2 x3 S g Ex) ∧ (¬ x1 = (-1 : Int32) → wp_X11_checkPack x1 S (fun S11 => wp_X11_divert_9 h x1 x2 x3 S11 g Ex) Ex)
set_option maxRecDepth 100000 in
set_option maxHeartbeats 4000000 in
theorem kp_X11_divert {K : xm_K} (h : Nat) (x1 : Int32) (x2 : Int32) (x3 : Int32) (S : xm_S) {g : Int32 → xm_S → Prop} {Ex : String → xm_S → Prop} (C : xm_Cx K cX11_divert RX11 4 (some (FieldType.int)) rm_X11_divert) (N : xm_Nx K) (hg : ∀ v S, g v S → xm_q K (some (xm_i v)) S) (hEx : ∀ X S, Ex X S → xm_x K X S)  (h1 : wp_X11_divert h x1 x2 x3 S g Ex) : xm_W K 0 0 0 [(0, xm_r (some h)), (1, xm_i x1), (2, xm_i x2), (3, xm_i x3)] [] S := by
  unfold wp_X11_divert at h1
  refine x_iload_n C 1 dX11_divert_0 rfl rfl ?_
  refine x_iconst (v := (-1 : Int32)) C dX11_divert_1 (by decide) ?_
  refine x_icmp_eq (tgt := 9) C dX11_divert_2 (by decide) (fun z9 => ?_) (fun z9 => ?_)
  · have h1 := h1.1 z9
    refine x_cs (cells' := 1) (slots' := 6) C (Nat.le_of_ble_eq_true rfl) (Nat.le_of_ble_eq_true rfl) ?_
    exact kp_X11_divert_9 h x1 x2 x3 S C N hg hEx  h1
  · have h1 := h1.2 z9
    refine x_iload_n C 1 dX11_divert_5 rfl rfl ?_
    refine x_callS (rm' := rm_X11_checkPack) C (kp_X11_checkPack_met h1) lk_38 gw_286 rfl (Nat.le_of_ble_eq_true rfl) ⟨Nat.le_of_ble_eq_true rfl, Nat.le_of_ble_eq_true rfl, (Nat.le_of_ble_eq_true rfl), (Nat.le_of_ble_eq_true rfl)⟩ dX11_divert_6 (fun X9 S9 hx9 => x_thru C N (Nat.le_of_ble_eq_true rfl) (Nat.le_of_ble_eq_true rfl) (hEx _ _ hx9)) (xm_kv (fun S11 h1 => ?_))
    exact kp_X11_divert_9 h x1 x2 x3 S11 C N hg hEx  h1
theorem kp_X11_divert_met {h : Nat} {x1 : Int32} {x2 : Int32} {x3 : Int32} {S : xm_S} {g : Int32 → xm_S → Prop} {Ex : String → xm_S → Prop}  (h1 : wp_X11_divert h x1 x2 x3 S g Ex) : xm_Met yX11_divert cX11_divert 4 (some (FieldType.int)) rm_X11_divert [xm_r (some h), xm_i x1, xm_i x2, xm_i x3] S (xm_qi g) Ex :=
  xm_ofW RX11 (by decide +kernel) rfl (Nat.le_of_ble_eq_true rfl) (fun K C N hq hx hi => kp_X11_divert h x1 x2 x3 S C N (fun v S h => by rw [hq]; exact ⟨v, rfl, h⟩) (fun X S h => by rw [hx]; exact h)  h1)
def rm_X11_edit : Room := { frames := 7, cells := 3, slots := 18, locals := 122 }
theorem dX11_edit_0 : decode cX11_edit 0 = .ok (.iload_n 1, 1) := by decide +kernel
theorem dX11_edit_1 : decode cX11_edit 1 = .ok (.iconst 0, 1) := by decide +kernel
theorem dX11_edit_2 : decode cX11_edit 2 = .ok (.bipush 15, 2) := by decide +kernel
theorem dX11_edit_4 : decode cX11_edit 4 = .ok (.invokestatic 132, 3) := by decide +kernel
theorem dX11_edit_7 : decode cX11_edit 7 = .ok (.iload_n 2, 1) := by decide +kernel
theorem dX11_edit_8 : decode cX11_edit 8 = .ok (.iconst 0, 1) := by decide +kernel
theorem dX11_edit_9 : decode cX11_edit 9 = .ok (.sipush 999, 3) := by decide +kernel
theorem dX11_edit_12 : decode cX11_edit 12 = .ok (.invokestatic 132, 3) := by decide +kernel
theorem dX11_edit_15 : decode cX11_edit 15 = .ok (.aload_n 0, 1) := by decide +kernel
theorem dX11_edit_16 : decode cX11_edit 16 = .ok (.getfield 85, 3) := by decide +kernel
theorem dX11_edit_19 : decode cX11_edit 19 = .ok (.getfield 303, 3) := by decide +kernel
theorem dX11_edit_22 : decode cX11_edit 22 = .ok (.getfield 307, 3) := by decide +kernel
theorem dX11_edit_25 : decode cX11_edit 25 = .ok (.iload_n 1, 1) := by decide +kernel
theorem dX11_edit_26 : decode cX11_edit 26 = .ok (.iaload, 1) := by decide +kernel
theorem dX11_edit_27 : decode cX11_edit 27 = .ok (.istore_n 3, 1) := by decide +kernel
theorem dX11_edit_28 : decode cX11_edit 28 = .ok (.iload_n 3, 1) := by decide +kernel
theorem dX11_edit_29 : decode cX11_edit 29 = .ok (.iconst (-1), 1) := by decide +kernel
theorem dX11_edit_30 : decode cX11_edit 30 = .ok (.if_icmp .ne 14, 3) := by decide +kernel
theorem dX11_edit_33 : decode cX11_edit 33 = .ok (.new 106, 3) := by decide +kernel
theorem dX11_edit_36 : decode cX11_edit 36 = .ok (.dup, 1) := by decide +kernel
theorem dX11_edit_37 : decode cX11_edit 37 = .ok (.ldc_w 312, 3) := by decide +kernel
theorem dX11_edit_40 : decode cX11_edit 40 = .ok (.invokespecial 110, 3) := by decide +kernel
theorem dX11_edit_43 : decode cX11_edit 43 = .ok (.athrow, 1) := by decide +kernel
theorem dX11_edit_44 : decode cX11_edit 44 = .ok (.aload_n 0, 1) := by decide +kernel
theorem dX11_edit_45 : decode cX11_edit 45 = .ok (.getfield 85, 3) := by decide +kernel
theorem dX11_edit_48 : decode cX11_edit 48 = .ok (.getfield 303, 3) := by decide +kernel
theorem dX11_edit_51 : decode cX11_edit 51 = .ok (.getfield 307, 3) := by decide +kernel
theorem dX11_edit_54 : decode cX11_edit 54 = .ok (.iload_n 1, 1) := by decide +kernel
theorem dX11_edit_55 : decode cX11_edit 55 = .ok (.iload_n 2, 1) := by decide +kernel
theorem dX11_edit_56 : decode cX11_edit 56 = .ok (.iastore, 1) := by decide +kernel
theorem dX11_edit_57 : decode cX11_edit 57 = .ok (.iload_n 3, 1) := by decide +kernel
theorem dX11_edit_58 : decode cX11_edit 58 = .ok (.ireturn, 1) := by decide +kernel
def wp_X11_edit (h : Nat) (x1 : Int32) (x2 : Int32) (S : xm_S) (g : Int32 → xm_S → Prop) (Ex : String → xm_S → Prop) : Prop :=
  wp_X11_checkRange x1 (0 : Int32) (nI 15) S (fun S1 => wp_X11_checkRange x2 (0 : Int32) (nI 999) S1 (fun S3 => st_t S3 h = some (11, 0) ∧ ∃ n6, (st_r S3 h 17) = some n6 ∧ st_t S3 n6 = some (2, 0) ∧ ∃ n9, (st_r S3 n6 0) = some n9 ∧ st_t S3 n9 = some (3, 0) ∧ ∃ n12, (st_r S3 n9 1) = some n12 ∧ ∃ z15, st_t S3 n12 = some (100, z15) ∧ vp_in x1 z15 ∧ ∀ y17, y17 = (st_i S3 n12 (x1).toNatClampNeg) → (¬ y17 = (-1 : Int32) → ∃ n19, (st_r S3 h 17) = some n19 ∧ st_t S3 n19 = some (2, 0) ∧ ∃ n22, (st_r S3 n19 0) = some n22 ∧ st_t S3 n22 = some (3, 0) ∧ ∃ n25, (st_r S3 n22 1) = some n25 ∧ ∃ z28, st_t S3 n25 = some (100, z28) ∧ vp_in x1 z28 ∧ ∀ S30, S30 = st_pi S3 n25 (x1).toNatClampNeg x2 → g y17 S30) ∧ (y17 = (-1 : Int32) → Ex xm_eS S3)) Ex) Ex
set_option maxRecDepth 100000 in
set_option maxHeartbeats 4000000 in
theorem kp_X11_edit {K : xm_K} (h : Nat) (x1 : Int32) (x2 : Int32) (S : xm_S) {g : Int32 → xm_S → Prop} {Ex : String → xm_S → Prop} (C : xm_Cx K cX11_edit RX11 4 (some (FieldType.int)) rm_X11_edit) (N : xm_Nx K) (hg : ∀ v S, g v S → xm_q K (some (xm_i v)) S) (hEx : ∀ X S, Ex X S → xm_x K X S)  (h1 : wp_X11_edit h x1 x2 S g Ex) : xm_W K 0 0 0 [(0, xm_r (some h)), (1, xm_i x1), (2, xm_i x2)] [] S := by
  unfold wp_X11_edit at h1
  refine x_iload_n C 1 dX11_edit_0 rfl rfl ?_
  refine x_iconst (v := (0 : Int32)) C dX11_edit_1 (by decide) ?_
  refine x_bipush (v := (nI 15)) C dX11_edit_2 (by decide) ?_
  refine x_callS (rm' := rm_X11_checkRange) C (kp_X11_checkRange_met h1) lk_37 gw_280 rfl (Nat.le_of_ble_eq_true rfl) ⟨Nat.le_of_ble_eq_true rfl, Nat.le_of_ble_eq_true rfl, (Nat.le_of_ble_eq_true rfl), (Nat.le_of_ble_eq_true rfl)⟩ dX11_edit_4 (fun X9 S9 hx9 => x_thru C N (Nat.le_of_ble_eq_true rfl) (Nat.le_of_ble_eq_true rfl) (hEx _ _ hx9)) (xm_kv (fun S1 h1 => ?_))
  refine x_iload_n C 2 dX11_edit_7 rfl rfl ?_
  refine x_iconst (v := (0 : Int32)) C dX11_edit_8 (by decide) ?_
  refine x_sipush (v := (nI 999)) C dX11_edit_9 (by decide) ?_
  refine x_callS (rm' := rm_X11_checkRange) C (kp_X11_checkRange_met h1) lk_37 gw_280 rfl (Nat.le_of_ble_eq_true rfl) ⟨Nat.le_of_ble_eq_true rfl, Nat.le_of_ble_eq_true rfl, (Nat.le_of_ble_eq_true rfl), (Nat.le_of_ble_eq_true rfl)⟩ dX11_edit_12 (fun X9 S9 hx9 => x_thru C N (Nat.le_of_ble_eq_true rfl) (Nat.le_of_ble_eq_true rfl) (hEx _ _ hx9)) (xm_kv (fun S3 h1 => ?_))
  refine x_aload_n C 0 dX11_edit_15 rfl rfl ?_
  obtain ⟨ht5, h1⟩ := h1
  refine x_getf_r (n := h) C rfl ht5 fd_117 (by decide) dX11_edit_16 ?_
  obtain ⟨n6, hr7, h1⟩ := h1
  obtain ⟨ht8, h1⟩ := h1
  refine x_getf_r (n := n6) C hr7 ht8 fd_123 (by decide) dX11_edit_19 ?_
  obtain ⟨n9, hr10, h1⟩ := h1
  obtain ⟨ht11, h1⟩ := h1
  refine x_getf_r (n := n9) C hr10 ht11 fd_124 (by decide) dX11_edit_22 ?_
  refine x_iload_n C 1 dX11_edit_25 rfl rfl ?_
  obtain ⟨n12, hr13, h1⟩ := h1
  obtain ⟨z15, ht14, h1⟩ := h1
  obtain ⟨hi16, h1⟩ := h1
  refine x_iald (n := n12) C hr13 ht14 hi16 dX11_edit_26 ?_
  refine x_topi (fun y17 e18 => ?_)
  have h1 := h1 y17 e18
  refine x_istore_n (L' := [(3, xm_i y17), (0, xm_r (some h)), (1, xm_i x1), (2, xm_i x2)]) C dX11_edit_27 rfl (by decide) rfl ?_
  refine x_iload_n C 0 dX11_edit_28 rfl rfl ?_
  refine x_iconst (v := (-1 : Int32)) C dX11_edit_29 (by decide) ?_
  refine x_icmp_ne (tgt := 44) C dX11_edit_30 (by decide) (fun z9 => ?_) (fun z9 => ?_)
  · have h1 := h1.1 z9
    refine x_aload_n C 1 dX11_edit_44 rfl rfl ?_
    refine x_getf_r (n := h) C rfl ht5 fd_117 (by decide) dX11_edit_45 ?_
    obtain ⟨n19, hr20, h1⟩ := h1
    obtain ⟨ht21, h1⟩ := h1
    refine x_getf_r (n := n19) C hr20 ht21 fd_123 (by decide) dX11_edit_48 ?_
    obtain ⟨n22, hr23, h1⟩ := h1
    obtain ⟨ht24, h1⟩ := h1
    refine x_getf_r (n := n22) C hr23 ht24 fd_124 (by decide) dX11_edit_51 ?_
    refine x_iload_n C 2 dX11_edit_54 rfl rfl ?_
    refine x_iload_n C 3 dX11_edit_55 rfl rfl ?_
    obtain ⟨n25, hr26, h1⟩ := h1
    obtain ⟨z28, ht27, h1⟩ := h1
    obtain ⟨hi29, h1⟩ := h1
    refine x_iast (n := n25) C hr26 ht27 hi29 dX11_edit_56 ?_
    refine x_topS (fun S30 e31 => ?_)
    have h1 := h1 S30 e31
    refine x_iload_n C 0 dX11_edit_57 rfl rfl ?_
    exact x_iret C (Nat.le_of_ble_eq_true rfl) (Nat.le_of_ble_eq_true rfl) rfl dX11_edit_58 (hg _ _ h1)
  · have h1 := h1.2 z9
    exact x_throw (text := "the path has nothing") C N th_S_in th_S_fit gw_257 gw_258 (by decide +kernel) th_S_at th_S_no th_S_ot (Nat.le_of_ble_eq_true rfl) ⟨Nat.le_of_ble_eq_true rfl, Nat.le_of_ble_eq_true rfl, (Nat.le_of_ble_eq_true rfl), (Nat.le_of_ble_eq_true rfl)⟩ dX11_edit_33 dX11_edit_36 (Or.inr ⟨dX11_edit_37, dX11_edit_40, dX11_edit_43⟩) (hEx _ _ h1)
theorem kp_X11_edit_met {h : Nat} {x1 : Int32} {x2 : Int32} {S : xm_S} {g : Int32 → xm_S → Prop} {Ex : String → xm_S → Prop}  (h1 : wp_X11_edit h x1 x2 S g Ex) : xm_Met yX11_edit cX11_edit 4 (some (FieldType.int)) rm_X11_edit [xm_r (some h), xm_i x1, xm_i x2] S (xm_qi g) Ex :=
  xm_ofW RX11 (by decide +kernel) rfl (Nat.le_of_ble_eq_true rfl) (fun K C N hq hx hi => kp_X11_edit h x1 x2 S C N (fun v S h => by rw [hq]; exact ⟨v, rfl, h⟩) (fun X S h => by rw [hx]; exact h)  h1)
def rm_X11_fetch : Room := { frames := 8, cells := 2, slots := 12, locals := 142 }
theorem dX11_fetch_0 : decode cX11_fetch 0 = .ok (.aload_n 0, 1) := by decide +kernel
theorem dX11_fetch_1 : decode cX11_fetch 1 = .ok (.iload_n 1, 1) := by decide +kernel
theorem dX11_fetch_2 : decode cX11_fetch 2 = .ok (.iload_n 2, 1) := by decide +kernel
theorem dX11_fetch_3 : decode cX11_fetch 3 = .ok (.invokevirtual 152, 3) := by decide +kernel
theorem dX11_fetch_6 : decode cX11_fetch 6 = .ok (.aload_n 0, 1) := by decide +kernel
theorem dX11_fetch_7 : decode cX11_fetch 7 = .ok (.getfield 18, 3) := by decide +kernel
theorem dX11_fetch_10 : decode cX11_fetch 10 = .ok (.iload_n 1, 1) := by decide +kernel
theorem dX11_fetch_11 : decode cX11_fetch 11 = .ok (.aaload, 1) := by decide +kernel
theorem dX11_fetch_12 : decode cX11_fetch 12 = .ok (.getfield 143, 3) := by decide +kernel
theorem dX11_fetch_15 : decode cX11_fetch 15 = .ok (.iload_n 2, 1) := by decide +kernel
theorem dX11_fetch_16 : decode cX11_fetch 16 = .ok (.aaload, 1) := by decide +kernel
theorem dX11_fetch_17 : decode cX11_fetch 17 = .ok (.astore_n 3, 1) := by decide +kernel
theorem dX11_fetch_18 : decode cX11_fetch 18 = .ok (.aload_n 3, 1) := by decide +kernel
theorem dX11_fetch_19 : decode cX11_fetch 19 = .ok (.getfield 271, 3) := by decide +kernel
theorem dX11_fetch_22 : decode cX11_fetch 22 = .ok (.ifCond .eq 5, 3) := by decide +kernel
theorem dX11_fetch_25 : decode cX11_fetch 25 = .ok (.iconst 3, 1) := by decide +kernel
theorem dX11_fetch_26 : decode cX11_fetch 26 = .ok (.ireturn, 1) := by decide +kernel
theorem dX11_fetch_27 : decode cX11_fetch 27 = .ok (.iconst 0, 1) := by decide +kernel
theorem dX11_fetch_28 : decode cX11_fetch 28 = .ok (.istore 4, 2) := by decide +kernel
theorem dX11_fetch_30 : decode cX11_fetch 30 = .ok (.iload 4, 2) := by decide +kernel
theorem dX11_fetch_32 : decode cX11_fetch 32 = .ok (.iconst 3, 1) := by decide +kernel
theorem dX11_fetch_33 : decode cX11_fetch 33 = .ok (.if_icmp .ge 54, 3) := by decide +kernel
theorem dX11_fetch_36 : decode cX11_fetch 36 = .ok (.aload_n 0, 1) := by decide +kernel
theorem dX11_fetch_37 : decode cX11_fetch 37 = .ok (.getfield 75, 3) := by decide +kernel
theorem dX11_fetch_40 : decode cX11_fetch 40 = .ok (.iload 4, 2) := by decide +kernel
theorem dX11_fetch_42 : decode cX11_fetch 42 = .ok (.baload, 1) := by decide +kernel
theorem dX11_fetch_43 : decode cX11_fetch 43 = .ok (.ifCond .eq 6, 3) := by decide +kernel
theorem dX11_fetch_46 : decode cX11_fetch 46 = .ok (.goto 35, 3) := by decide +kernel
theorem dX11_fetch_49 : decode cX11_fetch 49 = .ok (.aload_n 3, 1) := by decide +kernel
theorem dX11_fetch_50 : decode cX11_fetch 50 = .ok (.iload 4, 2) := by decide +kernel
theorem dX11_fetch_52 : decode cX11_fetch 52 = .ok (.invokevirtual 265, 3) := by decide +kernel
theorem dX11_fetch_55 : decode cX11_fetch 55 = .ok (.aload_n 3, 1) := by decide +kernel
theorem dX11_fetch_56 : decode cX11_fetch 56 = .ok (.getfield 274, 3) := by decide +kernel
theorem dX11_fetch_59 : decode cX11_fetch 59 = .ok (.if_icmp .ne 11, 3) := by decide +kernel
theorem dX11_fetch_62 : decode cX11_fetch 62 = .ok (.aload_n 3, 1) := by decide +kernel
theorem dX11_fetch_63 : decode cX11_fetch 63 = .ok (.iconst 1, 1) := by decide +kernel
theorem dX11_fetch_64 : decode cX11_fetch 64 = .ok (.putfield 271, 3) := by decide +kernel
theorem dX11_fetch_67 : decode cX11_fetch 67 = .ok (.iload 4, 2) := by decide +kernel
theorem dX11_fetch_69 : decode cX11_fetch 69 = .ok (.ireturn, 1) := by decide +kernel
theorem dX11_fetch_70 : decode cX11_fetch 70 = .ok (.aload_n 0, 1) := by decide +kernel
theorem dX11_fetch_71 : decode cX11_fetch 71 = .ok (.getfield 78, 3) := by decide +kernel
theorem dX11_fetch_74 : decode cX11_fetch 74 = .ok (.iload 4, 2) := by decide +kernel
theorem dX11_fetch_76 : decode cX11_fetch 76 = .ok (.dup2, 1) := by decide +kernel
theorem dX11_fetch_77 : decode cX11_fetch 77 = .ok (.iaload, 1) := by decide +kernel
theorem dX11_fetch_78 : decode cX11_fetch 78 = .ok (.iconst 1, 1) := by decide +kernel
theorem dX11_fetch_79 : decode cX11_fetch 79 = .ok (.iadd, 1) := by decide +kernel
theorem dX11_fetch_80 : decode cX11_fetch 80 = .ok (.iastore, 1) := by decide +kernel
theorem dX11_fetch_81 : decode cX11_fetch 81 = .ok (.iinc 4 1, 3) := by decide +kernel
theorem dX11_fetch_84 : decode cX11_fetch 84 = .ok (.goto (-54), 3) := by decide +kernel
theorem dX11_fetch_87 : decode cX11_fetch 87 = .ok (.iconst (-1), 1) := by decide +kernel
theorem dX11_fetch_88 : decode cX11_fetch 88 = .ok (.ireturn, 1) := by decide +kernel
def wp_X11_fetch_81 (h : Nat) (x3 : Option Nat) (x4 : Int32) (S : xm_S) (g : Int32 → xm_S → Prop) (Ex : String → xm_S → Prop) (Z30 : Option Nat → Int32 → xm_S → Prop) : Prop :=
  ∀ y1, y1 = (x4 + (1 : Int32)) → Z30 x3 y1 S
set_option maxRecDepth 100000 in
set_option maxHeartbeats 4000000 in
theorem kp_X11_fetch_81 {K : xm_K} (h : Nat) (x3 : Option Nat) (x4 : Int32) (S : xm_S) {g : Int32 → xm_S → Prop} {Ex : String → xm_S → Prop} {Z30 : Option Nat → Int32 → xm_S → Prop} (C : xm_Cx K cX11_fetch RX11 5 (some (FieldType.int)) rm_X11_fetch) (N : xm_Nx K) (hg : ∀ v S, g v S → xm_q K (some (xm_i v)) S) (hEx : ∀ X S, Ex X S → xm_x K X S) (hZ30 : ∀ x3 x4 S, Z30 x3 x4 S → xm_W K 2 12 30 [(0, xm_r (some h)), (3, xm_r x3), (4, xm_i x4)] [] S) (h1 : wp_X11_fetch_81 h x3 x4 S g Ex Z30) : xm_W K 2 12 81 [(0, xm_r (some h)), (3, xm_r x3), (4, xm_i x4)] [] S := by
  unfold wp_X11_fetch_81 at h1
  obtain ⟨y1, e2⟩ : ∃ y1, y1 = (x4 + (1 : Int32)) := ⟨_, rfl⟩
  have h1 := h1 y1 e2
  refine x_iinc (v := y1) (L' := [(4, xm_i y1), (0, xm_r (some h)), (3, xm_r x3)]) C 2 dX11_fetch_81 rfl (by rw [e2]; rfl) (by decide) rfl ?_
  refine x_goto (tgt := 30) C dX11_fetch_84 (by decide) ?_
  refine x_keep (L' := [(0, xm_r (some h)), (3, xm_r x3), (4, xm_i y1)]) C [1, 2, 0] rfl ?_
  exact hZ30 x3 y1 S h1
def wp_X11_fetch_30B (h : Nat) (x3 : Option Nat) (x4 : Int32) (S : xm_S) (g : Int32 → xm_S → Prop) (Ex : String → xm_S → Prop) (Z30 : Option Nat → Int32 → xm_S → Prop) : Prop :=
  ((nI 3) ≤ x4 → g (-1 : Int32) S) ∧ (¬ (nI 3) ≤ x4 → st_t S h = some (11, 0) ∧ ∃ n4, (st_r S h 15) = some n4 ∧ ∃ z7, st_t S n4 = some (101, z7) ∧ vp_in x4 z7 ∧ ((st_i S n4 (x4).toNatClampNeg) = 0 → ∃ n9, x3 = some n9 ∧ st_t S n9 = some (10, 0) ∧ wp_X10_givenBy n9 x4 S (fun r13 S12 => ∃ n14, x3 = some n14 ∧ st_t S12 n14 = some (10, 0) ∧ (¬ r13 = (st_i S12 n14 3) → st_t S12 h = some (11, 0) ∧ ∃ n18, (st_r S12 h 16) = some n18 ∧ ∃ z21, st_t S12 n18 = some (100, z21) ∧ vp_in x4 z21 ∧ ∃ n23, (st_r S12 h 16) = some n23 ∧ ∃ z26, st_t S12 n23 = some (100, z26) ∧ vp_in x4 z26 ∧ ∀ S28, S28 = st_pi S12 n23 (x4).toNatClampNeg ((st_i S12 n18 (x4).toNatClampNeg) + (1 : Int32)) → wp_X11_fetch_81 h x3 x4 S28 g Ex Z30) ∧ (r13 = (st_i S12 n14 3) → ∃ n30, x3 = some n30 ∧ st_t S12 n30 = some (10, 0) ∧ ∀ S33, S33 = st_pi S12 n30 5 (1 : Int32) → g x4 S33))) ∧ (¬ (st_i S n4 (x4).toNatClampNeg) = 0 → wp_X11_fetch_81 h x3 x4 S g Ex Z30))
def wp_X11_fetch_30 (h : Nat) (x3 : Option Nat) (x4 : Int32) (S : xm_S) (g : Int32 → xm_S → Prop) (Ex : String → xm_S → Prop) : Prop :=
  ∀ Z30 : Option Nat → Int32 → xm_S → Prop, (∀ x3 x4 S, wp_X11_fetch_30B h x3 x4 S g Ex Z30 → Z30 x3 x4 S) → Z30 x3 x4 S
set_option maxRecDepth 100000 in
set_option maxHeartbeats 4000000 in
theorem kp_X11_fetch_30B {K : xm_K} (h : Nat) (x3 : Option Nat) (x4 : Int32) (S : xm_S) {g : Int32 → xm_S → Prop} {Ex : String → xm_S → Prop} {Z30 : Option Nat → Int32 → xm_S → Prop} (C : xm_Cx K cX11_fetch RX11 5 (some (FieldType.int)) rm_X11_fetch) (N : xm_Nx K) (hg : ∀ v S, g v S → xm_q K (some (xm_i v)) S) (hEx : ∀ X S, Ex X S → xm_x K X S) (hZ30 : ∀ x3 x4 S, Z30 x3 x4 S → xm_W K 2 12 30 [(0, xm_r (some h)), (3, xm_r x3), (4, xm_i x4)] [] S) (h1 : wp_X11_fetch_30B h x3 x4 S g Ex Z30) : xm_W K 2 12 30 [(0, xm_r (some h)), (3, xm_r x3), (4, xm_i x4)] [] S := by
  unfold wp_X11_fetch_30B at h1
  refine x_iload C 2 dX11_fetch_30 rfl ?_
  refine x_iconst (v := (nI 3)) C dX11_fetch_32 (by decide) ?_
  refine x_icmp_ge (tgt := 87) C dX11_fetch_33 (by decide) (fun z9 => ?_) (fun z9 => ?_)
  · have h1 := h1.1 z9
    refine x_iconst (v := (-1 : Int32)) C dX11_fetch_87 (by decide) ?_
    exact x_iret C (Nat.le_of_ble_eq_true rfl) (Nat.le_of_ble_eq_true rfl) rfl dX11_fetch_88 (hg _ _ h1)
  · have h1 := h1.2 z9
    refine x_aload_n C 0 dX11_fetch_36 rfl rfl ?_
    obtain ⟨ht3, h1⟩ := h1
    refine x_getf_r (n := h) C rfl ht3 fd_125 (by decide) dX11_fetch_37 ?_
    refine x_iload C 2 dX11_fetch_40 rfl ?_
    obtain ⟨n4, hr5, h1⟩ := h1
    obtain ⟨z7, ht6, h1⟩ := h1
    obtain ⟨hi8, h1⟩ := h1
    refine x_zald (n := n4) C hr5 ht6 hi8 dX11_fetch_42 ?_
    refine x_if_eq (tgt := 49) C dX11_fetch_43 (by decide) (fun z9 => ?_) (fun z9 => ?_)
    · have h1 := h1.1 z9
      refine x_aload_n C 1 dX11_fetch_49 rfl rfl ?_
      refine x_iload C 2 dX11_fetch_50 rfl ?_
      obtain ⟨n9, hr10, h1⟩ := h1
      obtain ⟨ht11, h1⟩ := h1
      refine x_callV (rm' := rm_X10_givenBy) (n := n9) C (kp_X10_givenBy_met h1) lk_45 gw_317 gw_318 xv_10 rfl hr10 ht11 rfl (Nat.le_of_ble_eq_true rfl) ⟨Nat.le_of_ble_eq_true rfl, Nat.le_of_ble_eq_true rfl, (Nat.le_of_ble_eq_true rfl), (Nat.le_of_ble_eq_true rfl)⟩ dX11_fetch_52 xm_kx (xm_ki (fun r13 S12 h1 => ?_))
      refine x_aload_n C 1 dX11_fetch_55 rfl rfl ?_
      obtain ⟨n14, hr15, h1⟩ := h1
      obtain ⟨ht16, h1⟩ := h1
      refine x_getf_i (n := n14) C hr15 ht16 fd_126 (by decide) dX11_fetch_56 ?_
      refine x_icmp_ne (tgt := 70) C dX11_fetch_59 (by decide) (fun z9 => ?_) (fun z9 => ?_)
      · have h1 := h1.1 z9
        refine x_aload_n C 0 dX11_fetch_70 rfl rfl ?_
        obtain ⟨ht17, h1⟩ := h1
        refine x_getf_r (n := h) C rfl ht17 fd_127 (by decide) dX11_fetch_71 ?_
        refine x_iload C 2 dX11_fetch_74 rfl ?_
        refine x_dup2_ir C dX11_fetch_76 ?_
        obtain ⟨n18, hr19, h1⟩ := h1
        obtain ⟨z21, ht20, h1⟩ := h1
        obtain ⟨hi22, h1⟩ := h1
        refine x_iald (n := n18) C hr19 ht20 hi22 dX11_fetch_77 ?_
        refine x_iconst (v := (1 : Int32)) C dX11_fetch_78 (by decide) ?_
        refine x_iadd C dX11_fetch_79 ?_
        obtain ⟨n23, hr24, h1⟩ := h1
        obtain ⟨z26, ht25, h1⟩ := h1
        obtain ⟨hi27, h1⟩ := h1
        refine x_iast (n := n23) C hr24 ht25 hi27 dX11_fetch_80 ?_
        refine x_topS (fun S28 e29 => ?_)
        have h1 := h1 S28 e29
        exact kp_X11_fetch_81 h x3 x4 S28 C N hg hEx hZ30 h1
      · have h1 := h1.2 z9
        refine x_aload_n C 1 dX11_fetch_62 rfl rfl ?_
        refine x_iconst (v := (1 : Int32)) C dX11_fetch_63 (by decide) ?_
        obtain ⟨n30, hr31, h1⟩ := h1
        obtain ⟨ht32, h1⟩ := h1
        refine x_putf_i (n := n30) C hr31 ht32 fd_128 xc_10 (by decide) rfl (xm_nz (by decide)) dX11_fetch_64 ?_
        refine x_topS (fun S33 e34 => ?_)
        have h1 := h1 S33 e34
        refine x_iload C 2 dX11_fetch_67 rfl ?_
        exact x_iret C (Nat.le_of_ble_eq_true rfl) (Nat.le_of_ble_eq_true rfl) rfl dX11_fetch_69 (hg _ _ h1)
    · have h1 := h1.2 z9
      refine x_goto (tgt := 81) C dX11_fetch_46 (by decide) ?_
      exact kp_X11_fetch_81 h x3 x4 S C N hg hEx hZ30 h1
theorem kp_X11_fetch_30 {K : xm_K} (h : Nat) (x3 : Option Nat) (x4 : Int32) (S : xm_S) {g : Int32 → xm_S → Prop} {Ex : String → xm_S → Prop} (C : xm_Cx K cX11_fetch RX11 5 (some (FieldType.int)) rm_X11_fetch) (N : xm_Nx K) (hg : ∀ v S, g v S → xm_q K (some (xm_i v)) S) (hEx : ∀ X S, Ex X S → xm_x K X S)  (h1 : wp_X11_fetch_30 h x3 x4 S g Ex) : xm_W K 2 12 30 [(0, xm_r (some h)), (3, xm_r x3), (4, xm_i x4)] [] S :=
  h1 (fun x3 x4 S => xm_W K 2 12 30 [(0, xm_r (some h)), (3, xm_r x3), (4, xm_i x4)] [] S) (fun x3 x4 S hb => kp_X11_fetch_30B h x3 x4 S C N hg hEx (fun x3 x4 S hz => hz) hb)
def wp_X11_fetch (h : Nat) (x1 : Int32) (x2 : Int32) (S : xm_S) (g : Int32 → xm_S → Prop) (Ex : String → xm_S → Prop) : Prop :=
  st_t S h = some (11, 0) ∧ wp_X11_checkVersion h x1 x2 S (fun S36 => st_t S36 h = some (11, 0) ∧ ∃ n39, (st_r S36 h 1) = some n39 ∧ ∃ z42, st_t S36 n39 = some (115, z42) ∧ vp_in x1 z42 ∧ ∃ n44, (st_r S36 n39 (x1).toNatClampNeg) = some n44 ∧ st_t S36 n44 = some (5, 0) ∧ ∃ n47, (st_r S36 n44 1) = some n47 ∧ ∃ z50, st_t S36 n47 = some (120, z50) ∧ vp_in x2 z50 ∧ ∃ n52, (st_r S36 n47 (x2).toNatClampNeg) = some n52 ∧ st_t S36 n52 = some (10, 0) ∧ ((st_i S36 n52 5) = 0 → wp_X11_fetch_30 h (st_r S36 n47 (x2).toNatClampNeg) (0 : Int32) S36 g Ex) ∧ (¬ (st_i S36 n52 5) = 0 → g (nI 3) S36)) Ex
set_option maxRecDepth 100000 in
set_option maxHeartbeats 4000000 in
theorem kp_X11_fetch {K : xm_K} (h : Nat) (x1 : Int32) (x2 : Int32) (S : xm_S) {g : Int32 → xm_S → Prop} {Ex : String → xm_S → Prop} (C : xm_Cx K cX11_fetch RX11 5 (some (FieldType.int)) rm_X11_fetch) (N : xm_Nx K) (hg : ∀ v S, g v S → xm_q K (some (xm_i v)) S) (hEx : ∀ X S, Ex X S → xm_x K X S)  (h1 : wp_X11_fetch h x1 x2 S g Ex) : xm_W K 0 0 0 [(0, xm_r (some h)), (1, xm_i x1), (2, xm_i x2)] [] S := by
  unfold wp_X11_fetch at h1
  refine x_aload_n C 0 dX11_fetch_0 rfl rfl ?_
  refine x_iload_n C 1 dX11_fetch_1 rfl rfl ?_
  refine x_iload_n C 2 dX11_fetch_2 rfl rfl ?_
  obtain ⟨ht35, h1⟩ := h1
  refine x_callV (rm' := rm_X11_checkVersion) (n := h) C (kp_X11_checkVersion_met h1) lk_42 gw_305 gw_306 xv_11 rfl rfl ht35 rfl (Nat.le_of_ble_eq_true rfl) ⟨Nat.le_of_ble_eq_true rfl, Nat.le_of_ble_eq_true rfl, (Nat.le_of_ble_eq_true rfl), (Nat.le_of_ble_eq_true rfl)⟩ dX11_fetch_3 (fun X9 S9 hx9 => x_thru C N (Nat.le_of_ble_eq_true rfl) (Nat.le_of_ble_eq_true rfl) (hEx _ _ hx9)) (xm_kv (fun S36 h1 => ?_))
  refine x_aload_n C 0 dX11_fetch_6 rfl rfl ?_
  obtain ⟨ht38, h1⟩ := h1
  refine x_getf_r (n := h) C rfl ht38 fd_106 (by decide) dX11_fetch_7 ?_
  refine x_iload_n C 1 dX11_fetch_10 rfl rfl ?_
  obtain ⟨n39, hr40, h1⟩ := h1
  obtain ⟨z42, ht41, h1⟩ := h1
  obtain ⟨hi43, h1⟩ := h1
  refine x_aald (n := n39) C hr40 (by decide) rfl ht41 hi43 dX11_fetch_11 ?_
  obtain ⟨n44, hr45, h1⟩ := h1
  obtain ⟨ht46, h1⟩ := h1
  refine x_getf_r (n := n44) C hr45 ht46 fd_107 (by decide) dX11_fetch_12 ?_
  refine x_iload_n C 2 dX11_fetch_15 rfl rfl ?_
  obtain ⟨n47, hr48, h1⟩ := h1
  obtain ⟨z50, ht49, h1⟩ := h1
  obtain ⟨hi51, h1⟩ := h1
  refine x_aald (n := n47) C hr48 (by decide) rfl ht49 hi51 dX11_fetch_16 ?_
  refine x_astore_n (L' := [(3, xm_r (st_r S36 n47 (x2).toNatClampNeg)), (0, xm_r (some h)), (1, xm_i x1), (2, xm_i x2)]) C dX11_fetch_17 rfl (by decide) rfl ?_
  refine x_aload_n C 0 dX11_fetch_18 rfl rfl ?_
  obtain ⟨n52, hr53, h1⟩ := h1
  obtain ⟨ht54, h1⟩ := h1
  refine x_getf_i (n := n52) C hr53 ht54 fd_128 (by decide) dX11_fetch_19 ?_
  refine x_if_eq (tgt := 27) C dX11_fetch_22 (by decide) (fun z9 => ?_) (fun z9 => ?_)
  · have h1 := h1.1 z9
    refine x_iconst (v := (0 : Int32)) C dX11_fetch_27 (by decide) ?_
    refine x_istore (L' := [(4, xm_i (0 : Int32)), (3, xm_r (st_r S36 n47 (x2).toNatClampNeg)), (0, xm_r (some h)), (1, xm_i x1), (2, xm_i x2)]) C dX11_fetch_28 (by decide) rfl ?_
    refine x_keep (L' := [(0, xm_r (some h)), (3, xm_r (st_r S36 n47 (x2).toNatClampNeg)), (4, xm_i (0 : Int32))]) C [2, 1, 0] rfl ?_
    exact kp_X11_fetch_30 h (st_r S36 n47 (x2).toNatClampNeg) (0 : Int32) S36 C N hg hEx  h1
  · have h1 := h1.2 z9
    refine x_iconst (v := (nI 3)) C dX11_fetch_25 (by decide) ?_
    exact x_iret C (Nat.le_of_ble_eq_true rfl) (Nat.le_of_ble_eq_true rfl) rfl dX11_fetch_26 (hg _ _ h1)
theorem kp_X11_fetch_met {h : Nat} {x1 : Int32} {x2 : Int32} {S : xm_S} {g : Int32 → xm_S → Prop} {Ex : String → xm_S → Prop}  (h1 : wp_X11_fetch h x1 x2 S g Ex) : xm_Met yX11_fetch cX11_fetch 5 (some (FieldType.int)) rm_X11_fetch [xm_r (some h), xm_i x1, xm_i x2] S (xm_qi g) Ex :=
  xm_ofW RX11 (by decide +kernel) rfl (Nat.le_of_ble_eq_true rfl) (fun K C N hq hx hi => kp_X11_fetch h x1 x2 S C N (fun v S h => by rw [hq]; exact ⟨v, rfl, h⟩) (fun X S h => by rw [hx]; exact h)  h1)
def rm_X11_file : Room := { frames := 8, cells := 5, slots := 30, locals := 142 }
theorem dX11_file_0 : decode cX11_file 0 = .ok (.aload_n 0, 1) := by decide +kernel
theorem dX11_file_1 : decode cX11_file 1 = .ok (.iload_n 1, 1) := by decide +kernel
theorem dX11_file_2 : decode cX11_file 2 = .ok (.iload_n 2, 1) := by decide +kernel
theorem dX11_file_3 : decode cX11_file 3 = .ok (.invokevirtual 152, 3) := by decide +kernel
theorem dX11_file_6 : decode cX11_file 6 = .ok (.iload_n 3, 1) := by decide +kernel
theorem dX11_file_7 : decode cX11_file 7 = .ok (.iconst 0, 1) := by decide +kernel
theorem dX11_file_8 : decode cX11_file 8 = .ok (.bipush 15, 2) := by decide +kernel
theorem dX11_file_10 : decode cX11_file 10 = .ok (.invokestatic 132, 3) := by decide +kernel
theorem dX11_file_13 : decode cX11_file 13 = .ok (.iload 4, 2) := by decide +kernel
theorem dX11_file_15 : decode cX11_file 15 = .ok (.iconst 0, 1) := by decide +kernel
theorem dX11_file_16 : decode cX11_file 16 = .ok (.sipush 999, 3) := by decide +kernel
theorem dX11_file_19 : decode cX11_file 19 = .ok (.invokestatic 132, 3) := by decide +kernel
theorem dX11_file_22 : decode cX11_file 22 = .ok (.aload_n 0, 1) := by decide +kernel
theorem dX11_file_23 : decode cX11_file 23 = .ok (.getfield 18, 3) := by decide +kernel
theorem dX11_file_26 : decode cX11_file 26 = .ok (.iload_n 1, 1) := by decide +kernel
theorem dX11_file_27 : decode cX11_file 27 = .ok (.aaload, 1) := by decide +kernel
theorem dX11_file_28 : decode cX11_file 28 = .ok (.getfield 143, 3) := by decide +kernel
theorem dX11_file_31 : decode cX11_file 31 = .ok (.iload_n 2, 1) := by decide +kernel
theorem dX11_file_32 : decode cX11_file 32 = .ok (.aaload, 1) := by decide +kernel
theorem dX11_file_33 : decode cX11_file 33 = .ok (.astore 6, 2) := by decide +kernel
theorem dX11_file_35 : decode cX11_file 35 = .ok (.aload 6, 2) := by decide +kernel
theorem dX11_file_37 : decode cX11_file 37 = .ok (.iload_n 3, 1) := by decide +kernel
theorem dX11_file_38 : decode cX11_file 38 = .ok (.invokevirtual 277, 3) := by decide +kernel
theorem dX11_file_41 : decode cX11_file 41 = .ok (.ifCond .eq 14, 3) := by decide +kernel
theorem dX11_file_44 : decode cX11_file 44 = .ok (.new 90, 3) := by decide +kernel
theorem dX11_file_47 : decode cX11_file 47 = .ok (.dup, 1) := by decide +kernel
theorem dX11_file_48 : decode cX11_file 48 = .ok (.ldc_w 281, 3) := by decide +kernel
theorem dX11_file_51 : decode cX11_file 51 = .ok (.invokespecial 94, 3) := by decide +kernel
theorem dX11_file_54 : decode cX11_file 54 = .ok (.athrow, 1) := by decide +kernel
theorem dX11_file_55 : decode cX11_file 55 = .ok (.aload 6, 2) := by decide +kernel
theorem dX11_file_57 : decode cX11_file 57 = .ok (.getfield 283, 3) := by decide +kernel
theorem dX11_file_60 : decode cX11_file 60 = .ok (.iconst 3, 1) := by decide +kernel
theorem dX11_file_61 : decode cX11_file 61 = .ok (.invokestatic 139, 3) := by decide +kernel
theorem dX11_file_64 : decode cX11_file 64 = .ok (.aload 6, 2) := by decide +kernel
theorem dX11_file_66 : decode cX11_file 66 = .ok (.iload_n 3, 1) := by decide +kernel
theorem dX11_file_67 : decode cX11_file 67 = .ok (.iload 4, 2) := by decide +kernel
theorem dX11_file_69 : decode cX11_file 69 = .ok (.iload 5, 2) := by decide +kernel
theorem dX11_file_71 : decode cX11_file 71 = .ok (.invokevirtual 286, 3) := by decide +kernel
theorem dX11_file_74 : decode cX11_file 74 = .ok (.aload 6, 2) := by decide +kernel
theorem dX11_file_76 : decode cX11_file 76 = .ok (.getfield 283, 3) := by decide +kernel
theorem dX11_file_79 : decode cX11_file 79 = .ok (.ireturn, 1) := by decide +kernel
def wp_X11_file (h : Nat) (x1 : Int32) (x2 : Int32) (x3 : Int32) (x4 : Int32) (x5 : Int32) (S : xm_S) (g : Int32 → xm_S → Prop) (Ex : String → xm_S → Prop) : Prop :=
  st_t S h = some (11, 0) ∧ wp_X11_checkVersion h x1 x2 S (fun S2 => wp_X11_checkRange x3 (0 : Int32) (nI 15) S2 (fun S4 => wp_X11_checkRange x4 (0 : Int32) (nI 999) S4 (fun S6 => st_t S6 h = some (11, 0) ∧ ∃ n9, (st_r S6 h 1) = some n9 ∧ ∃ z12, st_t S6 n9 = some (115, z12) ∧ vp_in x1 z12 ∧ ∃ n14, (st_r S6 n9 (x1).toNatClampNeg) = some n14 ∧ st_t S6 n14 = some (5, 0) ∧ ∃ n17, (st_r S6 n14 1) = some n17 ∧ ∃ z20, st_t S6 n17 = some (120, z20) ∧ vp_in x2 z20 ∧ ∃ n22, (st_r S6 n17 (x2).toNatClampNeg) = some n22 ∧ st_t S6 n22 = some (10, 0) ∧ wp_X10_hasFileAt n22 x3 S6 (fun r26 S25 => (r26 = 0 → ∃ n27, (st_r S6 n17 (x2).toNatClampNeg) = some n27 ∧ st_t S25 n27 = some (10, 0) ∧ wp_X11_checkRoom (st_i S25 n27 16) (nI 3) S25 (fun S30 => ∃ n32, (st_r S6 n17 (x2).toNatClampNeg) = some n32 ∧ st_t S30 n32 = some (10, 0) ∧ wp_X10_addFile n32 x3 x4 x5 S30 (fun S35 => ∃ n37, (st_r S6 n17 (x2).toNatClampNeg) = some n37 ∧ st_t S35 n37 = some (10, 0) ∧ g (st_i S35 n37 16) S35)) Ex) ∧ (¬ r26 = 0 → Ex xm_eA S25))) Ex) Ex) Ex
set_option maxRecDepth 100000 in
set_option maxHeartbeats 4000000 in
theorem kp_X11_file {K : xm_K} (h : Nat) (x1 : Int32) (x2 : Int32) (x3 : Int32) (x4 : Int32) (x5 : Int32) (S : xm_S) {g : Int32 → xm_S → Prop} {Ex : String → xm_S → Prop} (C : xm_Cx K cX11_file RX11 7 (some (FieldType.int)) rm_X11_file) (N : xm_Nx K) (hg : ∀ v S, g v S → xm_q K (some (xm_i v)) S) (hEx : ∀ X S, Ex X S → xm_x K X S)  (h1 : wp_X11_file h x1 x2 x3 x4 x5 S g Ex) : xm_W K 0 0 0 [(0, xm_r (some h)), (1, xm_i x1), (2, xm_i x2), (3, xm_i x3), (4, xm_i x4), (5, xm_i x5)] [] S := by
  unfold wp_X11_file at h1
  refine x_aload_n C 0 dX11_file_0 rfl rfl ?_
  refine x_iload_n C 1 dX11_file_1 rfl rfl ?_
  refine x_iload_n C 2 dX11_file_2 rfl rfl ?_
  obtain ⟨ht1, h1⟩ := h1
  refine x_callV (rm' := rm_X11_checkVersion) (n := h) C (kp_X11_checkVersion_met h1) lk_42 gw_305 gw_306 xv_11 rfl rfl ht1 rfl (Nat.le_of_ble_eq_true rfl) ⟨Nat.le_of_ble_eq_true rfl, Nat.le_of_ble_eq_true rfl, (Nat.le_of_ble_eq_true rfl), (Nat.le_of_ble_eq_true rfl)⟩ dX11_file_3 (fun X9 S9 hx9 => x_thru C N (Nat.le_of_ble_eq_true rfl) (Nat.le_of_ble_eq_true rfl) (hEx _ _ hx9)) (xm_kv (fun S2 h1 => ?_))
  refine x_iload_n C 3 dX11_file_6 rfl rfl ?_
  refine x_iconst (v := (0 : Int32)) C dX11_file_7 (by decide) ?_
  refine x_bipush (v := (nI 15)) C dX11_file_8 (by decide) ?_
  refine x_callS (rm' := rm_X11_checkRange) C (kp_X11_checkRange_met h1) lk_37 gw_280 rfl (Nat.le_of_ble_eq_true rfl) ⟨Nat.le_of_ble_eq_true rfl, Nat.le_of_ble_eq_true rfl, (Nat.le_of_ble_eq_true rfl), (Nat.le_of_ble_eq_true rfl)⟩ dX11_file_10 (fun X9 S9 hx9 => x_thru C N (Nat.le_of_ble_eq_true rfl) (Nat.le_of_ble_eq_true rfl) (hEx _ _ hx9)) (xm_kv (fun S4 h1 => ?_))
  refine x_iload C 4 dX11_file_13 rfl ?_
  refine x_iconst (v := (0 : Int32)) C dX11_file_15 (by decide) ?_
  refine x_sipush (v := (nI 999)) C dX11_file_16 (by decide) ?_
  refine x_callS (rm' := rm_X11_checkRange) C (kp_X11_checkRange_met h1) lk_37 gw_280 rfl (Nat.le_of_ble_eq_true rfl) ⟨Nat.le_of_ble_eq_true rfl, Nat.le_of_ble_eq_true rfl, (Nat.le_of_ble_eq_true rfl), (Nat.le_of_ble_eq_true rfl)⟩ dX11_file_19 (fun X9 S9 hx9 => x_thru C N (Nat.le_of_ble_eq_true rfl) (Nat.le_of_ble_eq_true rfl) (hEx _ _ hx9)) (xm_kv (fun S6 h1 => ?_))
  refine x_aload_n C 0 dX11_file_22 rfl rfl ?_
  obtain ⟨ht8, h1⟩ := h1
  refine x_getf_r (n := h) C rfl ht8 fd_106 (by decide) dX11_file_23 ?_
  refine x_iload_n C 1 dX11_file_26 rfl rfl ?_
  obtain ⟨n9, hr10, h1⟩ := h1
  obtain ⟨z12, ht11, h1⟩ := h1
  obtain ⟨hi13, h1⟩ := h1
  refine x_aald (n := n9) C hr10 (by decide) rfl ht11 hi13 dX11_file_27 ?_
  obtain ⟨n14, hr15, h1⟩ := h1
  obtain ⟨ht16, h1⟩ := h1
  refine x_getf_r (n := n14) C hr15 ht16 fd_107 (by decide) dX11_file_28 ?_
  refine x_iload_n C 2 dX11_file_31 rfl rfl ?_
  obtain ⟨n17, hr18, h1⟩ := h1
  obtain ⟨z20, ht19, h1⟩ := h1
  obtain ⟨hi21, h1⟩ := h1
  refine x_aald (n := n17) C hr18 (by decide) rfl ht19 hi21 dX11_file_32 ?_
  refine x_astore (L' := [(6, xm_r (st_r S6 n17 (x2).toNatClampNeg)), (0, xm_r (some h)), (1, xm_i x1), (2, xm_i x2), (3, xm_i x3), (4, xm_i x4), (5, xm_i x5)]) C dX11_file_33 (by decide) rfl ?_
  refine x_aload C 0 dX11_file_35 rfl ?_
  refine x_iload_n C 4 dX11_file_37 rfl rfl ?_
  obtain ⟨n22, hr23, h1⟩ := h1
  obtain ⟨ht24, h1⟩ := h1
  refine x_callV (rm' := rm_X10_hasFileAt) (n := n22) C (kp_X10_hasFileAt_met h1) lk_46 gw_324 gw_325 xv_10 rfl hr23 ht24 rfl (Nat.le_of_ble_eq_true rfl) ⟨Nat.le_of_ble_eq_true rfl, Nat.le_of_ble_eq_true rfl, (Nat.le_of_ble_eq_true rfl), (Nat.le_of_ble_eq_true rfl)⟩ dX11_file_38 xm_kx (xm_ki (fun r26 S25 h1 => ?_))
  refine x_if_eq (tgt := 55) C dX11_file_41 (by decide) (fun z9 => ?_) (fun z9 => ?_)
  · have h1 := h1.1 z9
    refine x_aload C 0 dX11_file_55 rfl ?_
    obtain ⟨n27, hr28, h1⟩ := h1
    obtain ⟨ht29, h1⟩ := h1
    refine x_getf_i (n := n27) C hr28 ht29 fd_129 (by decide) dX11_file_57 ?_
    refine x_iconst (v := (nI 3)) C dX11_file_60 (by decide) ?_
    refine x_callS (rm' := rm_X11_checkRoom) C (kp_X11_checkRoom_met h1) lk_47 gw_329 rfl (Nat.le_of_ble_eq_true rfl) ⟨Nat.le_of_ble_eq_true rfl, Nat.le_of_ble_eq_true rfl, (Nat.le_of_ble_eq_true rfl), (Nat.le_of_ble_eq_true rfl)⟩ dX11_file_61 (fun X9 S9 hx9 => x_thru C N (Nat.le_of_ble_eq_true rfl) (Nat.le_of_ble_eq_true rfl) (hEx _ _ hx9)) (xm_kv (fun S30 h1 => ?_))
    refine x_aload C 0 dX11_file_64 rfl ?_
    refine x_iload_n C 4 dX11_file_66 rfl rfl ?_
    refine x_iload C 5 dX11_file_67 rfl ?_
    refine x_iload C 6 dX11_file_69 rfl ?_
    obtain ⟨n32, hr33, h1⟩ := h1
    obtain ⟨ht34, h1⟩ := h1
    refine x_callV (rm' := rm_X10_addFile) (n := n32) C (kp_X10_addFile_met h1) lk_48 gw_332 gw_333 xv_10 rfl hr33 ht34 rfl (Nat.le_of_ble_eq_true rfl) ⟨Nat.le_of_ble_eq_true rfl, Nat.le_of_ble_eq_true rfl, (Nat.le_of_ble_eq_true rfl), (Nat.le_of_ble_eq_true rfl)⟩ dX11_file_71 xm_kx (xm_kv (fun S35 h1 => ?_))
    refine x_aload C 0 dX11_file_74 rfl ?_
    obtain ⟨n37, hr38, h1⟩ := h1
    obtain ⟨ht39, h1⟩ := h1
    refine x_getf_i (n := n37) C hr38 ht39 fd_129 (by decide) dX11_file_76 ?_
    exact x_iret C (Nat.le_of_ble_eq_true rfl) (Nat.le_of_ble_eq_true rfl) rfl dX11_file_79 (hg _ _ h1)
  · have h1 := h1.2 z9
    exact x_throw (text := "it has a file with this path") C N th_A_in th_A_fit gw_255 gw_256 (by decide +kernel) th_A_at th_A_no th_A_ot (Nat.le_of_ble_eq_true rfl) ⟨Nat.le_of_ble_eq_true rfl, Nat.le_of_ble_eq_true rfl, (Nat.le_of_ble_eq_true rfl), (Nat.le_of_ble_eq_true rfl)⟩ dX11_file_44 dX11_file_47 (Or.inr ⟨dX11_file_48, dX11_file_51, dX11_file_54⟩) (hEx _ _ h1)
theorem kp_X11_file_met {h : Nat} {x1 : Int32} {x2 : Int32} {x3 : Int32} {x4 : Int32} {x5 : Int32} {S : xm_S} {g : Int32 → xm_S → Prop} {Ex : String → xm_S → Prop}  (h1 : wp_X11_file h x1 x2 x3 x4 x5 S g Ex) : xm_Met yX11_file cX11_file 7 (some (FieldType.int)) rm_X11_file [xm_r (some h), xm_i x1, xm_i x2, xm_i x3, xm_i x4, xm_i x5] S (xm_qi g) Ex :=
  xm_ofW RX11 (by decide +kernel) rfl (Nat.le_of_ble_eq_true rfl) (fun K C N hq hx hi => kp_X11_file h x1 x2 x3 x4 x5 S C N (fun v S h => by rw [hq]; exact ⟨v, rfl, h⟩) (fun X S h => by rw [hx]; exact h)  h1)
def rm_X11_generation : Room := { frames := 1, cells := 0, slots := 0, locals := 20 }
theorem dX11_generation_0 : decode cX11_generation 0 = .ok (.aload_n 0, 1) := by decide +kernel
theorem dX11_generation_1 : decode cX11_generation 1 = .ok (.getfield 85, 3) := by decide +kernel
theorem dX11_generation_4 : decode cX11_generation 4 = .ok (.getfield 341, 3) := by decide +kernel
theorem dX11_generation_7 : decode cX11_generation 7 = .ok (.ireturn, 1) := by decide +kernel
def wp_X11_generation (h : Nat)  (S : xm_S) (g : Int32 → xm_S → Prop) : Prop :=
  st_t S h = some (11, 0) ∧ ∃ n2, (st_r S h 17) = some n2 ∧ st_t S n2 = some (2, 0) ∧ g (st_i S n2 3) S
set_option maxRecDepth 100000 in
set_option maxHeartbeats 4000000 in
theorem kp_X11_generation {K : xm_K} (h : Nat)  (S : xm_S) {g : Int32 → xm_S → Prop} (C : xm_Cx K cX11_generation RX11 1 (some (FieldType.int)) rm_X11_generation) (N : xm_Nx K) (hg : ∀ v S, g v S → xm_q K (some (xm_i v)) S)  (h1 : wp_X11_generation h  S g) : xm_W K 0 0 0 [(0, xm_r (some h))] [] S := by
  unfold wp_X11_generation at h1
  refine x_aload_n C 0 dX11_generation_0 rfl rfl ?_
  obtain ⟨ht1, h1⟩ := h1
  refine x_getf_r (n := h) C rfl ht1 fd_117 (by decide) dX11_generation_1 ?_
  obtain ⟨n2, hr3, h1⟩ := h1
  obtain ⟨ht4, h1⟩ := h1
  refine x_getf_i (n := n2) C hr3 ht4 fd_130 (by decide) dX11_generation_4 ?_
  exact x_iret C (Nat.le_of_ble_eq_true rfl) (Nat.le_of_ble_eq_true rfl) rfl dX11_generation_7 (hg _ _ h1)
theorem kp_X11_generation_met {h : Nat}  {S : xm_S} {g : Int32 → xm_S → Prop}  (h1 : wp_X11_generation h  S g) : xm_Met yX11_generation cX11_generation 1 (some (FieldType.int)) rm_X11_generation [xm_r (some h)] S (xm_qi g) xm_nox :=
  xm_ofW RX11 (by decide +kernel) rfl (Nat.le_of_ble_eq_true rfl) (fun K C N hq hx hi => kp_X11_generation h  S C N (fun v S h => by rw [hq]; exact ⟨v, rfl, h⟩)  h1)
def rm_X11_generations : Room := { frames := 1, cells := 0, slots := 0, locals := 20 }
theorem dX11_generations_0 : decode cX11_generations 0 = .ok (.aload_n 0, 1) := by decide +kernel
theorem dX11_generations_1 : decode cX11_generations 1 = .ok (.getfield 85, 3) := by decide +kernel
theorem dX11_generations_4 : decode cX11_generations 4 = .ok (.getfield 344, 3) := by decide +kernel
theorem dX11_generations_7 : decode cX11_generations 7 = .ok (.ireturn, 1) := by decide +kernel
def wp_X11_generations (h : Nat)  (S : xm_S) (g : Int32 → xm_S → Prop) : Prop :=
  st_t S h = some (11, 0) ∧ ∃ n2, (st_r S h 17) = some n2 ∧ st_t S n2 = some (2, 0) ∧ g (st_i S n2 2) S
set_option maxRecDepth 100000 in
set_option maxHeartbeats 4000000 in
theorem kp_X11_generations {K : xm_K} (h : Nat)  (S : xm_S) {g : Int32 → xm_S → Prop} (C : xm_Cx K cX11_generations RX11 1 (some (FieldType.int)) rm_X11_generations) (N : xm_Nx K) (hg : ∀ v S, g v S → xm_q K (some (xm_i v)) S)  (h1 : wp_X11_generations h  S g) : xm_W K 0 0 0 [(0, xm_r (some h))] [] S := by
  unfold wp_X11_generations at h1
  refine x_aload_n C 0 dX11_generations_0 rfl rfl ?_
  obtain ⟨ht1, h1⟩ := h1
  refine x_getf_r (n := h) C rfl ht1 fd_117 (by decide) dX11_generations_1 ?_
  obtain ⟨n2, hr3, h1⟩ := h1
  obtain ⟨ht4, h1⟩ := h1
  refine x_getf_i (n := n2) C hr3 ht4 fd_131 (by decide) dX11_generations_4 ?_
  exact x_iret C (Nat.le_of_ble_eq_true rfl) (Nat.le_of_ble_eq_true rfl) rfl dX11_generations_7 (hg _ _ h1)
theorem kp_X11_generations_met {h : Nat}  {S : xm_S} {g : Int32 → xm_S → Prop}  (h1 : wp_X11_generations h  S g) : xm_Met yX11_generations cX11_generations 1 (some (FieldType.int)) rm_X11_generations [xm_r (some h)] S (xm_qi g) xm_nox :=
  xm_ofW RX11 (by decide +kernel) rfl (Nat.le_of_ble_eq_true rfl) (fun K C N hq hx hi => kp_X11_generations h  S C N (fun v S h => by rw [hq]; exact ⟨v, rfl, h⟩)  h1)
def rm_X11_holds : Room := { frames := 7, cells := 1, slots := 6, locals := 170 }
theorem dX11_holds_0 : decode cX11_holds 0 = .ok (.iload_n 1, 1) := by decide +kernel
theorem dX11_holds_1 : decode cX11_holds 1 = .ok (.invokestatic 212, 3) := by decide +kernel
theorem dX11_holds_4 : decode cX11_holds 4 = .ok (.aload_n 0, 1) := by decide +kernel
theorem dX11_holds_5 : decode cX11_holds 5 = .ok (.iload_n 1, 1) := by decide +kernel
theorem dX11_holds_6 : decode cX11_holds 6 = .ok (.iconst 0, 1) := by decide +kernel
theorem dX11_holds_7 : decode cX11_holds 7 = .ok (.invokevirtual 215, 3) := by decide +kernel
theorem dX11_holds_10 : decode cX11_holds 10 = .ok (.aload_n 0, 1) := by decide +kernel
theorem dX11_holds_11 : decode cX11_holds 11 = .ok (.getfield 59, 3) := by decide +kernel
theorem dX11_holds_14 : decode cX11_holds 14 = .ok (.aload_n 0, 1) := by decide +kernel
theorem dX11_holds_15 : decode cX11_holds 15 = .ok (.invokevirtual 218, 3) := by decide +kernel
theorem dX11_holds_18 : decode cX11_holds 18 = .ok (.aload_n 0, 1) := by decide +kernel
theorem dX11_holds_19 : decode cX11_holds 19 = .ok (.getfield 46, 3) := by decide +kernel
theorem dX11_holds_22 : decode cX11_holds 22 = .ok (.iload_n 1, 1) := by decide +kernel
theorem dX11_holds_23 : decode cX11_holds 23 = .ok (.aaload, 1) := by decide +kernel
theorem dX11_holds_24 : decode cX11_holds 24 = .ok (.invokevirtual 237, 3) := by decide +kernel
theorem dX11_holds_27 : decode cX11_holds 27 = .ok (.ireturn, 1) := by decide +kernel
def wp_X11_holds (h : Nat) (x1 : Int32) (S : xm_S) (g : Int32 → xm_S → Prop) (Ex : String → xm_S → Prop) : Prop :=
  wp_X11_checkPlatform x1 S (fun S1 => st_t S1 h = some (11, 0) ∧ wp_X11_prepareSolver h x1 (0 : Int32) S1 (fun S4 => st_t S4 h = some (11, 0) ∧ wp_X11_allWishes h S4 (fun r8 S7 => st_t S7 h = some (11, 0) ∧ ∃ n10, (st_r S7 h 7) = some n10 ∧ ∃ z13, st_t S7 n10 = some (104, z13) ∧ vp_in x1 z13 ∧ ∃ n15, (st_r S4 h 10) = some n15 ∧ st_t S7 n15 = some (7, 0) ∧ wp_X7_isClosure n15 r8 (st_r S7 n10 (x1).toNatClampNeg) S7 (fun r19 S18 => (r19 = 0 ∨ r19 = 1) ∧ g r19 S18)))) Ex
set_option maxRecDepth 100000 in
set_option maxHeartbeats 4000000 in
theorem kp_X11_holds {K : xm_K} (h : Nat) (x1 : Int32) (S : xm_S) {g : Int32 → xm_S → Prop} {Ex : String → xm_S → Prop} (C : xm_Cx K cX11_holds RX11 2 (some (FieldType.boolean)) rm_X11_holds) (N : xm_Nx K) (hg : ∀ v S, g v S → xm_q K (some (xm_i v)) S) (hEx : ∀ X S, Ex X S → xm_x K X S)  (h1 : wp_X11_holds h x1 S g Ex) : xm_W K 0 0 0 [(0, xm_r (some h)), (1, xm_i x1)] [] S := by
  unfold wp_X11_holds at h1
  refine x_iload_n C 1 dX11_holds_0 rfl rfl ?_
  refine x_callS (rm' := rm_X11_checkPlatform) C (kp_X11_checkPlatform_met h1) lk_36 gw_277 rfl (Nat.le_of_ble_eq_true rfl) ⟨Nat.le_of_ble_eq_true rfl, Nat.le_of_ble_eq_true rfl, (Nat.le_of_ble_eq_true rfl), (Nat.le_of_ble_eq_true rfl)⟩ dX11_holds_1 (fun X9 S9 hx9 => x_thru C N (Nat.le_of_ble_eq_true rfl) (Nat.le_of_ble_eq_true rfl) (hEx _ _ hx9)) (xm_kv (fun S1 h1 => ?_))
  refine x_aload_n C 0 dX11_holds_4 rfl rfl ?_
  refine x_iload_n C 1 dX11_holds_5 rfl rfl ?_
  refine x_iconst (v := (0 : Int32)) C dX11_holds_6 (by decide) ?_
  obtain ⟨ht3, h1⟩ := h1
  refine x_callV (rm' := rm_X11_prepareSolver) (n := h) C (kp_X11_prepareSolver_met h1) lk_49 gw_338 gw_339 xv_11 rfl rfl ht3 rfl (Nat.le_of_ble_eq_true rfl) ⟨Nat.le_of_ble_eq_true rfl, Nat.le_of_ble_eq_true rfl, (Nat.le_of_ble_eq_true rfl), (Nat.le_of_ble_eq_true rfl)⟩ dX11_holds_7 xm_kx (xm_kv (fun S4 h1 => ?_))
  refine x_aload_n C 0 dX11_holds_10 rfl rfl ?_
  obtain ⟨ht6, h1⟩ := h1
  refine x_getf_r (n := h) C rfl ht6 fd_120 (by decide) dX11_holds_11 ?_
  refine x_aload_n C 0 dX11_holds_14 rfl rfl ?_
  refine x_callV (rm' := rm_X11_allWishes) (n := h) C (kp_X11_allWishes_met h1) lk_50 gw_342 gw_343 xv_11 rfl rfl ht6 rfl (Nat.le_of_ble_eq_true rfl) ⟨Nat.le_of_ble_eq_true rfl, Nat.le_of_ble_eq_true rfl, (Nat.le_of_ble_eq_true rfl), (Nat.le_of_ble_eq_true rfl)⟩ dX11_holds_15 xm_kx (xm_ki (fun r8 S7 h1 => ?_))
  refine x_aload_n C 0 dX11_holds_18 rfl rfl ?_
  obtain ⟨ht9, h1⟩ := h1
  refine x_getf_r (n := h) C rfl ht9 fd_112 (by decide) dX11_holds_19 ?_
  refine x_iload_n C 1 dX11_holds_22 rfl rfl ?_
  obtain ⟨n10, hr11, h1⟩ := h1
  obtain ⟨z13, ht12, h1⟩ := h1
  obtain ⟨hi14, h1⟩ := h1
  refine x_aald (n := n10) C hr11 (by decide) rfl ht12 hi14 dX11_holds_23 ?_
  obtain ⟨n15, hr16, h1⟩ := h1
  obtain ⟨ht17, h1⟩ := h1
  refine x_callV (rm' := rm_X7_isClosure) (n := n15) C (kp_X7_isClosure_met h1) lk_51 gw_346 gw_347 xv_7 rfl hr16 ht17 rfl (Nat.le_of_ble_eq_true rfl) ⟨Nat.le_of_ble_eq_true rfl, Nat.le_of_ble_eq_true rfl, (Nat.le_of_ble_eq_true rfl), (Nat.le_of_ble_eq_true rfl)⟩ dX11_holds_24 xm_kx (xm_ki (fun r19 S18 h1 => ?_))
  exact x_zret C (Nat.le_of_ble_eq_true rfl) (Nat.le_of_ble_eq_true rfl) rfl h1.1 dX11_holds_27 (hg _ _ h1.2)
theorem kp_X11_holds_met {h : Nat} {x1 : Int32} {S : xm_S} {g : Int32 → xm_S → Prop} {Ex : String → xm_S → Prop}  (h1 : wp_X11_holds h x1 S g Ex) : xm_Met yX11_holds cX11_holds 2 (some (FieldType.boolean)) rm_X11_holds [xm_r (some h), xm_i x1] S (xm_qi g) Ex :=
  xm_ofW RX11 (by decide +kernel) rfl (Nat.le_of_ble_eq_true rfl) (fun K C N hq hx hi => kp_X11_holds h x1 S C N (fun v S h => by rw [hq]; exact ⟨v, rfl, h⟩) (fun X S h => by rw [hx]; exact h)  h1)
def rm_X11_index : Room := { frames := 7, cells := 3, slots := 18, locals := 122 }
theorem dX11_index_0 : decode cX11_index 0 = .ok (.iload_n 1, 1) := by decide +kernel
theorem dX11_index_1 : decode cX11_index 1 = .ok (.iconst 0, 1) := by decide +kernel
theorem dX11_index_2 : decode cX11_index 2 = .ok (.sipush 9999, 3) := by decide +kernel
theorem dX11_index_5 : decode cX11_index 5 = .ok (.invokestatic 132, 3) := by decide +kernel
theorem dX11_index_8 : decode cX11_index 8 = .ok (.iload_n 2, 1) := by decide +kernel
theorem dX11_index_9 : decode cX11_index 9 = .ok (.iconst 0, 1) := by decide +kernel
theorem dX11_index_10 : decode cX11_index 10 = .ok (.ldc_w 261, 3) := by decide +kernel
theorem dX11_index_13 : decode cX11_index 13 = .ok (.invokestatic 132, 3) := by decide +kernel
theorem dX11_index_16 : decode cX11_index 16 = .ok (.iload_n 3, 1) := by decide +kernel
theorem dX11_index_17 : decode cX11_index 17 = .ok (.iconst 0, 1) := by decide +kernel
theorem dX11_index_18 : decode cX11_index 18 = .ok (.bipush 31, 2) := by decide +kernel
theorem dX11_index_20 : decode cX11_index 20 = .ok (.invokestatic 132, 3) := by decide +kernel
theorem dX11_index_23 : decode cX11_index 23 = .ok (.iload_n 3, 1) := by decide +kernel
theorem dX11_index_24 : decode cX11_index 24 = .ok (.aload_n 0, 1) := by decide +kernel
theorem dX11_index_25 : decode cX11_index 25 = .ok (.getfield 66, 3) := by decide +kernel
theorem dX11_index_28 : decode cX11_index 28 = .ok (.iand, 1) := by decide +kernel
theorem dX11_index_29 : decode cX11_index 29 = .ok (.invokestatic 230, 3) := by decide +kernel
theorem dX11_index_32 : decode cX11_index 32 = .ok (.aload_n 0, 1) := by decide +kernel
theorem dX11_index_33 : decode cX11_index 33 = .ok (.getfield 69, 3) := by decide +kernel
theorem dX11_index_36 : decode cX11_index 36 = .ok (.if_icmp .ge 5, 3) := by decide +kernel
theorem dX11_index_39 : decode cX11_index 39 = .ok (.iconst 1, 1) := by decide +kernel
theorem dX11_index_40 : decode cX11_index 40 = .ok (.ireturn, 1) := by decide +kernel
theorem dX11_index_41 : decode cX11_index 41 = .ok (.iload_n 1, 1) := by decide +kernel
theorem dX11_index_42 : decode cX11_index 42 = .ok (.aload_n 0, 1) := by decide +kernel
theorem dX11_index_43 : decode cX11_index 43 = .ok (.getfield 72, 3) := by decide +kernel
theorem dX11_index_46 : decode cX11_index 46 = .ok (.if_icmp .ge 5, 3) := by decide +kernel
theorem dX11_index_49 : decode cX11_index 49 = .ok (.iconst 2, 1) := by decide +kernel
theorem dX11_index_50 : decode cX11_index 50 = .ok (.ireturn, 1) := by decide +kernel
theorem dX11_index_51 : decode cX11_index 51 = .ok (.iload_n 2, 1) := by decide +kernel
theorem dX11_index_52 : decode cX11_index 52 = .ok (.aload_n 0, 1) := by decide +kernel
theorem dX11_index_53 : decode cX11_index 53 = .ok (.getfield 63, 3) := by decide +kernel
theorem dX11_index_56 : decode cX11_index 56 = .ok (.if_icmp .gt 5, 3) := by decide +kernel
theorem dX11_index_59 : decode cX11_index 59 = .ok (.iconst 3, 1) := by decide +kernel
theorem dX11_index_60 : decode cX11_index 60 = .ok (.ireturn, 1) := by decide +kernel
theorem dX11_index_61 : decode cX11_index 61 = .ok (.aload_n 0, 1) := by decide +kernel
theorem dX11_index_62 : decode cX11_index 62 = .ok (.iload_n 1, 1) := by decide +kernel
theorem dX11_index_63 : decode cX11_index 63 = .ok (.putfield 72, 3) := by decide +kernel
theorem dX11_index_66 : decode cX11_index 66 = .ok (.iconst 0, 1) := by decide +kernel
theorem dX11_index_67 : decode cX11_index 67 = .ok (.ireturn, 1) := by decide +kernel
def wp_X11_index (h : Nat) (x1 : Int32) (x2 : Int32) (x3 : Int32) (S : xm_S) (g : Int32 → xm_S → Prop) (Ex : String → xm_S → Prop) : Prop :=
  wp_X11_checkRange x1 (0 : Int32) (nI 9999) S (fun S1 => wp_X11_checkRange x2 (0 : Int32) (nI 200000) S1 (fun S3 => wp_X11_checkRange x3 (0 : Int32) (nI 31) S3 (fun S5 => st_t S5 h = some (11, 0) ∧ wp_J6_bitCount_0f7a4 (x3 &&& (st_i S5 h 12)) S5 (fun r9 S8 => st_t S8 h = some (11, 0) ∧ ((st_i S8 h 13) ≤ r9 → ((st_i S8 h 14) ≤ x1 → ((st_i S8 h 11) < x2 → ∀ S11, S11 = st_pi S8 h 14 x1 → g (0 : Int32) S11) ∧ (¬ (st_i S8 h 11) < x2 → g (nI 3) S8)) ∧ (¬ (st_i S8 h 14) ≤ x1 → g (nI 2) S8)) ∧ (¬ (st_i S8 h 13) ≤ r9 → g (1 : Int32) S8))) Ex) Ex) Ex
set_option maxRecDepth 100000 in
set_option maxHeartbeats 4000000 in
theorem kp_X11_index {K : xm_K} (h : Nat) (x1 : Int32) (x2 : Int32) (x3 : Int32) (S : xm_S) {g : Int32 → xm_S → Prop} {Ex : String → xm_S → Prop} (C : xm_Cx K cX11_index RX11 4 (some (FieldType.int)) rm_X11_index) (N : xm_Nx K) (hg : ∀ v S, g v S → xm_q K (some (xm_i v)) S) (hEx : ∀ X S, Ex X S → xm_x K X S)  (h1 : wp_X11_index h x1 x2 x3 S g Ex) : xm_W K 0 0 0 [(0, xm_r (some h)), (1, xm_i x1), (2, xm_i x2), (3, xm_i x3)] [] S := by
  unfold wp_X11_index at h1
  refine x_iload_n C 1 dX11_index_0 rfl rfl ?_
  refine x_iconst (v := (0 : Int32)) C dX11_index_1 (by decide) ?_
  refine x_sipush (v := (nI 9999)) C dX11_index_2 (by decide) ?_
  refine x_callS (rm' := rm_X11_checkRange) C (kp_X11_checkRange_met h1) lk_37 gw_280 rfl (Nat.le_of_ble_eq_true rfl) ⟨Nat.le_of_ble_eq_true rfl, Nat.le_of_ble_eq_true rfl, (Nat.le_of_ble_eq_true rfl), (Nat.le_of_ble_eq_true rfl)⟩ dX11_index_5 (fun X9 S9 hx9 => x_thru C N (Nat.le_of_ble_eq_true rfl) (Nat.le_of_ble_eq_true rfl) (hEx _ _ hx9)) (xm_kv (fun S1 h1 => ?_))
  refine x_iload_n C 2 dX11_index_8 rfl rfl ?_
  refine x_iconst (v := (0 : Int32)) C dX11_index_9 (by decide) ?_
  refine x_ldcw (v := nI 200000) C gw_348 dX11_index_10 ?_
  refine x_callS (rm' := rm_X11_checkRange) C (kp_X11_checkRange_met h1) lk_37 gw_280 rfl (Nat.le_of_ble_eq_true rfl) ⟨Nat.le_of_ble_eq_true rfl, Nat.le_of_ble_eq_true rfl, (Nat.le_of_ble_eq_true rfl), (Nat.le_of_ble_eq_true rfl)⟩ dX11_index_13 (fun X9 S9 hx9 => x_thru C N (Nat.le_of_ble_eq_true rfl) (Nat.le_of_ble_eq_true rfl) (hEx _ _ hx9)) (xm_kv (fun S3 h1 => ?_))
  refine x_iload_n C 3 dX11_index_16 rfl rfl ?_
  refine x_iconst (v := (0 : Int32)) C dX11_index_17 (by decide) ?_
  refine x_bipush (v := (nI 31)) C dX11_index_18 (by decide) ?_
  refine x_callS (rm' := rm_X11_checkRange) C (kp_X11_checkRange_met h1) lk_37 gw_280 rfl (Nat.le_of_ble_eq_true rfl) ⟨Nat.le_of_ble_eq_true rfl, Nat.le_of_ble_eq_true rfl, (Nat.le_of_ble_eq_true rfl), (Nat.le_of_ble_eq_true rfl)⟩ dX11_index_20 (fun X9 S9 hx9 => x_thru C N (Nat.le_of_ble_eq_true rfl) (Nat.le_of_ble_eq_true rfl) (hEx _ _ hx9)) (xm_kv (fun S5 h1 => ?_))
  refine x_iload_n C 3 dX11_index_23 rfl rfl ?_
  refine x_aload_n C 0 dX11_index_24 rfl rfl ?_
  obtain ⟨ht7, h1⟩ := h1
  refine x_getf_i (n := h) C rfl ht7 fd_132 (by decide) dX11_index_25 ?_
  refine x_iand C dX11_index_28 ?_
  refine x_callS (rm' := rm_J6_bitCount_0f7a4) C (kp_J6_bitCount_0f7a4_met h1) lk_52 gw_352 rfl (Nat.le_of_ble_eq_true rfl) ⟨Nat.le_of_ble_eq_true rfl, Nat.le_of_ble_eq_true rfl, (Nat.le_of_ble_eq_true rfl), (Nat.le_of_ble_eq_true rfl)⟩ dX11_index_29 xm_kx (xm_ki (fun r9 S8 h1 => ?_))
  refine x_aload_n C 0 dX11_index_32 rfl rfl ?_
  obtain ⟨ht10, h1⟩ := h1
  refine x_getf_i (n := h) C rfl ht10 fd_133 (by decide) dX11_index_33 ?_
  refine x_icmp_ge (tgt := 41) C dX11_index_36 (by decide) (fun z9 => ?_) (fun z9 => ?_)
  · have h1 := h1.1 z9
    refine x_iload_n C 1 dX11_index_41 rfl rfl ?_
    refine x_aload_n C 0 dX11_index_42 rfl rfl ?_
    refine x_getf_i (n := h) C rfl ht10 fd_134 (by decide) dX11_index_43 ?_
    refine x_icmp_ge (tgt := 51) C dX11_index_46 (by decide) (fun z9 => ?_) (fun z9 => ?_)
    · have h1 := h1.1 z9
      refine x_iload_n C 2 dX11_index_51 rfl rfl ?_
      refine x_aload_n C 0 dX11_index_52 rfl rfl ?_
      refine x_getf_i (n := h) C rfl ht10 fd_135 (by decide) dX11_index_53 ?_
      refine x_icmp_gt (tgt := 61) C dX11_index_56 (by decide) (fun z9 => ?_) (fun z9 => ?_)
      · have h1 := h1.1 z9
        refine x_aload_n C 0 dX11_index_61 rfl rfl ?_
        refine x_iload_n C 1 dX11_index_62 rfl rfl ?_
        refine x_putf_i (n := h) C rfl ht10 fd_134 xc_11 (by decide) rfl ⟨rfl, rfl⟩ dX11_index_63 ?_
        refine x_topS (fun S11 e12 => ?_)
        have h1 := h1 S11 e12
        refine x_iconst (v := (0 : Int32)) C dX11_index_66 (by decide) ?_
        exact x_iret C (Nat.le_of_ble_eq_true rfl) (Nat.le_of_ble_eq_true rfl) rfl dX11_index_67 (hg _ _ h1)
      · have h1 := h1.2 z9
        refine x_iconst (v := (nI 3)) C dX11_index_59 (by decide) ?_
        exact x_iret C (Nat.le_of_ble_eq_true rfl) (Nat.le_of_ble_eq_true rfl) rfl dX11_index_60 (hg _ _ h1)
    · have h1 := h1.2 z9
      refine x_iconst (v := (nI 2)) C dX11_index_49 (by decide) ?_
      exact x_iret C (Nat.le_of_ble_eq_true rfl) (Nat.le_of_ble_eq_true rfl) rfl dX11_index_50 (hg _ _ h1)
  · have h1 := h1.2 z9
    refine x_iconst (v := (1 : Int32)) C dX11_index_39 (by decide) ?_
    exact x_iret C (Nat.le_of_ble_eq_true rfl) (Nat.le_of_ble_eq_true rfl) rfl dX11_index_40 (hg _ _ h1)
theorem kp_X11_index_met {h : Nat} {x1 : Int32} {x2 : Int32} {x3 : Int32} {S : xm_S} {g : Int32 → xm_S → Prop} {Ex : String → xm_S → Prop}  (h1 : wp_X11_index h x1 x2 x3 S g Ex) : xm_Met yX11_index cX11_index 4 (some (FieldType.int)) rm_X11_index [xm_r (some h), xm_i x1, xm_i x2, xm_i x3] S (xm_qi g) Ex :=
  xm_ofW RX11 (by decide +kernel) rfl (Nat.le_of_ble_eq_true rfl) (fun K C N hq hx hi => kp_X11_index h x1 x2 x3 S C N (fun v S h => by rw [hq]; exact ⟨v, rfl, h⟩) (fun X S h => by rw [hx]; exact h)  h1)
def rm_X11_installed : Room := { frames := 7, cells := 1, slots := 6, locals := 120 }
theorem dX11_installed_0 : decode cX11_installed 0 = .ok (.iload_n 1, 1) := by decide +kernel
theorem dX11_installed_1 : decode cX11_installed 1 = .ok (.invokestatic 122, 3) := by decide +kernel
theorem dX11_installed_4 : decode cX11_installed 4 = .ok (.aload_n 0, 1) := by decide +kernel
theorem dX11_installed_5 : decode cX11_installed 5 = .ok (.getfield 85, 3) := by decide +kernel
theorem dX11_installed_8 : decode cX11_installed 8 = .ok (.getfield 303, 3) := by decide +kernel
theorem dX11_installed_11 : decode cX11_installed 11 = .ok (.getfield 320, 3) := by decide +kernel
theorem dX11_installed_14 : decode cX11_installed 14 = .ok (.iload_n 1, 1) := by decide +kernel
theorem dX11_installed_15 : decode cX11_installed 15 = .ok (.iaload, 1) := by decide +kernel
theorem dX11_installed_16 : decode cX11_installed 16 = .ok (.ireturn, 1) := by decide +kernel
def wp_X11_installed (h : Nat) (x1 : Int32) (S : xm_S) (g : Int32 → xm_S → Prop) (Ex : String → xm_S → Prop) : Prop :=
  wp_X11_checkPack x1 S (fun S1 => st_t S1 h = some (11, 0) ∧ ∃ n4, (st_r S1 h 17) = some n4 ∧ st_t S1 n4 = some (2, 0) ∧ ∃ n7, (st_r S1 n4 0) = some n7 ∧ st_t S1 n7 = some (3, 0) ∧ ∃ n10, (st_r S1 n7 0) = some n10 ∧ ∃ z13, st_t S1 n10 = some (100, z13) ∧ vp_in x1 z13 ∧ g (st_i S1 n10 (x1).toNatClampNeg) S1) Ex
set_option maxRecDepth 100000 in
set_option maxHeartbeats 4000000 in
theorem kp_X11_installed {K : xm_K} (h : Nat) (x1 : Int32) (S : xm_S) {g : Int32 → xm_S → Prop} {Ex : String → xm_S → Prop} (C : xm_Cx K cX11_installed RX11 2 (some (FieldType.int)) rm_X11_installed) (N : xm_Nx K) (hg : ∀ v S, g v S → xm_q K (some (xm_i v)) S) (hEx : ∀ X S, Ex X S → xm_x K X S)  (h1 : wp_X11_installed h x1 S g Ex) : xm_W K 0 0 0 [(0, xm_r (some h)), (1, xm_i x1)] [] S := by
  unfold wp_X11_installed at h1
  refine x_iload_n C 1 dX11_installed_0 rfl rfl ?_
  refine x_callS (rm' := rm_X11_checkPack) C (kp_X11_checkPack_met h1) lk_38 gw_286 rfl (Nat.le_of_ble_eq_true rfl) ⟨Nat.le_of_ble_eq_true rfl, Nat.le_of_ble_eq_true rfl, (Nat.le_of_ble_eq_true rfl), (Nat.le_of_ble_eq_true rfl)⟩ dX11_installed_1 (fun X9 S9 hx9 => x_thru C N (Nat.le_of_ble_eq_true rfl) (Nat.le_of_ble_eq_true rfl) (hEx _ _ hx9)) (xm_kv (fun S1 h1 => ?_))
  refine x_aload_n C 0 dX11_installed_4 rfl rfl ?_
  obtain ⟨ht3, h1⟩ := h1
  refine x_getf_r (n := h) C rfl ht3 fd_117 (by decide) dX11_installed_5 ?_
  obtain ⟨n4, hr5, h1⟩ := h1
  obtain ⟨ht6, h1⟩ := h1
  refine x_getf_r (n := n4) C hr5 ht6 fd_123 (by decide) dX11_installed_8 ?_
  obtain ⟨n7, hr8, h1⟩ := h1
  obtain ⟨ht9, h1⟩ := h1
  refine x_getf_r (n := n7) C hr8 ht9 fd_136 (by decide) dX11_installed_11 ?_
  refine x_iload_n C 1 dX11_installed_14 rfl rfl ?_
  obtain ⟨n10, hr11, h1⟩ := h1
  obtain ⟨z13, ht12, h1⟩ := h1
  obtain ⟨hi14, h1⟩ := h1
  refine x_iald (n := n10) C hr11 ht12 hi14 dX11_installed_15 ?_
  exact x_iret C (Nat.le_of_ble_eq_true rfl) (Nat.le_of_ble_eq_true rfl) rfl dX11_installed_16 (hg _ _ h1)
theorem kp_X11_installed_met {h : Nat} {x1 : Int32} {S : xm_S} {g : Int32 → xm_S → Prop} {Ex : String → xm_S → Prop}  (h1 : wp_X11_installed h x1 S g Ex) : xm_Met yX11_installed cX11_installed 2 (some (FieldType.int)) rm_X11_installed [xm_r (some h), xm_i x1] S (xm_qi g) Ex :=
  xm_ofW RX11 (by decide +kernel) rfl (Nat.le_of_ble_eq_true rfl) (fun K C N hq hx hi => kp_X11_installed h x1 S C N (fun v S h => by rw [hq]; exact ⟨v, rfl, h⟩) (fun X S h => by rw [hx]; exact h)  h1)
def rm_X11_keptGeneration : Room := { frames := 6, cells := 1, slots := 6, locals := 100 }
theorem dX11_keptGeneration_0 : decode cX11_keptGeneration 0 = .ok (.aload_n 0, 1) := by decide +kernel
theorem dX11_keptGeneration_1 : decode cX11_keptGeneration 1 = .ok (.getfield 85, 3) := by decide +kernel
theorem dX11_keptGeneration_4 : decode cX11_keptGeneration 4 = .ok (.iload_n 1, 1) := by decide +kernel
theorem dX11_keptGeneration_5 : decode cX11_keptGeneration 5 = .ok (.invokevirtual 373, 3) := by decide +kernel
theorem dX11_keptGeneration_8 : decode cX11_keptGeneration 8 = .ok (.astore_n 2, 1) := by decide +kernel
theorem dX11_keptGeneration_9 : decode cX11_keptGeneration 9 = .ok (.aload_n 2, 1) := by decide +kernel
theorem dX11_keptGeneration_10 : decode cX11_keptGeneration 10 = .ok (.ifnonnull 14, 3) := by decide +kernel
theorem dX11_keptGeneration_13 : decode cX11_keptGeneration 13 = .ok (.new 349, 3) := by decide +kernel
theorem dX11_keptGeneration_16 : decode cX11_keptGeneration 16 = .ok (.dup, 1) := by decide +kernel
theorem dX11_keptGeneration_17 : decode cX11_keptGeneration 17 = .ok (.ldc_w 376, 3) := by decide +kernel
theorem dX11_keptGeneration_20 : decode cX11_keptGeneration 20 = .ok (.invokespecial 353, 3) := by decide +kernel
theorem dX11_keptGeneration_23 : decode cX11_keptGeneration 23 = .ok (.athrow, 1) := by decide +kernel
theorem dX11_keptGeneration_24 : decode cX11_keptGeneration 24 = .ok (.aload_n 2, 1) := by decide +kernel
theorem dX11_keptGeneration_25 : decode cX11_keptGeneration 25 = .ok (.areturn, 1) := by decide +kernel
def wp_X11_keptGeneration (h : Nat) (x1 : Int32) (S : xm_S) (g : Option Nat → xm_S → Prop) (Ex : String → xm_S → Prop) : Prop :=
  st_t S h = some (11, 0) ∧ ∃ n2, (st_r S h 17) = some n2 ∧ st_t S n2 = some (2, 0) ∧ wp_X2_keptAs n2 x1 S (fun r6 S5 => (¬ r6 = none → g r6 S5) ∧ (r6 = none → Ex xm_eI S5))
set_option maxRecDepth 100000 in
set_option maxHeartbeats 4000000 in
theorem kp_X11_keptGeneration {K : xm_K} (h : Nat) (x1 : Int32) (S : xm_S) {g : Option Nat → xm_S → Prop} {Ex : String → xm_S → Prop} (C : xm_Cx K cX11_keptGeneration RX11 3 (some ((FieldType.object "Portsmith$Generation"))) rm_X11_keptGeneration) (N : xm_Nx K) (hg : ∀ v S, g v S → xm_q K (some (xm_r v)) S) (hEx : ∀ X S, Ex X S → xm_x K X S)  (h1 : wp_X11_keptGeneration h x1 S g Ex) : xm_W K 0 0 0 [(0, xm_r (some h)), (1, xm_i x1)] [] S := by
  unfold wp_X11_keptGeneration at h1
  refine x_aload_n C 0 dX11_keptGeneration_0 rfl rfl ?_
  obtain ⟨ht1, h1⟩ := h1
  refine x_getf_r (n := h) C rfl ht1 fd_117 (by decide) dX11_keptGeneration_1 ?_
  refine x_iload_n C 1 dX11_keptGeneration_4 rfl rfl ?_
  obtain ⟨n2, hr3, h1⟩ := h1
  obtain ⟨ht4, h1⟩ := h1
  refine x_callV (rm' := rm_X2_keptAs) (n := n2) C (kp_X2_keptAs_met h1) lk_53 gw_359 gw_360 xv_2 rfl hr3 ht4 rfl (Nat.le_of_ble_eq_true rfl) ⟨Nat.le_of_ble_eq_true rfl, Nat.le_of_ble_eq_true rfl, (Nat.le_of_ble_eq_true rfl), (Nat.le_of_ble_eq_true rfl)⟩ dX11_keptGeneration_5 xm_kx (xm_kr (fun r6 S5 h1 => ?_))
  refine x_astore_n (L' := [(2, xm_r r6), (0, xm_r (some h)), (1, xm_i x1)]) C dX11_keptGeneration_8 rfl (by decide) rfl ?_
  refine x_aload_n C 0 dX11_keptGeneration_9 rfl rfl ?_
  refine x_ifnonnull (tgt := 24) C dX11_keptGeneration_10 (by decide) (fun z9 => ?_) (fun z9 => ?_)
  · have h1 := h1.1 z9
    refine x_aload_n C 0 dX11_keptGeneration_24 rfl rfl ?_
    exact x_aret C (Nat.le_of_ble_eq_true rfl) (Nat.le_of_ble_eq_true rfl) rfl (by first | exact Or.inl ⟨_, rfl⟩ | exact Or.inr ⟨_, rfl⟩) dX11_keptGeneration_25 (hg _ _ h1)
  · have h1 := h1.2 z9
    exact x_throw (text := "the generation is not kept") C N th_I_in th_I_fit gw_253 gw_254 (by decide +kernel) th_I_at th_I_no th_I_ot (Nat.le_of_ble_eq_true rfl) ⟨Nat.le_of_ble_eq_true rfl, Nat.le_of_ble_eq_true rfl, (Nat.le_of_ble_eq_true rfl), (Nat.le_of_ble_eq_true rfl)⟩ dX11_keptGeneration_13 dX11_keptGeneration_16 (Or.inr ⟨dX11_keptGeneration_17, dX11_keptGeneration_20, dX11_keptGeneration_23⟩) (hEx _ _ h1)
theorem kp_X11_keptGeneration_met {h : Nat} {x1 : Int32} {S : xm_S} {g : Option Nat → xm_S → Prop} {Ex : String → xm_S → Prop}  (h1 : wp_X11_keptGeneration h x1 S g Ex) : xm_Met yX11_keptGeneration cX11_keptGeneration 3 (some ((FieldType.object "Portsmith$Generation"))) rm_X11_keptGeneration [xm_r (some h), xm_i x1] S (xm_qr g) Ex :=
  xm_ofW RX11 (by decide +kernel) rfl (Nat.le_of_ble_eq_true rfl) (fun K C N hq hx hi => kp_X11_keptGeneration h x1 S C N (fun v S h => by rw [hq]; exact ⟨v, rfl, h⟩) (fun X S h => by rw [hx]; exact h)  h1)
def rm_X11_lies : Room := { frames := 7, cells := 1, slots := 6, locals := 120 }
theorem dX11_lies_0 : decode cX11_lies 0 = .ok (.iload_n 1, 1) := by decide +kernel
theorem dX11_lies_1 : decode cX11_lies 1 = .ok (.invokestatic 262, 3) := by decide +kernel
theorem dX11_lies_4 : decode cX11_lies 4 = .ok (.aload_n 0, 1) := by decide +kernel
theorem dX11_lies_5 : decode cX11_lies 5 = .ok (.getfield 78, 3) := by decide +kernel
theorem dX11_lies_8 : decode cX11_lies 8 = .ok (.iload_n 1, 1) := by decide +kernel
theorem dX11_lies_9 : decode cX11_lies 9 = .ok (.iaload, 1) := by decide +kernel
theorem dX11_lies_10 : decode cX11_lies 10 = .ok (.ireturn, 1) := by decide +kernel
def wp_X11_lies (h : Nat) (x1 : Int32) (S : xm_S) (g : Int32 → xm_S → Prop) (Ex : String → xm_S → Prop) : Prop :=
  wp_X11_checkMirror x1 S (fun S1 => st_t S1 h = some (11, 0) ∧ ∃ n4, (st_r S1 h 16) = some n4 ∧ ∃ z7, st_t S1 n4 = some (100, z7) ∧ vp_in x1 z7 ∧ g (st_i S1 n4 (x1).toNatClampNeg) S1) Ex
set_option maxRecDepth 100000 in
set_option maxHeartbeats 4000000 in
theorem kp_X11_lies {K : xm_K} (h : Nat) (x1 : Int32) (S : xm_S) {g : Int32 → xm_S → Prop} {Ex : String → xm_S → Prop} (C : xm_Cx K cX11_lies RX11 2 (some (FieldType.int)) rm_X11_lies) (N : xm_Nx K) (hg : ∀ v S, g v S → xm_q K (some (xm_i v)) S) (hEx : ∀ X S, Ex X S → xm_x K X S)  (h1 : wp_X11_lies h x1 S g Ex) : xm_W K 0 0 0 [(0, xm_r (some h)), (1, xm_i x1)] [] S := by
  unfold wp_X11_lies at h1
  refine x_iload_n C 1 dX11_lies_0 rfl rfl ?_
  refine x_callS (rm' := rm_X11_checkMirror) C (kp_X11_checkMirror_met h1) lk_54 gw_363 rfl (Nat.le_of_ble_eq_true rfl) ⟨Nat.le_of_ble_eq_true rfl, Nat.le_of_ble_eq_true rfl, (Nat.le_of_ble_eq_true rfl), (Nat.le_of_ble_eq_true rfl)⟩ dX11_lies_1 (fun X9 S9 hx9 => x_thru C N (Nat.le_of_ble_eq_true rfl) (Nat.le_of_ble_eq_true rfl) (hEx _ _ hx9)) (xm_kv (fun S1 h1 => ?_))
  refine x_aload_n C 0 dX11_lies_4 rfl rfl ?_
  obtain ⟨ht3, h1⟩ := h1
  refine x_getf_r (n := h) C rfl ht3 fd_127 (by decide) dX11_lies_5 ?_
  refine x_iload_n C 1 dX11_lies_8 rfl rfl ?_
  obtain ⟨n4, hr5, h1⟩ := h1
  obtain ⟨z7, ht6, h1⟩ := h1
  obtain ⟨hi8, h1⟩ := h1
  refine x_iald (n := n4) C hr5 ht6 hi8 dX11_lies_9 ?_
  exact x_iret C (Nat.le_of_ble_eq_true rfl) (Nat.le_of_ble_eq_true rfl) rfl dX11_lies_10 (hg _ _ h1)
theorem kp_X11_lies_met {h : Nat} {x1 : Int32} {S : xm_S} {g : Int32 → xm_S → Prop} {Ex : String → xm_S → Prop}  (h1 : wp_X11_lies h x1 S g Ex) : xm_Met yX11_lies cX11_lies 2 (some (FieldType.int)) rm_X11_lies [xm_r (some h), xm_i x1] S (xm_qi g) Ex :=
  xm_ofW RX11 (by decide +kernel) rfl (Nat.le_of_ble_eq_true rfl) (fun K C N hq hx hi => kp_X11_lies h x1 S C N (fun v S h => by rw [hq]; exact ⟨v, rfl, h⟩) (fun X S h => by rw [hx]; exact h)  h1)
def rm_X11_lock : Room := { frames := 7, cells := 2, slots := 12, locals := 120 }
theorem dX11_lock_0 : decode cX11_lock 0 = .ok (.iload_n 1, 1) := by decide +kernel
theorem dX11_lock_1 : decode cX11_lock 1 = .ok (.invokestatic 212, 3) := by decide +kernel
theorem dX11_lock_4 : decode cX11_lock 4 = .ok (.aload_n 0, 1) := by decide +kernel
theorem dX11_lock_5 : decode cX11_lock 5 = .ok (.getfield 52, 3) := by decide +kernel
theorem dX11_lock_8 : decode cX11_lock 8 = .ok (.iload_n 1, 1) := by decide +kernel
theorem dX11_lock_9 : decode cX11_lock 9 = .ok (.baload, 1) := by decide +kernel
theorem dX11_lock_10 : decode cX11_lock 10 = .ok (.ifCond .ne 13, 3) := by decide +kernel
theorem dX11_lock_13 : decode cX11_lock 13 = .ok (.new 106, 3) := by decide +kernel
theorem dX11_lock_16 : decode cX11_lock 16 = .ok (.dup, 1) := by decide +kernel
theorem dX11_lock_17 : decode cX11_lock 17 = .ok (.ldc 235, 2) := by decide +kernel
theorem dX11_lock_19 : decode cX11_lock 19 = .ok (.invokespecial 110, 3) := by decide +kernel
theorem dX11_lock_22 : decode cX11_lock 22 = .ok (.athrow, 1) := by decide +kernel
theorem dX11_lock_23 : decode cX11_lock 23 = .ok (.iconst 0, 1) := by decide +kernel
theorem dX11_lock_24 : decode cX11_lock 24 = .ok (.istore_n 2, 1) := by decide +kernel
theorem dX11_lock_25 : decode cX11_lock 25 = .ok (.iconst 0, 1) := by decide +kernel
theorem dX11_lock_26 : decode cX11_lock 26 = .ok (.istore_n 3, 1) := by decide +kernel
theorem dX11_lock_27 : decode cX11_lock 27 = .ok (.iload_n 3, 1) := by decide +kernel
theorem dX11_lock_28 : decode cX11_lock 28 = .ok (.bipush 6, 2) := by decide +kernel
theorem dX11_lock_30 : decode cX11_lock 30 = .ok (.if_icmp .ge 45, 3) := by decide +kernel
theorem dX11_lock_33 : decode cX11_lock 33 = .ok (.aload_n 0, 1) := by decide +kernel
theorem dX11_lock_34 : decode cX11_lock 34 = .ok (.getfield 46, 3) := by decide +kernel
theorem dX11_lock_37 : decode cX11_lock 37 = .ok (.iload_n 1, 1) := by decide +kernel
theorem dX11_lock_38 : decode cX11_lock 38 = .ok (.aaload, 1) := by decide +kernel
theorem dX11_lock_39 : decode cX11_lock 39 = .ok (.iload_n 3, 1) := by decide +kernel
theorem dX11_lock_40 : decode cX11_lock 40 = .ok (.aload_n 0, 1) := by decide +kernel
theorem dX11_lock_41 : decode cX11_lock 41 = .ok (.getfield 49, 3) := by decide +kernel
theorem dX11_lock_44 : decode cX11_lock 44 = .ok (.iload_n 1, 1) := by decide +kernel
theorem dX11_lock_45 : decode cX11_lock 45 = .ok (.aaload, 1) := by decide +kernel
theorem dX11_lock_46 : decode cX11_lock 46 = .ok (.iload_n 3, 1) := by decide +kernel
theorem dX11_lock_47 : decode cX11_lock 47 = .ok (.iaload, 1) := by decide +kernel
theorem dX11_lock_48 : decode cX11_lock 48 = .ok (.iastore, 1) := by decide +kernel
theorem dX11_lock_49 : decode cX11_lock 49 = .ok (.iload_n 2, 1) := by decide +kernel
theorem dX11_lock_50 : decode cX11_lock 50 = .ok (.aload_n 0, 1) := by decide +kernel
theorem dX11_lock_51 : decode cX11_lock 51 = .ok (.getfield 46, 3) := by decide +kernel
theorem dX11_lock_54 : decode cX11_lock 54 = .ok (.iload_n 1, 1) := by decide +kernel
theorem dX11_lock_55 : decode cX11_lock 55 = .ok (.aaload, 1) := by decide +kernel
theorem dX11_lock_56 : decode cX11_lock 56 = .ok (.iload_n 3, 1) := by decide +kernel
theorem dX11_lock_57 : decode cX11_lock 57 = .ok (.iaload, 1) := by decide +kernel
theorem dX11_lock_58 : decode cX11_lock 58 = .ok (.iconst (-1), 1) := by decide +kernel
theorem dX11_lock_59 : decode cX11_lock 59 = .ok (.if_icmp .ne 7, 3) := by decide +kernel
theorem dX11_lock_62 : decode cX11_lock 62 = .ok (.iconst 0, 1) := by decide +kernel
theorem dX11_lock_63 : decode cX11_lock 63 = .ok (.goto 4, 3) := by decide +kernel
theorem dX11_lock_66 : decode cX11_lock 66 = .ok (.iconst 1, 1) := by decide +kernel
theorem dX11_lock_67 : decode cX11_lock 67 = .ok (.iadd, 1) := by decide +kernel
theorem dX11_lock_68 : decode cX11_lock 68 = .ok (.istore_n 2, 1) := by decide +kernel
theorem dX11_lock_69 : decode cX11_lock 69 = .ok (.iinc 3 1, 3) := by decide +kernel
theorem dX11_lock_72 : decode cX11_lock 72 = .ok (.goto (-45), 3) := by decide +kernel
theorem dX11_lock_75 : decode cX11_lock 75 = .ok (.iload_n 2, 1) := by decide +kernel
theorem dX11_lock_76 : decode cX11_lock 76 = .ok (.ireturn, 1) := by decide +kernel
def wp_X11_lock_67 (h : Nat) (x1 : Int32) (x3 : Int32) (s0 : Int32) (s1 : Int32) (S : xm_S) (g : Int32 → xm_S → Prop) (Ex : String → xm_S → Prop) (Z27 : Int32 → Int32 → Int32 → xm_S → Prop) : Prop :=
  ∀ y1, y1 = (s1 + s0) → ∀ y3, y3 = (x3 + (1 : Int32)) → Z27 x1 y1 y3 S
set_option maxRecDepth 100000 in
set_option maxHeartbeats 4000000 in
theorem kp_X11_lock_67 {K : xm_K} (h : Nat) (x1 : Int32) (x3 : Int32) (s0 : Int32) (s1 : Int32) (S : xm_S) {g : Int32 → xm_S → Prop} {Ex : String → xm_S → Prop} {Z27 : Int32 → Int32 → Int32 → xm_S → Prop} (C : xm_Cx K cX11_lock RX11 4 (some (FieldType.int)) rm_X11_lock) (N : xm_Nx K) (hg : ∀ v S, g v S → xm_q K (some (xm_i v)) S) (hEx : ∀ X S, Ex X S → xm_x K X S) (hZ27 : ∀ x1 x2 x3 S, Z27 x1 x2 x3 S → xm_W K 1 6 27 [(0, xm_r (some h)), (1, xm_i x1), (2, xm_i x2), (3, xm_i x3)] [] S) (h1 : wp_X11_lock_67 h x1 x3 s0 s1 S g Ex Z27) : xm_W K 1 6 67 [(0, xm_r (some h)), (1, xm_i x1), (3, xm_i x3)] [xm_i s0, xm_i s1] S := by
  unfold wp_X11_lock_67 at h1
  refine x_iadd C dX11_lock_67 ?_
  refine x_topi (fun y1 e2 => ?_)
  have h1 := h1 y1 e2
  refine x_istore_n (L' := [(2, xm_i y1), (0, xm_r (some h)), (1, xm_i x1), (3, xm_i x3)]) C dX11_lock_68 rfl (by decide) rfl ?_
  obtain ⟨y3, e4⟩ : ∃ y3, y3 = (x3 + (1 : Int32)) := ⟨_, rfl⟩
  have h1 := h1 y3 e4
  refine x_iinc (v := y3) (L' := [(3, xm_i y3), (2, xm_i y1), (0, xm_r (some h)), (1, xm_i x1)]) C 3 dX11_lock_69 rfl (by rw [e4]; rfl) (by decide) rfl ?_
  refine x_goto (tgt := 27) C dX11_lock_72 (by decide) ?_
  refine x_keep (L' := [(0, xm_r (some h)), (1, xm_i x1), (2, xm_i y1), (3, xm_i y3)]) C [2, 3, 1, 0] rfl ?_
  exact hZ27 x1 y1 y3 S h1
def wp_X11_lock_27B (h : Nat) (x1 : Int32) (x2 : Int32) (x3 : Int32) (S : xm_S) (g : Int32 → xm_S → Prop) (Ex : String → xm_S → Prop) (Z27 : Int32 → Int32 → Int32 → xm_S → Prop) : Prop :=
  ((nI 6) ≤ x3 → g x2 S) ∧ (¬ (nI 6) ≤ x3 → st_t S h = some (11, 0) ∧ ∃ n6, (st_r S h 7) = some n6 ∧ ∃ z9, st_t S n6 = some (104, z9) ∧ vp_in x1 z9 ∧ ∃ n11, (st_r S h 8) = some n11 ∧ ∃ z14, st_t S n11 = some (104, z14) ∧ vp_in x1 z14 ∧ ∃ n16, (st_r S n11 (x1).toNatClampNeg) = some n16 ∧ ∃ z19, st_t S n16 = some (100, z19) ∧ vp_in x3 z19 ∧ ∃ n21, (st_r S n6 (x1).toNatClampNeg) = some n21 ∧ ∃ z24, st_t S n21 = some (100, z24) ∧ vp_in x3 z24 ∧ ∀ S26, S26 = st_pi S n21 (x3).toNatClampNeg (st_i S n16 (x3).toNatClampNeg) → ∃ n28, (st_r S26 h 7) = some n28 ∧ ∃ z31, st_t S26 n28 = some (104, z31) ∧ vp_in x1 z31 ∧ ∃ n33, (st_r S26 n28 (x1).toNatClampNeg) = some n33 ∧ ∃ z36, st_t S26 n33 = some (100, z36) ∧ vp_in x3 z36 ∧ (¬ (st_i S26 n33 (x3).toNatClampNeg) = (-1 : Int32) → wp_X11_lock_67 h x1 x3 (1 : Int32) x2 S26 g Ex Z27) ∧ ((st_i S26 n33 (x3).toNatClampNeg) = (-1 : Int32) → wp_X11_lock_67 h x1 x3 (0 : Int32) x2 S26 g Ex Z27))
def wp_X11_lock_27 (h : Nat) (x1 : Int32) (x2 : Int32) (x3 : Int32) (S : xm_S) (g : Int32 → xm_S → Prop) (Ex : String → xm_S → Prop) : Prop :=
  ∀ Z27 : Int32 → Int32 → Int32 → xm_S → Prop, (∀ x1 x2 x3 S, wp_X11_lock_27B h x1 x2 x3 S g Ex Z27 → Z27 x1 x2 x3 S) → Z27 x1 x2 x3 S
set_option maxRecDepth 100000 in
set_option maxHeartbeats 4000000 in
theorem kp_X11_lock_27B {K : xm_K} (h : Nat) (x1 : Int32) (x2 : Int32) (x3 : Int32) (S : xm_S) {g : Int32 → xm_S → Prop} {Ex : String → xm_S → Prop} {Z27 : Int32 → Int32 → Int32 → xm_S → Prop} (C : xm_Cx K cX11_lock RX11 4 (some (FieldType.int)) rm_X11_lock) (N : xm_Nx K) (hg : ∀ v S, g v S → xm_q K (some (xm_i v)) S) (hEx : ∀ X S, Ex X S → xm_x K X S) (hZ27 : ∀ x1 x2 x3 S, Z27 x1 x2 x3 S → xm_W K 1 6 27 [(0, xm_r (some h)), (1, xm_i x1), (2, xm_i x2), (3, xm_i x3)] [] S) (h1 : wp_X11_lock_27B h x1 x2 x3 S g Ex Z27) : xm_W K 1 6 27 [(0, xm_r (some h)), (1, xm_i x1), (2, xm_i x2), (3, xm_i x3)] [] S := by
  unfold wp_X11_lock_27B at h1
  refine x_iload_n C 3 dX11_lock_27 rfl rfl ?_
  refine x_bipush (v := (nI 6)) C dX11_lock_28 (by decide) ?_
  refine x_icmp_ge (tgt := 75) C dX11_lock_30 (by decide) (fun z9 => ?_) (fun z9 => ?_)
  · have h1 := h1.1 z9
    refine x_iload_n C 2 dX11_lock_75 rfl rfl ?_
    exact x_iret C (Nat.le_of_ble_eq_true rfl) (Nat.le_of_ble_eq_true rfl) rfl dX11_lock_76 (hg _ _ h1)
  · have h1 := h1.2 z9
    refine x_aload_n C 0 dX11_lock_33 rfl rfl ?_
    obtain ⟨ht5, h1⟩ := h1
    refine x_getf_r (n := h) C rfl ht5 fd_112 (by decide) dX11_lock_34 ?_
    refine x_iload_n C 1 dX11_lock_37 rfl rfl ?_
    obtain ⟨n6, hr7, h1⟩ := h1
    obtain ⟨z9, ht8, h1⟩ := h1
    obtain ⟨hi10, h1⟩ := h1
    refine x_aald (n := n6) C hr7 (by decide) rfl ht8 hi10 dX11_lock_38 ?_
    refine x_iload_n C 3 dX11_lock_39 rfl rfl ?_
    refine x_aload_n C 0 dX11_lock_40 rfl rfl ?_
    refine x_getf_r (n := h) C rfl ht5 fd_137 (by decide) dX11_lock_41 ?_
    refine x_iload_n C 1 dX11_lock_44 rfl rfl ?_
    obtain ⟨n11, hr12, h1⟩ := h1
    obtain ⟨z14, ht13, h1⟩ := h1
    obtain ⟨hi15, h1⟩ := h1
    refine x_aald (n := n11) C hr12 (by decide) rfl ht13 hi15 dX11_lock_45 ?_
    refine x_iload_n C 3 dX11_lock_46 rfl rfl ?_
    obtain ⟨n16, hr17, h1⟩ := h1
    obtain ⟨z19, ht18, h1⟩ := h1
    obtain ⟨hi20, h1⟩ := h1
    refine x_iald (n := n16) C hr17 ht18 hi20 dX11_lock_47 ?_
    obtain ⟨n21, hr22, h1⟩ := h1
    obtain ⟨z24, ht23, h1⟩ := h1
    obtain ⟨hi25, h1⟩ := h1
    refine x_iast (n := n21) C hr22 ht23 hi25 dX11_lock_48 ?_
    refine x_topS (fun S26 e27 => ?_)
    have h1 := h1 S26 e27
    refine x_iload_n C 2 dX11_lock_49 rfl rfl ?_
    refine x_aload_n C 0 dX11_lock_50 rfl rfl ?_
    refine x_getf_r (n := h) C rfl (tk_p e27 ht5) fd_112 (by decide) dX11_lock_51 ?_
    refine x_iload_n C 1 dX11_lock_54 rfl rfl ?_
    obtain ⟨n28, hr29, h1⟩ := h1
    obtain ⟨z31, ht30, h1⟩ := h1
    obtain ⟨hi32, h1⟩ := h1
    refine x_aald (n := n28) C hr29 (by decide) rfl ht30 hi32 dX11_lock_55 ?_
    refine x_iload_n C 3 dX11_lock_56 rfl rfl ?_
    obtain ⟨n33, hr34, h1⟩ := h1
    obtain ⟨z36, ht35, h1⟩ := h1
    obtain ⟨hi37, h1⟩ := h1
    refine x_iald (n := n33) C hr34 ht35 hi37 dX11_lock_57 ?_
    refine x_iconst (v := (-1 : Int32)) C dX11_lock_58 (by decide) ?_
    refine x_icmp_ne (tgt := 66) C dX11_lock_59 (by decide) (fun z9 => ?_) (fun z9 => ?_)
    · have h1 := h1.1 z9
      refine x_iconst (v := (1 : Int32)) C dX11_lock_66 (by decide) ?_
      refine x_keep (L' := [(0, xm_r (some h)), (1, xm_i x1), (3, xm_i x3)]) C [0, 1, 3] rfl ?_
      exact kp_X11_lock_67 h x1 x3 (1 : Int32) x2 S26 C N hg hEx hZ27 h1
    · have h1 := h1.2 z9
      refine x_iconst (v := (0 : Int32)) C dX11_lock_62 (by decide) ?_
      refine x_goto (tgt := 67) C dX11_lock_63 (by decide) ?_
      refine x_keep (L' := [(0, xm_r (some h)), (1, xm_i x1), (3, xm_i x3)]) C [0, 1, 3] rfl ?_
      exact kp_X11_lock_67 h x1 x3 (0 : Int32) x2 S26 C N hg hEx hZ27 h1
theorem kp_X11_lock_27 {K : xm_K} (h : Nat) (x1 : Int32) (x2 : Int32) (x3 : Int32) (S : xm_S) {g : Int32 → xm_S → Prop} {Ex : String → xm_S → Prop} (C : xm_Cx K cX11_lock RX11 4 (some (FieldType.int)) rm_X11_lock) (N : xm_Nx K) (hg : ∀ v S, g v S → xm_q K (some (xm_i v)) S) (hEx : ∀ X S, Ex X S → xm_x K X S)  (h1 : wp_X11_lock_27 h x1 x2 x3 S g Ex) : xm_W K 1 6 27 [(0, xm_r (some h)), (1, xm_i x1), (2, xm_i x2), (3, xm_i x3)] [] S :=
  h1 (fun x1 x2 x3 S => xm_W K 1 6 27 [(0, xm_r (some h)), (1, xm_i x1), (2, xm_i x2), (3, xm_i x3)] [] S) (fun x1 x2 x3 S hb => kp_X11_lock_27B h x1 x2 x3 S C N hg hEx (fun x1 x2 x3 S hz => hz) hb)
def wp_X11_lock (h : Nat) (x1 : Int32) (S : xm_S) (g : Int32 → xm_S → Prop) (Ex : String → xm_S → Prop) : Prop :=
  wp_X11_checkPlatform x1 S (fun S38 => st_t S38 h = some (11, 0) ∧ ∃ n41, (st_r S38 h 9) = some n41 ∧ ∃ z44, st_t S38 n41 = some (101, z44) ∧ vp_in x1 z44 ∧ (¬ (st_i S38 n41 (x1).toNatClampNeg) = 0 → wp_X11_lock_27 h x1 (0 : Int32) (0 : Int32) S38 g Ex) ∧ ((st_i S38 n41 (x1).toNatClampNeg) = 0 → Ex xm_eS S38)) Ex
set_option maxRecDepth 100000 in
set_option maxHeartbeats 4000000 in
theorem kp_X11_lock {K : xm_K} (h : Nat) (x1 : Int32) (S : xm_S) {g : Int32 → xm_S → Prop} {Ex : String → xm_S → Prop} (C : xm_Cx K cX11_lock RX11 4 (some (FieldType.int)) rm_X11_lock) (N : xm_Nx K) (hg : ∀ v S, g v S → xm_q K (some (xm_i v)) S) (hEx : ∀ X S, Ex X S → xm_x K X S)  (h1 : wp_X11_lock h x1 S g Ex) : xm_W K 0 0 0 [(0, xm_r (some h)), (1, xm_i x1)] [] S := by
  unfold wp_X11_lock at h1
  refine x_iload_n C 1 dX11_lock_0 rfl rfl ?_
  refine x_callS (rm' := rm_X11_checkPlatform) C (kp_X11_checkPlatform_met h1) lk_36 gw_277 rfl (Nat.le_of_ble_eq_true rfl) ⟨Nat.le_of_ble_eq_true rfl, Nat.le_of_ble_eq_true rfl, (Nat.le_of_ble_eq_true rfl), (Nat.le_of_ble_eq_true rfl)⟩ dX11_lock_1 (fun X9 S9 hx9 => x_thru C N (Nat.le_of_ble_eq_true rfl) (Nat.le_of_ble_eq_true rfl) (hEx _ _ hx9)) (xm_kv (fun S38 h1 => ?_))
  refine x_aload_n C 0 dX11_lock_4 rfl rfl ?_
  obtain ⟨ht40, h1⟩ := h1
  refine x_getf_r (n := h) C rfl ht40 fd_138 (by decide) dX11_lock_5 ?_
  refine x_iload_n C 1 dX11_lock_8 rfl rfl ?_
  obtain ⟨n41, hr42, h1⟩ := h1
  obtain ⟨z44, ht43, h1⟩ := h1
  obtain ⟨hi45, h1⟩ := h1
  refine x_zald (n := n41) C hr42 ht43 hi45 dX11_lock_9 ?_
  refine x_if_ne (tgt := 23) C dX11_lock_10 (by decide) (fun z9 => ?_) (fun z9 => ?_)
  · have h1 := h1.1 z9
    refine x_iconst (v := (0 : Int32)) C dX11_lock_23 (by decide) ?_
    refine x_istore_n (L' := [(2, xm_i (0 : Int32)), (0, xm_r (some h)), (1, xm_i x1)]) C dX11_lock_24 rfl (by decide) rfl ?_
    refine x_iconst (v := (0 : Int32)) C dX11_lock_25 (by decide) ?_
    refine x_istore_n (L' := [(3, xm_i (0 : Int32)), (2, xm_i (0 : Int32)), (0, xm_r (some h)), (1, xm_i x1)]) C dX11_lock_26 rfl (by decide) rfl ?_
    refine x_keep (L' := [(0, xm_r (some h)), (1, xm_i x1), (2, xm_i (0 : Int32)), (3, xm_i (0 : Int32))]) C [2, 3, 1, 0] rfl ?_
    exact kp_X11_lock_27 h x1 (0 : Int32) (0 : Int32) S38 C N hg hEx  h1
  · have h1 := h1.2 z9
    exact x_throw (text := "nothing is proposed") C N th_S_in th_S_fit gw_257 gw_258 (by decide +kernel) th_S_at th_S_no th_S_ot (Nat.le_of_ble_eq_true rfl) ⟨Nat.le_of_ble_eq_true rfl, Nat.le_of_ble_eq_true rfl, (Nat.le_of_ble_eq_true rfl), (Nat.le_of_ble_eq_true rfl)⟩ dX11_lock_13 dX11_lock_16 (Or.inl ⟨dX11_lock_17, dX11_lock_19, dX11_lock_22⟩) (hEx _ _ h1)
theorem kp_X11_lock_met {h : Nat} {x1 : Int32} {S : xm_S} {g : Int32 → xm_S → Prop} {Ex : String → xm_S → Prop}  (h1 : wp_X11_lock h x1 S g Ex) : xm_Met yX11_lock cX11_lock 4 (some (FieldType.int)) rm_X11_lock [xm_r (some h), xm_i x1] S (xm_qi g) Ex :=
  xm_ofW RX11 (by decide +kernel) rfl (Nat.le_of_ble_eq_true rfl) (fun K C N hq hx hi => kp_X11_lock h x1 S C N (fun v S h => by rw [hq]; exact ⟨v, rfl, h⟩) (fun X S h => by rw [hx]; exact h)  h1)
def rm_X11_locked : Room := { frames := 7, cells := 2, slots := 12, locals := 120 }
theorem dX11_locked_0 : decode cX11_locked 0 = .ok (.iload_n 1, 1) := by decide +kernel
theorem dX11_locked_1 : decode cX11_locked 1 = .ok (.invokestatic 212, 3) := by decide +kernel
theorem dX11_locked_4 : decode cX11_locked 4 = .ok (.iload_n 2, 1) := by decide +kernel
theorem dX11_locked_5 : decode cX11_locked 5 = .ok (.invokestatic 122, 3) := by decide +kernel
theorem dX11_locked_8 : decode cX11_locked 8 = .ok (.aload_n 0, 1) := by decide +kernel
theorem dX11_locked_9 : decode cX11_locked 9 = .ok (.getfield 46, 3) := by decide +kernel
theorem dX11_locked_12 : decode cX11_locked 12 = .ok (.iload_n 1, 1) := by decide +kernel
theorem dX11_locked_13 : decode cX11_locked 13 = .ok (.aaload, 1) := by decide +kernel
theorem dX11_locked_14 : decode cX11_locked 14 = .ok (.iload_n 2, 1) := by decide +kernel
theorem dX11_locked_15 : decode cX11_locked 15 = .ok (.iaload, 1) := by decide +kernel
theorem dX11_locked_16 : decode cX11_locked 16 = .ok (.ireturn, 1) := by decide +kernel
def wp_X11_locked (h : Nat) (x1 : Int32) (x2 : Int32) (S : xm_S) (g : Int32 → xm_S → Prop) (Ex : String → xm_S → Prop) : Prop :=
  wp_X11_checkPlatform x1 S (fun S1 => wp_X11_checkPack x2 S1 (fun S3 => st_t S3 h = some (11, 0) ∧ ∃ n6, (st_r S3 h 7) = some n6 ∧ ∃ z9, st_t S3 n6 = some (104, z9) ∧ vp_in x1 z9 ∧ ∃ n11, (st_r S3 n6 (x1).toNatClampNeg) = some n11 ∧ ∃ z14, st_t S3 n11 = some (100, z14) ∧ vp_in x2 z14 ∧ g (st_i S3 n11 (x2).toNatClampNeg) S3) Ex) Ex
set_option maxRecDepth 100000 in
set_option maxHeartbeats 4000000 in
theorem kp_X11_locked {K : xm_K} (h : Nat) (x1 : Int32) (x2 : Int32) (S : xm_S) {g : Int32 → xm_S → Prop} {Ex : String → xm_S → Prop} (C : xm_Cx K cX11_locked RX11 3 (some (FieldType.int)) rm_X11_locked) (N : xm_Nx K) (hg : ∀ v S, g v S → xm_q K (some (xm_i v)) S) (hEx : ∀ X S, Ex X S → xm_x K X S)  (h1 : wp_X11_locked h x1 x2 S g Ex) : xm_W K 0 0 0 [(0, xm_r (some h)), (1, xm_i x1), (2, xm_i x2)] [] S := by
  unfold wp_X11_locked at h1
  refine x_iload_n C 1 dX11_locked_0 rfl rfl ?_
  refine x_callS (rm' := rm_X11_checkPlatform) C (kp_X11_checkPlatform_met h1) lk_36 gw_277 rfl (Nat.le_of_ble_eq_true rfl) ⟨Nat.le_of_ble_eq_true rfl, Nat.le_of_ble_eq_true rfl, (Nat.le_of_ble_eq_true rfl), (Nat.le_of_ble_eq_true rfl)⟩ dX11_locked_1 (fun X9 S9 hx9 => x_thru C N (Nat.le_of_ble_eq_true rfl) (Nat.le_of_ble_eq_true rfl) (hEx _ _ hx9)) (xm_kv (fun S1 h1 => ?_))
  refine x_iload_n C 2 dX11_locked_4 rfl rfl ?_
  refine x_callS (rm' := rm_X11_checkPack) C (kp_X11_checkPack_met h1) lk_38 gw_286 rfl (Nat.le_of_ble_eq_true rfl) ⟨Nat.le_of_ble_eq_true rfl, Nat.le_of_ble_eq_true rfl, (Nat.le_of_ble_eq_true rfl), (Nat.le_of_ble_eq_true rfl)⟩ dX11_locked_5 (fun X9 S9 hx9 => x_thru C N (Nat.le_of_ble_eq_true rfl) (Nat.le_of_ble_eq_true rfl) (hEx _ _ hx9)) (xm_kv (fun S3 h1 => ?_))
  refine x_aload_n C 0 dX11_locked_8 rfl rfl ?_
  obtain ⟨ht5, h1⟩ := h1
  refine x_getf_r (n := h) C rfl ht5 fd_112 (by decide) dX11_locked_9 ?_
  refine x_iload_n C 1 dX11_locked_12 rfl rfl ?_
  obtain ⟨n6, hr7, h1⟩ := h1
  obtain ⟨z9, ht8, h1⟩ := h1
  obtain ⟨hi10, h1⟩ := h1
  refine x_aald (n := n6) C hr7 (by decide) rfl ht8 hi10 dX11_locked_13 ?_
  refine x_iload_n C 2 dX11_locked_14 rfl rfl ?_
  obtain ⟨n11, hr12, h1⟩ := h1
  obtain ⟨z14, ht13, h1⟩ := h1
  obtain ⟨hi15, h1⟩ := h1
  refine x_iald (n := n11) C hr12 ht13 hi15 dX11_locked_15 ?_
  exact x_iret C (Nat.le_of_ble_eq_true rfl) (Nat.le_of_ble_eq_true rfl) rfl dX11_locked_16 (hg _ _ h1)
theorem kp_X11_locked_met {h : Nat} {x1 : Int32} {x2 : Int32} {S : xm_S} {g : Int32 → xm_S → Prop} {Ex : String → xm_S → Prop}  (h1 : wp_X11_locked h x1 x2 S g Ex) : xm_Met yX11_locked cX11_locked 3 (some (FieldType.int)) rm_X11_locked [xm_r (some h), xm_i x1, xm_i x2] S (xm_qi g) Ex :=
  xm_ofW RX11 (by decide +kernel) rfl (Nat.le_of_ble_eq_true rfl) (fun K C N hq hx hi => kp_X11_locked h x1 x2 S C N (fun v S h => by rw [hq]; exact ⟨v, rfl, h⟩) (fun X S h => by rw [hx]; exact h)  h1)
def rm_X11_mirror : Room := { frames := 8, cells := 4, slots := 24, locals := 142 }
theorem dX11_mirror_0 : decode cX11_mirror 0 = .ok (.iload_n 1, 1) := by decide +kernel
theorem dX11_mirror_1 : decode cX11_mirror 1 = .ok (.invokestatic 262, 3) := by decide +kernel
theorem dX11_mirror_4 : decode cX11_mirror 4 = .ok (.aload_n 0, 1) := by decide +kernel
theorem dX11_mirror_5 : decode cX11_mirror 5 = .ok (.iload_n 2, 1) := by decide +kernel
theorem dX11_mirror_6 : decode cX11_mirror 6 = .ok (.iload_n 3, 1) := by decide +kernel
theorem dX11_mirror_7 : decode cX11_mirror 7 = .ok (.invokevirtual 152, 3) := by decide +kernel
theorem dX11_mirror_10 : decode cX11_mirror 10 = .ok (.iload 4, 2) := by decide +kernel
theorem dX11_mirror_12 : decode cX11_mirror 12 = .ok (.iconst (-1), 1) := by decide +kernel
theorem dX11_mirror_13 : decode cX11_mirror 13 = .ok (.if_icmp .eq 12, 3) := by decide +kernel
theorem dX11_mirror_16 : decode cX11_mirror 16 = .ok (.iload 4, 2) := by decide +kernel
theorem dX11_mirror_18 : decode cX11_mirror 18 = .ok (.iconst 0, 1) := by decide +kernel
theorem dX11_mirror_19 : decode cX11_mirror 19 = .ok (.sipush 999, 3) := by decide +kernel
theorem dX11_mirror_22 : decode cX11_mirror 22 = .ok (.invokestatic 132, 3) := by decide +kernel
theorem dX11_mirror_25 : decode cX11_mirror 25 = .ok (.aload_n 0, 1) := by decide +kernel
theorem dX11_mirror_26 : decode cX11_mirror 26 = .ok (.getfield 18, 3) := by decide +kernel
theorem dX11_mirror_29 : decode cX11_mirror 29 = .ok (.iload_n 2, 1) := by decide +kernel
theorem dX11_mirror_30 : decode cX11_mirror 30 = .ok (.aaload, 1) := by decide +kernel
theorem dX11_mirror_31 : decode cX11_mirror 31 = .ok (.getfield 143, 3) := by decide +kernel
theorem dX11_mirror_34 : decode cX11_mirror 34 = .ok (.iload_n 3, 1) := by decide +kernel
theorem dX11_mirror_35 : decode cX11_mirror 35 = .ok (.aaload, 1) := by decide +kernel
theorem dX11_mirror_36 : decode cX11_mirror 36 = .ok (.astore 5, 2) := by decide +kernel
theorem dX11_mirror_38 : decode cX11_mirror 38 = .ok (.aload 5, 2) := by decide +kernel
theorem dX11_mirror_40 : decode cX11_mirror 40 = .ok (.iload_n 1, 1) := by decide +kernel
theorem dX11_mirror_41 : decode cX11_mirror 41 = .ok (.invokevirtual 265, 3) := by decide +kernel
theorem dX11_mirror_44 : decode cX11_mirror 44 = .ok (.istore 6, 2) := by decide +kernel
theorem dX11_mirror_46 : decode cX11_mirror 46 = .ok (.aload 5, 2) := by decide +kernel
theorem dX11_mirror_48 : decode cX11_mirror 48 = .ok (.getfield 268, 3) := by decide +kernel
theorem dX11_mirror_51 : decode cX11_mirror 51 = .ok (.iload_n 1, 1) := by decide +kernel
theorem dX11_mirror_52 : decode cX11_mirror 52 = .ok (.iload 4, 2) := by decide +kernel
theorem dX11_mirror_54 : decode cX11_mirror 54 = .ok (.iastore, 1) := by decide +kernel
theorem dX11_mirror_55 : decode cX11_mirror 55 = .ok (.iload 6, 2) := by decide +kernel
theorem dX11_mirror_57 : decode cX11_mirror 57 = .ok (.ireturn, 1) := by decide +kernel
def wp_X11_mirror_25 (h : Nat) (x1 : Int32) (x2 : Int32) (x3 : Int32) (x4 : Int32) (S : xm_S) (g : Int32 → xm_S → Prop) (Ex : String → xm_S → Prop) : Prop :=
  st_t S h = some (11, 0) ∧ ∃ n2, (st_r S h 1) = some n2 ∧ ∃ z5, st_t S n2 = some (115, z5) ∧ vp_in x2 z5 ∧ ∃ n7, (st_r S n2 (x2).toNatClampNeg) = some n7 ∧ st_t S n7 = some (5, 0) ∧ ∃ n10, (st_r S n7 1) = some n10 ∧ ∃ z13, st_t S n10 = some (120, z13) ∧ vp_in x3 z13 ∧ ∃ n15, (st_r S n10 (x3).toNatClampNeg) = some n15 ∧ st_t S n15 = some (10, 0) ∧ wp_X10_givenBy n15 x1 S (fun r19 S18 => ∃ n20, (st_r S n10 (x3).toNatClampNeg) = some n20 ∧ st_t S18 n20 = some (10, 0) ∧ ∃ n23, (st_r S18 n20 17) = some n23 ∧ ∃ z26, st_t S18 n23 = some (100, z26) ∧ vp_in x1 z26 ∧ ∀ S28, S28 = st_pi S18 n23 (x1).toNatClampNeg x4 → g r19 S28)
set_option maxRecDepth 100000 in
set_option maxHeartbeats 4000000 in
theorem kp_X11_mirror_25 {K : xm_K} (h : Nat) (x1 : Int32) (x2 : Int32) (x3 : Int32) (x4 : Int32) (S : xm_S) {g : Int32 → xm_S → Prop} {Ex : String → xm_S → Prop} (C : xm_Cx K cX11_mirror RX11 7 (some (FieldType.int)) rm_X11_mirror) (N : xm_Nx K) (hg : ∀ v S, g v S → xm_q K (some (xm_i v)) S) (hEx : ∀ X S, Ex X S → xm_x K X S)  (h1 : wp_X11_mirror_25 h x1 x2 x3 x4 S g Ex) : xm_W K 4 24 25 [(0, xm_r (some h)), (1, xm_i x1), (2, xm_i x2), (3, xm_i x3), (4, xm_i x4)] [] S := by
  unfold wp_X11_mirror_25 at h1
  refine x_aload_n C 0 dX11_mirror_25 rfl rfl ?_
  obtain ⟨ht1, h1⟩ := h1
  refine x_getf_r (n := h) C rfl ht1 fd_106 (by decide) dX11_mirror_26 ?_
  refine x_iload_n C 2 dX11_mirror_29 rfl rfl ?_
  obtain ⟨n2, hr3, h1⟩ := h1
  obtain ⟨z5, ht4, h1⟩ := h1
  obtain ⟨hi6, h1⟩ := h1
  refine x_aald (n := n2) C hr3 (by decide) rfl ht4 hi6 dX11_mirror_30 ?_
  obtain ⟨n7, hr8, h1⟩ := h1
  obtain ⟨ht9, h1⟩ := h1
  refine x_getf_r (n := n7) C hr8 ht9 fd_107 (by decide) dX11_mirror_31 ?_
  refine x_iload_n C 3 dX11_mirror_34 rfl rfl ?_
  obtain ⟨n10, hr11, h1⟩ := h1
  obtain ⟨z13, ht12, h1⟩ := h1
  obtain ⟨hi14, h1⟩ := h1
  refine x_aald (n := n10) C hr11 (by decide) rfl ht12 hi14 dX11_mirror_35 ?_
  refine x_astore (L' := [(5, xm_r (st_r S n10 (x3).toNatClampNeg)), (0, xm_r (some h)), (1, xm_i x1), (2, xm_i x2), (3, xm_i x3), (4, xm_i x4)]) C dX11_mirror_36 (by decide) rfl ?_
  refine x_aload C 0 dX11_mirror_38 rfl ?_
  refine x_iload_n C 2 dX11_mirror_40 rfl rfl ?_
  obtain ⟨n15, hr16, h1⟩ := h1
  obtain ⟨ht17, h1⟩ := h1
  refine x_callV (rm' := rm_X10_givenBy) (n := n15) C (kp_X10_givenBy_met h1) lk_45 gw_317 gw_318 xv_10 rfl hr16 ht17 rfl (Nat.le_of_ble_eq_true rfl) ⟨Nat.le_of_ble_eq_true rfl, Nat.le_of_ble_eq_true rfl, (Nat.le_of_ble_eq_true rfl), (Nat.le_of_ble_eq_true rfl)⟩ dX11_mirror_41 xm_kx (xm_ki (fun r19 S18 h1 => ?_))
  refine x_istore (L' := [(6, xm_i r19), (5, xm_r (st_r S n10 (x3).toNatClampNeg)), (0, xm_r (some h)), (1, xm_i x1), (2, xm_i x2), (3, xm_i x3), (4, xm_i x4)]) C dX11_mirror_44 (by decide) rfl ?_
  refine x_aload C 1 dX11_mirror_46 rfl ?_
  obtain ⟨n20, hr21, h1⟩ := h1
  obtain ⟨ht22, h1⟩ := h1
  refine x_getf_r (n := n20) C hr21 ht22 fd_139 (by decide) dX11_mirror_48 ?_
  refine x_iload_n C 3 dX11_mirror_51 rfl rfl ?_
  refine x_iload C 6 dX11_mirror_52 rfl ?_
  obtain ⟨n23, hr24, h1⟩ := h1
  obtain ⟨z26, ht25, h1⟩ := h1
  obtain ⟨hi27, h1⟩ := h1
  refine x_iast (n := n23) C hr24 ht25 hi27 dX11_mirror_54 ?_
  refine x_topS (fun S28 e29 => ?_)
  have h1 := h1 S28 e29
  refine x_iload C 0 dX11_mirror_55 rfl ?_
  exact x_iret C (Nat.le_of_ble_eq_true rfl) (Nat.le_of_ble_eq_true rfl) rfl dX11_mirror_57 (hg _ _ h1)
def wp_X11_mirror (h : Nat) (x1 : Int32) (x2 : Int32) (x3 : Int32) (x4 : Int32) (S : xm_S) (g : Int32 → xm_S → Prop) (Ex : String → xm_S → Prop) : Prop :=
  wp_X11_checkMirror x1 S (fun S30 => st_t S30 h = some (11, 0) ∧ wp_X11_checkVersion h x2 x3 S30 (fun S33 => (x4 = (-1 : Int32) → wp_X11_mirror_25 h x1 x2 x3 x4 S33 g Ex) ∧ (¬ x4 = (-1 : Int32) → wp_X11_checkRange x4 (0 : Int32) (nI 999) S33 (fun S35 => wp_X11_mirror_25 h x1 x2 x3 x4 S35 g Ex) Ex)) Ex) Ex
set_option maxRecDepth 100000 in
set_option maxHeartbeats 4000000 in
theorem kp_X11_mirror {K : xm_K} (h : Nat) (x1 : Int32) (x2 : Int32) (x3 : Int32) (x4 : Int32) (S : xm_S) {g : Int32 → xm_S → Prop} {Ex : String → xm_S → Prop} (C : xm_Cx K cX11_mirror RX11 7 (some (FieldType.int)) rm_X11_mirror) (N : xm_Nx K) (hg : ∀ v S, g v S → xm_q K (some (xm_i v)) S) (hEx : ∀ X S, Ex X S → xm_x K X S)  (h1 : wp_X11_mirror h x1 x2 x3 x4 S g Ex) : xm_W K 0 0 0 [(0, xm_r (some h)), (1, xm_i x1), (2, xm_i x2), (3, xm_i x3), (4, xm_i x4)] [] S := by
  unfold wp_X11_mirror at h1
  refine x_iload_n C 1 dX11_mirror_0 rfl rfl ?_
  refine x_callS (rm' := rm_X11_checkMirror) C (kp_X11_checkMirror_met h1) lk_54 gw_363 rfl (Nat.le_of_ble_eq_true rfl) ⟨Nat.le_of_ble_eq_true rfl, Nat.le_of_ble_eq_true rfl, (Nat.le_of_ble_eq_true rfl), (Nat.le_of_ble_eq_true rfl)⟩ dX11_mirror_1 (fun X9 S9 hx9 => x_thru C N (Nat.le_of_ble_eq_true rfl) (Nat.le_of_ble_eq_true rfl) (hEx _ _ hx9)) (xm_kv (fun S30 h1 => ?_))
  refine x_aload_n C 0 dX11_mirror_4 rfl rfl ?_
  refine x_iload_n C 2 dX11_mirror_5 rfl rfl ?_
  refine x_iload_n C 3 dX11_mirror_6 rfl rfl ?_
  obtain ⟨ht32, h1⟩ := h1
  refine x_callV (rm' := rm_X11_checkVersion) (n := h) C (kp_X11_checkVersion_met h1) lk_42 gw_305 gw_306 xv_11 rfl rfl ht32 rfl (Nat.le_of_ble_eq_true rfl) ⟨Nat.le_of_ble_eq_true rfl, Nat.le_of_ble_eq_true rfl, (Nat.le_of_ble_eq_true rfl), (Nat.le_of_ble_eq_true rfl)⟩ dX11_mirror_7 (fun X9 S9 hx9 => x_thru C N (Nat.le_of_ble_eq_true rfl) (Nat.le_of_ble_eq_true rfl) (hEx _ _ hx9)) (xm_kv (fun S33 h1 => ?_))
  refine x_iload C 4 dX11_mirror_10 rfl ?_
  refine x_iconst (v := (-1 : Int32)) C dX11_mirror_12 (by decide) ?_
  refine x_icmp_eq (tgt := 25) C dX11_mirror_13 (by decide) (fun z9 => ?_) (fun z9 => ?_)
  · have h1 := h1.1 z9
    refine x_cs (cells' := 4) (slots' := 24) C (Nat.le_of_ble_eq_true rfl) (Nat.le_of_ble_eq_true rfl) ?_
    exact kp_X11_mirror_25 h x1 x2 x3 x4 S33 C N hg hEx  h1
  · have h1 := h1.2 z9
    refine x_iload C 4 dX11_mirror_16 rfl ?_
    refine x_iconst (v := (0 : Int32)) C dX11_mirror_18 (by decide) ?_
    refine x_sipush (v := (nI 999)) C dX11_mirror_19 (by decide) ?_
    refine x_callS (rm' := rm_X11_checkRange) C (kp_X11_checkRange_met h1) lk_37 gw_280 rfl (Nat.le_of_ble_eq_true rfl) ⟨Nat.le_of_ble_eq_true rfl, Nat.le_of_ble_eq_true rfl, (Nat.le_of_ble_eq_true rfl), (Nat.le_of_ble_eq_true rfl)⟩ dX11_mirror_22 (fun X9 S9 hx9 => x_thru C N (Nat.le_of_ble_eq_true rfl) (Nat.le_of_ble_eq_true rfl) (hEx _ _ hx9)) (xm_kv (fun S35 h1 => ?_))
    exact kp_X11_mirror_25 h x1 x2 x3 x4 S35 C N hg hEx  h1
theorem kp_X11_mirror_met {h : Nat} {x1 : Int32} {x2 : Int32} {x3 : Int32} {x4 : Int32} {S : xm_S} {g : Int32 → xm_S → Prop} {Ex : String → xm_S → Prop}  (h1 : wp_X11_mirror h x1 x2 x3 x4 S g Ex) : xm_Met yX11_mirror cX11_mirror 7 (some (FieldType.int)) rm_X11_mirror [xm_r (some h), xm_i x1, xm_i x2, xm_i x3, xm_i x4] S (xm_qi g) Ex :=
  xm_ofW RX11 (by decide +kernel) rfl (Nat.le_of_ble_eq_true rfl) (fun K C N hq hx hi => kp_X11_mirror h x1 x2 x3 x4 S C N (fun v S h => by rw [hq]; exact ⟨v, rfl, h⟩) (fun X S h => by rw [hx]; exact h)  h1)
