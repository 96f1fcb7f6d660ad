def rm_J6_bitCount_0f7a4 : Room := { frames := 1, cells := 0, slots := 0, locals := 20 }
theorem dJ6_bitCount_0f7a4_0 : decode cJ6_bitCount_0f7a4 0 = .ok (.iload_n 0, 1) := by decide +kernel
theorem dJ6_bitCount_0f7a4_1 : decode cJ6_bitCount_0f7a4 1 = .ok (.iload_n 0, 1) := by decide +kernel
theorem dJ6_bitCount_0f7a4_2 : decode cJ6_bitCount_0f7a4 2 = .ok (.iconst 1, 1) := by decide +kernel
theorem dJ6_bitCount_0f7a4_3 : decode cJ6_bitCount_0f7a4 3 = .ok (.iushr, 1) := by decide +kernel
theorem dJ6_bitCount_0f7a4_4 : decode cJ6_bitCount_0f7a4 4 = .ok (.ldc_w 265, 3) := by decide +kernel
theorem dJ6_bitCount_0f7a4_7 : decode cJ6_bitCount_0f7a4 7 = .ok (.iand, 1) := by decide +kernel
theorem dJ6_bitCount_0f7a4_8 : decode cJ6_bitCount_0f7a4 8 = .ok (.isub, 1) := by decide +kernel
theorem dJ6_bitCount_0f7a4_9 : decode cJ6_bitCount_0f7a4 9 = .ok (.istore_n 0, 1) := by decide +kernel
theorem dJ6_bitCount_0f7a4_10 : decode cJ6_bitCount_0f7a4 10 = .ok (.iload_n 0, 1) := by decide +kernel
theorem dJ6_bitCount_0f7a4_11 : decode cJ6_bitCount_0f7a4 11 = .ok (.ldc_w 266, 3) := by decide +kernel
theorem dJ6_bitCount_0f7a4_14 : decode cJ6_bitCount_0f7a4 14 = .ok (.iand, 1) := by decide +kernel
theorem dJ6_bitCount_0f7a4_15 : decode cJ6_bitCount_0f7a4 15 = .ok (.iload_n 0, 1) := by decide +kernel
theorem dJ6_bitCount_0f7a4_16 : decode cJ6_bitCount_0f7a4 16 = .ok (.iconst 2, 1) := by decide +kernel
theorem dJ6_bitCount_0f7a4_17 : decode cJ6_bitCount_0f7a4 17 = .ok (.iushr, 1) := by decide +kernel
theorem dJ6_bitCount_0f7a4_18 : decode cJ6_bitCount_0f7a4 18 = .ok (.ldc_w 266, 3) := by decide +kernel
theorem dJ6_bitCount_0f7a4_21 : decode cJ6_bitCount_0f7a4 21 = .ok (.iand, 1) := by decide +kernel
theorem dJ6_bitCount_0f7a4_22 : decode cJ6_bitCount_0f7a4 22 = .ok (.iadd, 1) := by decide +kernel
theorem dJ6_bitCount_0f7a4_23 : decode cJ6_bitCount_0f7a4 23 = .ok (.istore_n 0, 1) := by decide +kernel
theorem dJ6_bitCount_0f7a4_24 : decode cJ6_bitCount_0f7a4 24 = .ok (.iload_n 0, 1) := by decide +kernel
theorem dJ6_bitCount_0f7a4_25 : decode cJ6_bitCount_0f7a4 25 = .ok (.iload_n 0, 1) := by decide +kernel
theorem dJ6_bitCount_0f7a4_26 : decode cJ6_bitCount_0f7a4 26 = .ok (.iconst 4, 1) := by decide +kernel
theorem dJ6_bitCount_0f7a4_27 : decode cJ6_bitCount_0f7a4 27 = .ok (.iushr, 1) := by decide +kernel
theorem dJ6_bitCount_0f7a4_28 : decode cJ6_bitCount_0f7a4 28 = .ok (.iadd, 1) := by decide +kernel
theorem dJ6_bitCount_0f7a4_29 : decode cJ6_bitCount_0f7a4 29 = .ok (.ldc_w 267, 3) := by decide +kernel
theorem dJ6_bitCount_0f7a4_32 : decode cJ6_bitCount_0f7a4 32 = .ok (.iand, 1) := by decide +kernel
theorem dJ6_bitCount_0f7a4_33 : decode cJ6_bitCount_0f7a4 33 = .ok (.istore_n 0, 1) := by decide +kernel
theorem dJ6_bitCount_0f7a4_34 : decode cJ6_bitCount_0f7a4 34 = .ok (.iload_n 0, 1) := by decide +kernel
theorem dJ6_bitCount_0f7a4_35 : decode cJ6_bitCount_0f7a4 35 = .ok (.iload_n 0, 1) := by decide +kernel
theorem dJ6_bitCount_0f7a4_36 : decode cJ6_bitCount_0f7a4 36 = .ok (.bipush 8, 2) := by decide +kernel
theorem dJ6_bitCount_0f7a4_38 : decode cJ6_bitCount_0f7a4 38 = .ok (.iushr, 1) := by decide +kernel
theorem dJ6_bitCount_0f7a4_39 : decode cJ6_bitCount_0f7a4 39 = .ok (.iadd, 1) := by decide +kernel
theorem dJ6_bitCount_0f7a4_40 : decode cJ6_bitCount_0f7a4 40 = .ok (.istore_n 0, 1) := by decide +kernel
theorem dJ6_bitCount_0f7a4_41 : decode cJ6_bitCount_0f7a4 41 = .ok (.iload_n 0, 1) := by decide +kernel
theorem dJ6_bitCount_0f7a4_42 : decode cJ6_bitCount_0f7a4 42 = .ok (.iload_n 0, 1) := by decide +kernel
theorem dJ6_bitCount_0f7a4_43 : decode cJ6_bitCount_0f7a4 43 = .ok (.bipush 16, 2) := by decide +kernel
theorem dJ6_bitCount_0f7a4_45 : decode cJ6_bitCount_0f7a4 45 = .ok (.iushr, 1) := by decide +kernel
theorem dJ6_bitCount_0f7a4_46 : decode cJ6_bitCount_0f7a4 46 = .ok (.iadd, 1) := by decide +kernel
theorem dJ6_bitCount_0f7a4_47 : decode cJ6_bitCount_0f7a4 47 = .ok (.istore_n 0, 1) := by decide +kernel
theorem dJ6_bitCount_0f7a4_48 : decode cJ6_bitCount_0f7a4 48 = .ok (.iload_n 0, 1) := by decide +kernel
theorem dJ6_bitCount_0f7a4_49 : decode cJ6_bitCount_0f7a4 49 = .ok (.bipush 63, 2) := by decide +kernel
theorem dJ6_bitCount_0f7a4_51 : decode cJ6_bitCount_0f7a4 51 = .ok (.iand, 1) := by decide +kernel
theorem dJ6_bitCount_0f7a4_52 : decode cJ6_bitCount_0f7a4 52 = .ok (.ireturn, 1) := by decide +kernel
def wp_J6_bitCount_0f7a4 (x0 : Int32) (S : xm_S) (g : Int32 → xm_S → Prop) : Prop :=
  ∀ y1, y1 = (x0 - (((x0.toUInt32 >>> ((1 : Int32).toUInt32 &&& Int32.toUInt32 31)).toInt32) &&& (nI 1431655765))) → ∀ y3, y3 = ((y1 &&& (nI 858993459)) + (((y1.toUInt32 >>> ((nI 2).toUInt32 &&& Int32.toUInt32 31)).toInt32) &&& (nI 858993459))) → ∀ y5, y5 = ((y3 + ((y3.toUInt32 >>> ((nI 4).toUInt32 &&& Int32.toUInt32 31)).toInt32)) &&& (nI 252645135)) → ∀ y7, y7 = (y5 + ((y5.toUInt32 >>> ((nI 8).toUInt32 &&& Int32.toUInt32 31)).toInt32)) → ∀ y9, y9 = (y7 + ((y7.toUInt32 >>> ((nI 16).toUInt32 &&& Int32.toUInt32 31)).toInt32)) → g (y9 &&& (nI 63)) S
set_option maxRecDepth 100000 in
set_option maxHeartbeats 4000000 in
theorem kp_J6_bitCount_0f7a4 {K : xm_K} (x0 : Int32) (S : xm_S) {g : Int32 → xm_S → Prop} (C : xm_Cx K cJ6_bitCount_0f7a4 RJ6 1 (some (FieldType.int)) rm_J6_bitCount_0f7a4) (N : xm_Nx K) (hg : ∀ v S, g v S → xm_q K (some (xm_i v)) S)  (h1 : wp_J6_bitCount_0f7a4 x0 S g) : xm_W K 0 0 0 [(0, xm_i x0)] [] S := by
  unfold wp_J6_bitCount_0f7a4 at h1
  refine x_iload_n C 0 dJ6_bitCount_0f7a4_0 rfl rfl ?_
  refine x_iload_n C 0 dJ6_bitCount_0f7a4_1 rfl rfl ?_
  refine x_iconst (v := (1 : Int32)) C dJ6_bitCount_0f7a4_2 (by decide) ?_
  refine x_iushr C dJ6_bitCount_0f7a4_3 ?_
  refine x_ldcw (v := nI 1431655765) C gw_93 dJ6_bitCount_0f7a4_4 ?_
  refine x_iand C dJ6_bitCount_0f7a4_7 ?_
  refine x_isub C dJ6_bitCount_0f7a4_8 ?_
  refine x_topi (fun y1 e2 => ?_)
  have h1 := h1 y1 e2
  refine x_istore_n (L' := [(0, xm_i y1)]) C dJ6_bitCount_0f7a4_9 rfl (by decide) rfl ?_
  refine x_iload_n C 0 dJ6_bitCount_0f7a4_10 rfl rfl ?_
  refine x_ldcw (v := nI 858993459) C gw_94 dJ6_bitCount_0f7a4_11 ?_
  refine x_iand C dJ6_bitCount_0f7a4_14 ?_
  refine x_iload_n C 0 dJ6_bitCount_0f7a4_15 rfl rfl ?_
  refine x_iconst (v := (nI 2)) C dJ6_bitCount_0f7a4_16 (by decide) ?_
  refine x_iushr C dJ6_bitCount_0f7a4_17 ?_
  refine x_ldcw (v := nI 858993459) C gw_94 dJ6_bitCount_0f7a4_18 ?_
  refine x_iand C dJ6_bitCount_0f7a4_21 ?_
  refine x_iadd C dJ6_bitCount_0f7a4_22 ?_
  refine x_topi (fun y3 e4 => ?_)
  have h1 := h1 y3 e4
  refine x_istore_n (L' := [(0, xm_i y3)]) C dJ6_bitCount_0f7a4_23 rfl (by decide) rfl ?_
  refine x_iload_n C 0 dJ6_bitCount_0f7a4_24 rfl rfl ?_
  refine x_iload_n C 0 dJ6_bitCount_0f7a4_25 rfl rfl ?_
  refine x_iconst (v := (nI 4)) C dJ6_bitCount_0f7a4_26 (by decide) ?_
  refine x_iushr C dJ6_bitCount_0f7a4_27 ?_
  refine x_iadd C dJ6_bitCount_0f7a4_28 ?_
  refine x_ldcw (v := nI 252645135) C gw_95 dJ6_bitCount_0f7a4_29 ?_
  refine x_iand C dJ6_bitCount_0f7a4_32 ?_
  refine x_topi (fun y5 e6 => ?_)
  have h1 := h1 y5 e6
  refine x_istore_n (L' := [(0, xm_i y5)]) C dJ6_bitCount_0f7a4_33 rfl (by decide) rfl ?_
  refine x_iload_n C 0 dJ6_bitCount_0f7a4_34 rfl rfl ?_
  refine x_iload_n C 0 dJ6_bitCount_0f7a4_35 rfl rfl ?_
  refine x_bipush (v := (nI 8)) C dJ6_bitCount_0f7a4_36 (by decide) ?_
  refine x_iushr C dJ6_bitCount_0f7a4_38 ?_
  refine x_iadd C dJ6_bitCount_0f7a4_39 ?_
  refine x_topi (fun y7 e8 => ?_)
  have h1 := h1 y7 e8
  refine x_istore_n (L' := [(0, xm_i y7)]) C dJ6_bitCount_0f7a4_40 rfl (by decide) rfl ?_
  refine x_iload_n C 0 dJ6_bitCount_0f7a4_41 rfl rfl ?_
  refine x_iload_n C 0 dJ6_bitCount_0f7a4_42 rfl rfl ?_
  refine x_bipush (v := (nI 16)) C dJ6_bitCount_0f7a4_43 (by decide) ?_
  refine x_iushr C dJ6_bitCount_0f7a4_45 ?_
  refine x_iadd C dJ6_bitCount_0f7a4_46 ?_
  refine x_topi (fun y9 e10 => ?_)
  have h1 := h1 y9 e10
  refine x_istore_n (L' := [(0, xm_i y9)]) C dJ6_bitCount_0f7a4_47 rfl (by decide) rfl ?_
  refine x_iload_n C 0 dJ6_bitCount_0f7a4_48 rfl rfl ?_
  refine x_bipush (v := (nI 63)) C dJ6_bitCount_0f7a4_49 (by decide) ?_
  refine x_iand C dJ6_bitCount_0f7a4_51 ?_
  exact x_iret C (Nat.le_of_ble_eq_true rfl) (Nat.le_of_ble_eq_true rfl) rfl dJ6_bitCount_0f7a4_52 (hg _ _ h1)
theorem kp_J6_bitCount_0f7a4_met {x0 : Int32} {S : xm_S} {g : Int32 → xm_S → Prop}  (h1 : wp_J6_bitCount_0f7a4 x0 S g) : xm_Met yJ6_bitCount_0f7a4 cJ6_bitCount_0f7a4 1 (some (FieldType.int)) rm_J6_bitCount_0f7a4 [xm_i x0] S (xm_qi g) xm_nox :=
  xm_ofW RJ6 (by decide +kernel) rfl (Nat.le_of_ble_eq_true rfl) (fun K C N hq hx hi => kp_J6_bitCount_0f7a4 x0 S C N (fun v S h => by rw [hq]; exact ⟨v, rfl, h⟩)  h1)
def rm_X6_add : Room := { frames := 1, cells := 0, slots := 0, locals := 20 }
theorem dX6_add_0 : decode cX6_add 0 = .ok (.aload_n 0, 1) := by decide +kernel
theorem dX6_add_1 : decode cX6_add 1 = .ok (.getfield 17, 3) := by decide +kernel
theorem dX6_add_4 : decode cX6_add 4 = .ok (.bipush 20, 2) := by decide +kernel
theorem dX6_add_6 : decode cX6_add 6 = .ok (.if_icmp .ge 23, 3) := by decide +kernel
theorem dX6_add_9 : decode cX6_add 9 = .ok (.aload_n 0, 1) := by decide +kernel
theorem dX6_add_10 : decode cX6_add 10 = .ok (.getfield 11, 3) := by decide +kernel
theorem dX6_add_13 : decode cX6_add 13 = .ok (.aload_n 0, 1) := by decide +kernel
theorem dX6_add_14 : decode cX6_add 14 = .ok (.getfield 17, 3) := by decide +kernel
theorem dX6_add_17 : decode cX6_add 17 = .ok (.aload_n 1, 1) := by decide +kernel
theorem dX6_add_18 : decode cX6_add 18 = .ok (.aastore, 1) := by decide +kernel
theorem dX6_add_19 : decode cX6_add 19 = .ok (.aload_n 0, 1) := by decide +kernel
theorem dX6_add_20 : decode cX6_add 20 = .ok (.dup, 1) := by decide +kernel
theorem dX6_add_21 : decode cX6_add 21 = .ok (.getfield 17, 3) := by decide +kernel
theorem dX6_add_24 : decode cX6_add 24 = .ok (.iconst 1, 1) := by decide +kernel
theorem dX6_add_25 : decode cX6_add 25 = .ok (.iadd, 1) := by decide +kernel
theorem dX6_add_26 : decode cX6_add 26 = .ok (.putfield 17, 3) := by decide +kernel
theorem dX6_add_29 : decode cX6_add 29 = .ok (.return_, 1) := by decide +kernel
def wp_X6_add_29 (h : Nat)  (S : xm_S) (g : xm_S → Prop) : Prop :=
  g S
set_option maxRecDepth 100000 in
set_option maxHeartbeats 4000000 in
theorem kp_X6_add_29 {K : xm_K} (h : Nat)  (S : xm_S) {g : xm_S → Prop} (C : xm_Cx K cX6_add RX6 2 none rm_X6_add) (N : xm_Nx K) (hg : ∀ S, g S → xm_q K none S)  (h1 : wp_X6_add_29 h  S g) : xm_W K 0 0 29 [] [] S := by
  unfold wp_X6_add_29 at h1
  exact x_vret C (Nat.le_of_ble_eq_true rfl) (Nat.le_of_ble_eq_true rfl) rfl dX6_add_29 (hg _ h1)
def wp_X6_add (h : Nat) (x1 : Option Nat) (S : xm_S) (g : xm_S → Prop) : Prop :=
  st_t S h = some (6, 0) ∧ ((nI 20) ≤ (st_i S h 1) → wp_X6_add_29 h S g) ∧ (¬ (nI 20) ≤ (st_i S h 1) → ∃ n2, (st_r S h 0) = some n2 ∧ ∃ z5, st_t S n2 = some (119, z5) ∧ vp_in (st_i S h 1) z5 ∧ (∀ v9, x1 = some v9 → st_t S v9 = some (9, 0)) ∧ ∀ S8, S8 = st_pr S n2 ((st_i S h 1)).toNatClampNeg x1 → ∀ S10, S10 = st_pi S8 h 1 ((st_i S8 h 1) + (1 : Int32)) → wp_X6_add_29 h S10 g)
set_option maxRecDepth 100000 in
set_option maxHeartbeats 4000000 in
theorem kp_X6_add {K : xm_K} (h : Nat) (x1 : Option Nat) (S : xm_S) {g : xm_S → Prop} (C : xm_Cx K cX6_add RX6 2 none rm_X6_add) (N : xm_Nx K) (hg : ∀ S, g S → xm_q K none S)  (h1 : wp_X6_add h x1 S g) : xm_W K 0 0 0 [(0, xm_r (some h)), (1, xm_r x1)] [] S := by
  unfold wp_X6_add at h1
  refine x_aload_n C 0 dX6_add_0 rfl rfl ?_
  obtain ⟨ht1, h1⟩ := h1
  refine x_getf_i (n := h) C rfl ht1 fd_40 (by decide) dX6_add_1 ?_
  refine x_bipush (v := (nI 20)) C dX6_add_4 (by decide) ?_
  refine x_icmp_ge (tgt := 29) C dX6_add_6 (by decide) (fun z9 => ?_) (fun z9 => ?_)
  · have h1 := h1.1 z9
    refine x_keep (L' := []) C [] rfl ?_
    exact kp_X6_add_29 h S C N hg  h1
  · have h1 := h1.2 z9
    refine x_aload_n C 0 dX6_add_9 rfl rfl ?_
    refine x_getf_r (n := h) C rfl ht1 fd_41 (by decide) dX6_add_10 ?_
    refine x_aload_n C 0 dX6_add_13 rfl rfl ?_
    refine x_getf_i (n := h) C rfl ht1 fd_40 (by decide) dX6_add_14 ?_
    refine x_aload_n C 1 dX6_add_17 rfl rfl ?_
    obtain ⟨n2, hr3, h1⟩ := h1
    obtain ⟨z5, ht4, h1⟩ := h1
    obtain ⟨hi6, h1⟩ := h1
    obtain ⟨hv7, h1⟩ := h1
    refine x_aast (n := n2) (ci := 9) C hr3 (by decide) rfl rfl ht4 hi6 hv7 dX6_add_18 ?_
    refine x_topS (fun S8 e9 => ?_)
    have h1 := h1 S8 e9
    refine x_aload_n C 0 dX6_add_19 rfl rfl ?_
    refine x_dup_r C dX6_add_20 ?_
    refine x_getf_i (n := h) C rfl (tk_p e9 ht1) fd_40 (by decide) dX6_add_21 ?_
    refine x_iconst (v := (1 : Int32)) C dX6_add_24 (by decide) ?_
    refine x_iadd C dX6_add_25 ?_
    refine x_putf_i (n := h) C rfl (tk_p e9 ht1) fd_40 xc_6 (by decide) rfl ⟨rfl, rfl⟩ dX6_add_26 ?_
    refine x_topS (fun S10 e11 => ?_)
    have h1 := h1 S10 e11
    refine x_keep (L' := []) C [] rfl ?_
    exact kp_X6_add_29 h S10 C N hg  h1
theorem kp_X6_add_met {h : Nat} {x1 : Option Nat} {S : xm_S} {g : xm_S → Prop}  (h1 : wp_X6_add h x1 S g) : xm_Met yX6_add cX6_add 2 none rm_X6_add [xm_r (some h), xm_r x1] S (xm_qv g) xm_nox :=
  xm_ofW RX6 (by decide +kernel) rfl (Nat.le_of_ble_eq_true rfl) (fun K C N hq hx hi => kp_X6_add h x1 S C N (fun S h => by rw [hq]; exact ⟨rfl, h⟩)  h1)
def rm_X9_tellsPreviewOf : Room := { frames := 1, cells := 0, slots := 0, locals := 20 }
theorem dX9_tellsPreviewOf_0 : decode cX9_tellsPreviewOf 0 = .ok (.aload_n 0, 1) := by decide +kernel
theorem dX9_tellsPreviewOf_1 : decode cX9_tellsPreviewOf 1 = .ok (.getfield 18, 3) := by decide +kernel
theorem dX9_tellsPreviewOf_4 : decode cX9_tellsPreviewOf 4 = .ok (.bipush 15, 2) := by decide +kernel
theorem dX9_tellsPreviewOf_6 : decode cX9_tellsPreviewOf 6 = .ok (.iand, 1) := by decide +kernel
theorem dX9_tellsPreviewOf_7 : decode cX9_tellsPreviewOf 7 = .ok (.bipush 10, 2) := by decide +kernel
theorem dX9_tellsPreviewOf_9 : decode cX9_tellsPreviewOf 9 = .ok (.if_icmp .eq 19, 3) := by decide +kernel
theorem dX9_tellsPreviewOf_12 : decode cX9_tellsPreviewOf 12 = .ok (.aload_n 0, 1) := by decide +kernel
theorem dX9_tellsPreviewOf_13 : decode cX9_tellsPreviewOf 13 = .ok (.getfield 18, 3) := by decide +kernel
theorem dX9_tellsPreviewOf_16 : decode cX9_tellsPreviewOf 16 = .ok (.iconst 4, 1) := by decide +kernel
theorem dX9_tellsPreviewOf_17 : decode cX9_tellsPreviewOf 17 = .ok (.ishr, 1) := by decide +kernel
theorem dX9_tellsPreviewOf_18 : decode cX9_tellsPreviewOf 18 = .ok (.iload_n 1, 1) := by decide +kernel
theorem dX9_tellsPreviewOf_19 : decode cX9_tellsPreviewOf 19 = .ok (.iconst 4, 1) := by decide +kernel
theorem dX9_tellsPreviewOf_20 : decode cX9_tellsPreviewOf 20 = .ok (.ishr, 1) := by decide +kernel
theorem dX9_tellsPreviewOf_21 : decode cX9_tellsPreviewOf 21 = .ok (.if_icmp .ne 7, 3) := by decide +kernel
theorem dX9_tellsPreviewOf_24 : decode cX9_tellsPreviewOf 24 = .ok (.iconst 1, 1) := by decide +kernel
theorem dX9_tellsPreviewOf_25 : decode cX9_tellsPreviewOf 25 = .ok (.goto 4, 3) := by decide +kernel
theorem dX9_tellsPreviewOf_28 : decode cX9_tellsPreviewOf 28 = .ok (.iconst 0, 1) := by decide +kernel
theorem dX9_tellsPreviewOf_29 : decode cX9_tellsPreviewOf 29 = .ok (.ireturn, 1) := by decide +kernel
def wp_X9_tellsPreviewOf_29 (h : Nat) (s0 : Int32) (S : xm_S) (g : Int32 → xm_S → Prop) : Prop :=
  (s0 = 0 ∨ s0 = 1) ∧ g s0 S
set_option maxRecDepth 100000 in
set_option maxHeartbeats 4000000 in
theorem kp_X9_tellsPreviewOf_29 {K : xm_K} (h : Nat) (s0 : Int32) (S : xm_S) {g : Int32 → xm_S → Prop} (C : xm_Cx K cX9_tellsPreviewOf RX9 2 (some (FieldType.boolean)) rm_X9_tellsPreviewOf) (N : xm_Nx K) (hg : ∀ v S, g v S → xm_q K (some (xm_i v)) S)  (h1 : wp_X9_tellsPreviewOf_29 h s0 S g) : xm_W K 0 0 29 [] [xm_i s0] S := by
  unfold wp_X9_tellsPreviewOf_29 at h1
  exact x_zret C (Nat.le_of_ble_eq_true rfl) (Nat.le_of_ble_eq_true rfl) rfl h1.1 dX9_tellsPreviewOf_29 (hg _ _ h1.2)
def wp_X9_tellsPreviewOf_28 (h : Nat)  (S : xm_S) (g : Int32 → xm_S → Prop) : Prop :=
  wp_X9_tellsPreviewOf_29 h (0 : Int32) S g
set_option maxRecDepth 100000 in
set_option maxHeartbeats 4000000 in
theorem kp_X9_tellsPreviewOf_28 {K : xm_K} (h : Nat)  (S : xm_S) {g : Int32 → xm_S → Prop} (C : xm_Cx K cX9_tellsPreviewOf RX9 2 (some (FieldType.boolean)) rm_X9_tellsPreviewOf) (N : xm_Nx K) (hg : ∀ v S, g v S → xm_q K (some (xm_i v)) S)  (h1 : wp_X9_tellsPreviewOf_28 h  S g) : xm_W K 0 0 28 [] [] S := by
  unfold wp_X9_tellsPreviewOf_28 at h1
  refine x_iconst (v := (0 : Int32)) C dX9_tellsPreviewOf_28 (by decide) ?_
  exact kp_X9_tellsPreviewOf_29 h (0 : Int32) S C N hg  h1
def wp_X9_tellsPreviewOf (h : Nat) (x1 : Int32) (S : xm_S) (g : Int32 → xm_S → Prop) : Prop :=
  st_t S h = some (9, 0) ∧ (((st_i S h 0) &&& (nI 15)) = (nI 10) → wp_X9_tellsPreviewOf_28 h S g) ∧ (¬ ((st_i S h 0) &&& (nI 15)) = (nI 10) → (¬ ((st_i S h 0) >>> ((nI 4) &&& 31)) = (x1 >>> ((nI 4) &&& 31)) → wp_X9_tellsPreviewOf_28 h S g) ∧ (((st_i S h 0) >>> ((nI 4) &&& 31)) = (x1 >>> ((nI 4) &&& 31)) → wp_X9_tellsPreviewOf_29 h (1 : Int32) S g))
set_option maxRecDepth 100000 in
set_option maxHeartbeats 4000000 in
theorem kp_X9_tellsPreviewOf {K : xm_K} (h : Nat) (x1 : Int32) (S : xm_S) {g : Int32 → xm_S → Prop} (C : xm_Cx K cX9_tellsPreviewOf RX9 2 (some (FieldType.boolean)) rm_X9_tellsPreviewOf) (N : xm_Nx K) (hg : ∀ v S, g v S → xm_q K (some (xm_i v)) S)  (h1 : wp_X9_tellsPreviewOf h x1 S g) : xm_W K 0 0 0 [(0, xm_r (some h)), (1, xm_i x1)] [] S := by
  unfold wp_X9_tellsPreviewOf at h1
  refine x_aload_n C 0 dX9_tellsPreviewOf_0 rfl rfl ?_
  obtain ⟨ht1, h1⟩ := h1
  refine x_getf_i (n := h) C rfl ht1 fd_42 (by decide) dX9_tellsPreviewOf_1 ?_
  refine x_bipush (v := (nI 15)) C dX9_tellsPreviewOf_4 (by decide) ?_
  refine x_iand C dX9_tellsPreviewOf_6 ?_
  refine x_bipush (v := (nI 10)) C dX9_tellsPreviewOf_7 (by decide) ?_
  refine x_icmp_eq (tgt := 28) C dX9_tellsPreviewOf_9 (by decide) (fun z9 => ?_) (fun z9 => ?_)
  · have h1 := h1.1 z9
    refine x_keep (L' := []) C [] rfl ?_
    exact kp_X9_tellsPreviewOf_28 h S C N hg  h1
  · have h1 := h1.2 z9
    refine x_aload_n C 0 dX9_tellsPreviewOf_12 rfl rfl ?_
    refine x_getf_i (n := h) C rfl ht1 fd_42 (by decide) dX9_tellsPreviewOf_13 ?_
    refine x_iconst (v := (nI 4)) C dX9_tellsPreviewOf_16 (by decide) ?_
    refine x_ishr C dX9_tellsPreviewOf_17 ?_
    refine x_iload_n C 1 dX9_tellsPreviewOf_18 rfl rfl ?_
    refine x_iconst (v := (nI 4)) C dX9_tellsPreviewOf_19 (by decide) ?_
    refine x_ishr C dX9_tellsPreviewOf_20 ?_
    refine x_icmp_ne (tgt := 28) C dX9_tellsPreviewOf_21 (by decide) (fun z9 => ?_) (fun z9 => ?_)
    · have h1 := h1.1 z9
      refine x_keep (L' := []) C [] rfl ?_
      exact kp_X9_tellsPreviewOf_28 h S C N hg  h1
    · have h1 := h1.2 z9
      refine x_iconst (v := (1 : Int32)) C dX9_tellsPreviewOf_24 (by decide) ?_
      refine x_goto (tgt := 29) C dX9_tellsPreviewOf_25 (by decide) ?_
      refine x_keep (L' := []) C [] rfl ?_
      exact kp_X9_tellsPreviewOf_29 h (1 : Int32) S C N hg  h1
theorem kp_X9_tellsPreviewOf_met {h : Nat} {x1 : Int32} {S : xm_S} {g : Int32 → xm_S → Prop}  (h1 : wp_X9_tellsPreviewOf h x1 S g) : xm_Met yX9_tellsPreviewOf cX9_tellsPreviewOf 2 (some (FieldType.boolean)) rm_X9_tellsPreviewOf [xm_r (some h), xm_i x1] S (xm_qi g) xm_nox :=
  xm_ofW RX9 (by decide +kernel) rfl (Nat.le_of_ble_eq_true rfl) (fun K C N hq hx hi => kp_X9_tellsPreviewOf h x1 S C N (fun v S h => by rw [hq]; exact ⟨v, rfl, h⟩)  h1)
def rm_X6_includes : Room := { frames := 2, cells := 0, slots := 0, locals := 41 }
theorem dX6_includes_0 : decode cX6_includes 0 = .ok (.iload_n 1, 1) := by decide +kernel
theorem dX6_includes_1 : decode cX6_includes 1 = .ok (.iload_n 2, 1) := by decide +kernel
theorem dX6_includes_2 : decode cX6_includes 2 = .ok (.invokestatic 21, 3) := by decide +kernel
theorem dX6_includes_5 : decode cX6_includes 5 = .ok (.istore_n 3, 1) := by decide +kernel
theorem dX6_includes_6 : decode cX6_includes 6 = .ok (.iload_n 1, 1) := by decide +kernel
theorem dX6_includes_7 : decode cX6_includes 7 = .ok (.bipush 15, 2) := by decide +kernel
theorem dX6_includes_9 : decode cX6_includes 9 = .ok (.iand, 1) := by decide +kernel
theorem dX6_includes_10 : decode cX6_includes 10 = .ok (.bipush 10, 2) := by decide +kernel
theorem dX6_includes_12 : decode cX6_includes 12 = .ok (.if_icmp .ne 7, 3) := by decide +kernel
theorem dX6_includes_15 : decode cX6_includes 15 = .ok (.iconst 1, 1) := by decide +kernel
theorem dX6_includes_16 : decode cX6_includes 16 = .ok (.goto 4, 3) := by decide +kernel
theorem dX6_includes_19 : decode cX6_includes 19 = .ok (.iconst 0, 1) := by decide +kernel
theorem dX6_includes_20 : decode cX6_includes 20 = .ok (.istore 4, 2) := by decide +kernel
theorem dX6_includes_22 : decode cX6_includes 22 = .ok (.iconst 0, 1) := by decide +kernel
theorem dX6_includes_23 : decode cX6_includes 23 = .ok (.istore 5, 2) := by decide +kernel
theorem dX6_includes_25 : decode cX6_includes 25 = .ok (.iconst 0, 1) := by decide +kernel
theorem dX6_includes_26 : decode cX6_includes 26 = .ok (.istore 6, 2) := by decide +kernel
theorem dX6_includes_28 : decode cX6_includes 28 = .ok (.iconst 0, 1) := by decide +kernel
theorem dX6_includes_29 : decode cX6_includes 29 = .ok (.istore 7, 2) := by decide +kernel
theorem dX6_includes_31 : decode cX6_includes 31 = .ok (.iload 7, 2) := by decide +kernel
theorem dX6_includes_33 : decode cX6_includes 33 = .ok (.aload_n 0, 1) := by decide +kernel
theorem dX6_includes_34 : decode cX6_includes 34 = .ok (.getfield 17, 3) := by decide +kernel
theorem dX6_includes_37 : decode cX6_includes 37 = .ok (.if_icmp .ge 100, 3) := by decide +kernel
theorem dX6_includes_40 : decode cX6_includes 40 = .ok (.aload_n 0, 1) := by decide +kernel
theorem dX6_includes_41 : decode cX6_includes 41 = .ok (.getfield 11, 3) := by decide +kernel
theorem dX6_includes_44 : decode cX6_includes 44 = .ok (.iload 7, 2) := by decide +kernel
theorem dX6_includes_46 : decode cX6_includes 46 = .ok (.aaload, 1) := by decide +kernel
theorem dX6_includes_47 : decode cX6_includes 47 = .ok (.astore 8, 2) := by decide +kernel
theorem dX6_includes_49 : decode cX6_includes 49 = .ok (.aload 8, 2) := by decide +kernel
theorem dX6_includes_51 : decode cX6_includes 51 = .ok (.getfield 25, 3) := by decide +kernel
theorem dX6_includes_54 : decode cX6_includes 54 = .ok (.ifCond .eq 22, 3) := by decide +kernel
theorem dX6_includes_57 : decode cX6_includes 57 = .ok (.iload 5, 2) := by decide +kernel
theorem dX6_includes_59 : decode cX6_includes 59 = .ok (.ifCond .eq 10, 3) := by decide +kernel
theorem dX6_includes_62 : decode cX6_includes 62 = .ok (.iload 6, 2) := by decide +kernel
theorem dX6_includes_64 : decode cX6_includes 64 = .ok (.ifCond .eq 5, 3) := by decide +kernel
theorem dX6_includes_67 : decode cX6_includes 67 = .ok (.iconst 1, 1) := by decide +kernel
theorem dX6_includes_68 : decode cX6_includes 68 = .ok (.ireturn, 1) := by decide +kernel
theorem dX6_includes_69 : decode cX6_includes 69 = .ok (.iconst 1, 1) := by decide +kernel
theorem dX6_includes_70 : decode cX6_includes 70 = .ok (.istore 5, 2) := by decide +kernel
theorem dX6_includes_72 : decode cX6_includes 72 = .ok (.iload 4, 2) := by decide +kernel
theorem dX6_includes_74 : decode cX6_includes 74 = .ok (.istore 6, 2) := by decide +kernel
theorem dX6_includes_76 : decode cX6_includes 76 = .ok (.iload 5, 2) := by decide +kernel
theorem dX6_includes_78 : decode cX6_includes 78 = .ok (.ifCond .eq 29, 3) := by decide +kernel
theorem dX6_includes_81 : decode cX6_includes 81 = .ok (.aload 8, 2) := by decide +kernel
theorem dX6_includes_83 : decode cX6_includes 83 = .ok (.getfield 29, 3) := by decide +kernel
theorem dX6_includes_86 : decode cX6_includes 86 = .ok (.iload_n 2, 1) := by decide +kernel
theorem dX6_includes_87 : decode cX6_includes 87 = .ok (.iaload, 1) := by decide +kernel
theorem dX6_includes_88 : decode cX6_includes 88 = .ok (.iload_n 3, 1) := by decide +kernel
theorem dX6_includes_89 : decode cX6_includes 89 = .ok (.if_icmp .gt 18, 3) := by decide +kernel
theorem dX6_includes_92 : decode cX6_includes 92 = .ok (.iload_n 3, 1) := by decide +kernel
theorem dX6_includes_93 : decode cX6_includes 93 = .ok (.aload 8, 2) := by decide +kernel
theorem dX6_includes_95 : decode cX6_includes 95 = .ok (.getfield 33, 3) := by decide +kernel
theorem dX6_includes_98 : decode cX6_includes 98 = .ok (.iload_n 2, 1) := by decide +kernel
theorem dX6_includes_99 : decode cX6_includes 99 = .ok (.iaload, 1) := by decide +kernel
theorem dX6_includes_100 : decode cX6_includes 100 = .ok (.if_icmp .ge 7, 3) := by decide +kernel
theorem dX6_includes_103 : decode cX6_includes 103 = .ok (.iconst 1, 1) := by decide +kernel
theorem dX6_includes_104 : decode cX6_includes 104 = .ok (.goto 4, 3) := by decide +kernel
theorem dX6_includes_107 : decode cX6_includes 107 = .ok (.iconst 0, 1) := by decide +kernel
theorem dX6_includes_108 : decode cX6_includes 108 = .ok (.istore 5, 2) := by decide +kernel
theorem dX6_includes_110 : decode cX6_includes 110 = .ok (.iload 6, 2) := by decide +kernel
theorem dX6_includes_112 : decode cX6_includes 112 = .ok (.ifCond .ne 12, 3) := by decide +kernel
theorem dX6_includes_115 : decode cX6_includes 115 = .ok (.aload 8, 2) := by decide +kernel
theorem dX6_includes_117 : decode cX6_includes 117 = .ok (.iload_n 1, 1) := by decide +kernel
theorem dX6_includes_118 : decode cX6_includes 118 = .ok (.invokevirtual 36, 3) := by decide +kernel
theorem dX6_includes_121 : decode cX6_includes 121 = .ok (.ifCond .eq 7, 3) := by decide +kernel
theorem dX6_includes_124 : decode cX6_includes 124 = .ok (.iconst 1, 1) := by decide +kernel
theorem dX6_includes_125 : decode cX6_includes 125 = .ok (.goto 4, 3) := by decide +kernel
theorem dX6_includes_128 : decode cX6_includes 128 = .ok (.iconst 0, 1) := by decide +kernel
theorem dX6_includes_129 : decode cX6_includes 129 = .ok (.istore 6, 2) := by decide +kernel
theorem dX6_includes_131 : decode cX6_includes 131 = .ok (.iinc 7 1, 3) := by decide +kernel
theorem dX6_includes_134 : decode cX6_includes 134 = .ok (.goto (-103), 3) := by decide +kernel
theorem dX6_includes_137 : decode cX6_includes 137 = .ok (.iload 5, 2) := by decide +kernel
theorem dX6_includes_139 : decode cX6_includes 139 = .ok (.ifCond .eq 12, 3) := by decide +kernel
theorem dX6_includes_142 : decode cX6_includes 142 = .ok (.iload 6, 2) := by decide +kernel
theorem dX6_includes_144 : decode cX6_includes 144 = .ok (.ifCond .eq 7, 3) := by decide +kernel
theorem dX6_includes_147 : decode cX6_includes 147 = .ok (.iconst 1, 1) := by decide +kernel
theorem dX6_includes_148 : decode cX6_includes 148 = .ok (.goto 4, 3) := by decide +kernel
theorem dX6_includes_151 : decode cX6_includes 151 = .ok (.iconst 0, 1) := by decide +kernel
theorem dX6_includes_152 : decode cX6_includes 152 = .ok (.ireturn, 1) := by decide +kernel
def wp_X6_includes_129 (h : Nat) (x1 : Int32) (x2 : Int32) (x3 : Int32) (x4 : Int32) (x5 : Int32) (x7 : Int32) (s0 : Int32) (S : xm_S) (g : Int32 → xm_S → Prop) (Z31 : Int32 → Int32 → Int32 → Int32 → Int32 → Int32 → Int32 → xm_S → Prop) : Prop :=
  ∀ y1, y1 = (x7 + (1 : Int32)) → Z31 x1 x2 x3 x4 x5 s0 y1 S
set_option maxRecDepth 100000 in
set_option maxHeartbeats 4000000 in
theorem kp_X6_includes_129 {K : xm_K} (h : Nat) (x1 : Int32) (x2 : Int32) (x3 : Int32) (x4 : Int32) (x5 : Int32) (x7 : Int32) (s0 : Int32) (S : xm_S) {g : Int32 → xm_S → Prop} {Z31 : Int32 → Int32 → Int32 → Int32 → Int32 → Int32 → Int32 → xm_S → Prop} (C : xm_Cx K cX6_includes RX6 9 (some (FieldType.boolean)) rm_X6_includes) (N : xm_Nx K) (hg : ∀ v S, g v S → xm_q K (some (xm_i v)) S) (hZ31 : ∀ x1 x2 x3 x4 x5 x6 x7 S, Z31 x1 x2 x3 x4 x5 x6 x7 S → xm_W K 0 0 31 [(0, xm_r (some h)), (1, xm_i x1), (2, xm_i x2), (3, xm_i x3), (4, xm_i x4), (5, xm_i x5), (6, xm_i x6), (7, xm_i x7)] [] S) (h1 : wp_X6_includes_129 h x1 x2 x3 x4 x5 x7 s0 S g Z31) : xm_W K 0 0 129 [(0, xm_r (some h)), (1, xm_i x1), (2, xm_i x2), (3, xm_i x3), (4, xm_i x4), (5, xm_i x5), (7, xm_i x7)] [xm_i s0] S := by
  unfold wp_X6_includes_129 at h1
  refine x_istore (L' := [(6, xm_i s0), (0, xm_r (some h)), (1, xm_i x1), (2, xm_i x2), (3, xm_i x3), (4, xm_i x4), (5, xm_i x5), (7, xm_i x7)]) C dX6_includes_129 (by decide) rfl ?_
  obtain ⟨y1, e2⟩ : ∃ y1, y1 = (x7 + (1 : Int32)) := ⟨_, rfl⟩
  have h1 := h1 y1 e2
  refine x_iinc (v := y1) (L' := [(7, xm_i y1), (6, xm_i s0), (0, xm_r (some h)), (1, xm_i x1), (2, xm_i x2), (3, xm_i x3), (4, xm_i x4), (5, xm_i x5)]) C 7 dX6_includes_131 rfl (by rw [e2]; rfl) (by decide) rfl ?_
  refine x_goto (tgt := 31) C dX6_includes_134 (by decide) ?_
  refine x_keep (L' := [(0, xm_r (some h)), (1, xm_i x1), (2, xm_i x2), (3, xm_i x3), (4, xm_i x4), (5, xm_i x5), (6, xm_i s0), (7, xm_i y1)]) C [2, 3, 4, 5, 6, 7, 1, 0] rfl ?_
  exact hZ31 x1 x2 x3 x4 x5 s0 y1 S h1
def wp_X6_includes_124 (h : Nat) (x1 : Int32) (x2 : Int32) (x3 : Int32) (x4 : Int32) (x5 : Int32) (x7 : Int32) (S : xm_S) (g : Int32 → xm_S → Prop) (Z31 : Int32 → Int32 → Int32 → Int32 → Int32 → Int32 → Int32 → xm_S → Prop) : Prop :=
  wp_X6_includes_129 h x1 x2 x3 x4 x5 x7 (1 : Int32) S g Z31
set_option maxRecDepth 100000 in
set_option maxHeartbeats 4000000 in
theorem kp_X6_includes_124 {K : xm_K} (h : Nat) (x1 : Int32) (x2 : Int32) (x3 : Int32) (x4 : Int32) (x5 : Int32) (x7 : Int32) (S : xm_S) {g : Int32 → xm_S → Prop} {Z31 : Int32 → Int32 → Int32 → Int32 → Int32 → Int32 → Int32 → xm_S → Prop} (C : xm_Cx K cX6_includes RX6 9 (some (FieldType.boolean)) rm_X6_includes) (N : xm_Nx K) (hg : ∀ v S, g v S → xm_q K (some (xm_i v)) S) (hZ31 : ∀ x1 x2 x3 x4 x5 x6 x7 S, Z31 x1 x2 x3 x4 x5 x6 x7 S → xm_W K 0 0 31 [(0, xm_r (some h)), (1, xm_i x1), (2, xm_i x2), (3, xm_i x3), (4, xm_i x4), (5, xm_i x5), (6, xm_i x6), (7, xm_i x7)] [] S) (h1 : wp_X6_includes_124 h x1 x2 x3 x4 x5 x7 S g Z31) : xm_W K 0 0 124 [(0, xm_r (some h)), (1, xm_i x1), (2, xm_i x2), (3, xm_i x3), (4, xm_i x4), (5, xm_i x5), (7, xm_i x7)] [] S := by
  unfold wp_X6_includes_124 at h1
  refine x_iconst (v := (1 : Int32)) C dX6_includes_124 (by decide) ?_
  refine x_goto (tgt := 129) C dX6_includes_125 (by decide) ?_
  exact kp_X6_includes_129 h x1 x2 x3 x4 x5 x7 (1 : Int32) S C N hg hZ31 h1
def wp_X6_includes_108 (h : Nat) (x1 : Int32) (x2 : Int32) (x3 : Int32) (x4 : Int32) (x6 : Int32) (x7 : Int32) (x8 : Option Nat) (s0 : Int32) (S : xm_S) (g : Int32 → xm_S → Prop) (Z31 : Int32 → Int32 → Int32 → Int32 → Int32 → Int32 → Int32 → xm_S → Prop) : Prop :=
  (¬ x6 = 0 → wp_X6_includes_124 h x1 x2 x3 x4 s0 x7 S g Z31) ∧ (x6 = 0 → ∃ n3, x8 = some n3 ∧ st_t S n3 = some (9, 0) ∧ wp_X9_tellsPreviewOf n3 x1 S (fun r7 S6 => (r7 = 0 → wp_X6_includes_129 h x1 x2 x3 x4 s0 x7 (0 : Int32) S6 g Z31) ∧ (¬ r7 = 0 → wp_X6_includes_124 h x1 x2 x3 x4 s0 x7 S6 g Z31)))
set_option maxRecDepth 100000 in
set_option maxHeartbeats 4000000 in
theorem kp_X6_includes_108 {K : xm_K} (h : Nat) (x1 : Int32) (x2 : Int32) (x3 : Int32) (x4 : Int32) (x6 : Int32) (x7 : Int32) (x8 : Option Nat) (s0 : Int32) (S : xm_S) {g : Int32 → xm_S → Prop} {Z31 : Int32 → Int32 → Int32 → Int32 → Int32 → Int32 → Int32 → xm_S → Prop} (C : xm_Cx K cX6_includes RX6 9 (some (FieldType.boolean)) rm_X6_includes) (N : xm_Nx K) (hg : ∀ v S, g v S → xm_q K (some (xm_i v)) S) (hZ31 : ∀ x1 x2 x3 x4 x5 x6 x7 S, Z31 x1 x2 x3 x4 x5 x6 x7 S → xm_W K 0 0 31 [(0, xm_r (some h)), (1, xm_i x1), (2, xm_i x2), (3, xm_i x3), (4, xm_i x4), (5, xm_i x5), (6, xm_i x6), (7, xm_i x7)] [] S) (h1 : wp_X6_includes_108 h x1 x2 x3 x4 x6 x7 x8 s0 S g Z31) : xm_W K 0 0 108 [(0, xm_r (some h)), (1, xm_i x1), (2, xm_i x2), (3, xm_i x3), (4, xm_i x4), (6, xm_i x6), (7, xm_i x7), (8, xm_r x8)] [xm_i s0] S := by
  unfold wp_X6_includes_108 at h1
  refine x_istore (L' := [(5, xm_i s0), (0, xm_r (some h)), (1, xm_i x1), (2, xm_i x2), (3, xm_i x3), (4, xm_i x4), (6, xm_i x6), (7, xm_i x7), (8, xm_r x8)]) C dX6_includes_108 (by decide) rfl ?_
  refine x_iload C 6 dX6_includes_110 rfl ?_
  refine x_if_ne (tgt := 124) C dX6_includes_112 (by decide) (fun z9 => ?_) (fun z9 => ?_)
  · have h1 := h1.1 z9
    refine x_keep (L' := [(0, xm_r (some h)), (1, xm_i x1), (2, xm_i x2), (3, xm_i x3), (4, xm_i x4), (5, xm_i s0), (7, xm_i x7)]) C [1, 2, 3, 4, 5, 0, 7] rfl ?_
    exact kp_X6_includes_124 h x1 x2 x3 x4 s0 x7 S C N hg hZ31 h1
  · have h1 := h1.2 z9
    refine x_aload C 8 dX6_includes_115 rfl ?_
    refine x_iload_n C 2 dX6_includes_117 rfl rfl ?_
    obtain ⟨n3, hr4, h1⟩ := h1
    obtain ⟨ht5, h1⟩ := h1
    refine x_callV (rm' := rm_X9_tellsPreviewOf) (n := n3) C (kp_X9_tellsPreviewOf_met h1) lk_11 gw_101 gw_102 xv_9 rfl hr4 ht5 rfl (Nat.le_of_ble_eq_true rfl) ⟨Nat.le_of_ble_eq_true rfl, Nat.le_of_ble_eq_true rfl, (Nat.le_of_ble_eq_true rfl), (Nat.le_of_ble_eq_true rfl)⟩ dX6_includes_118 xm_kx (xm_ki (fun r7 S6 h1 => ?_))
    refine x_if_eq (tgt := 128) C dX6_includes_121 (by decide) (fun z9 => ?_) (fun z9 => ?_)
    · have h1 := h1.1 z9
      refine x_iconst (v := (0 : Int32)) C dX6_includes_128 (by decide) ?_
      refine x_keep (L' := [(0, xm_r (some h)), (1, xm_i x1), (2, xm_i x2), (3, xm_i x3), (4, xm_i x4), (5, xm_i s0), (7, xm_i x7)]) C [1, 2, 3, 4, 5, 0, 7] rfl ?_
      exact kp_X6_includes_129 h x1 x2 x3 x4 s0 x7 (0 : Int32) S6 C N hg hZ31 h1
    · have h1 := h1.2 z9
      refine x_keep (L' := [(0, xm_r (some h)), (1, xm_i x1), (2, xm_i x2), (3, xm_i x3), (4, xm_i x4), (5, xm_i s0), (7, xm_i x7)]) C [1, 2, 3, 4, 5, 0, 7] rfl ?_
      exact kp_X6_includes_124 h x1 x2 x3 x4 s0 x7 S6 C N hg hZ31 h1
def wp_X6_includes_107 (h : Nat) (x1 : Int32) (x2 : Int32) (x3 : Int32) (x4 : Int32) (x6 : Int32) (x7 : Int32) (x8 : Option Nat) (S : xm_S) (g : Int32 → xm_S → Prop) (Z31 : Int32 → Int32 → Int32 → Int32 → Int32 → Int32 → Int32 → xm_S → Prop) : Prop :=
  wp_X6_includes_108 h x1 x2 x3 x4 x6 x7 x8 (0 : Int32) S g Z31
set_option maxRecDepth 100000 in
set_option maxHeartbeats 4000000 in
theorem kp_X6_includes_107 {K : xm_K} (h : Nat) (x1 : Int32) (x2 : Int32) (x3 : Int32) (x4 : Int32) (x6 : Int32) (x7 : Int32) (x8 : Option Nat) (S : xm_S) {g : Int32 → xm_S → Prop} {Z31 : Int32 → Int32 → Int32 → Int32 → Int32 → Int32 → Int32 → xm_S → Prop} (C : xm_Cx K cX6_includes RX6 9 (some (FieldType.boolean)) rm_X6_includes) (N : xm_Nx K) (hg : ∀ v S, g v S → xm_q K (some (xm_i v)) S) (hZ31 : ∀ x1 x2 x3 x4 x5 x6 x7 S, Z31 x1 x2 x3 x4 x5 x6 x7 S → xm_W K 0 0 31 [(0, xm_r (some h)), (1, xm_i x1), (2, xm_i x2), (3, xm_i x3), (4, xm_i x4), (5, xm_i x5), (6, xm_i x6), (7, xm_i x7)] [] S) (h1 : wp_X6_includes_107 h x1 x2 x3 x4 x6 x7 x8 S g Z31) : xm_W K 0 0 107 [(0, xm_r (some h)), (1, xm_i x1), (2, xm_i x2), (3, xm_i x3), (4, xm_i x4), (6, xm_i x6), (7, xm_i x7), (8, xm_r x8)] [] S := by
  unfold wp_X6_includes_107 at h1
  refine x_iconst (v := (0 : Int32)) C dX6_includes_107 (by decide) ?_
  exact kp_X6_includes_108 h x1 x2 x3 x4 x6 x7 x8 (0 : Int32) S C N hg hZ31 h1
def wp_X6_includes_76 (h : Nat) (x1 : Int32) (x2 : Int32) (x3 : Int32) (x4 : Int32) (x5 : Int32) (x6 : Int32) (x7 : Int32) (x8 : Option Nat) (S : xm_S) (g : Int32 → xm_S → Prop) (Z31 : Int32 → Int32 → Int32 → Int32 → Int32 → Int32 → Int32 → xm_S → Prop) : Prop :=
  (x5 = 0 → wp_X6_includes_107 h x1 x2 x3 x4 x6 x7 x8 S g Z31) ∧ (¬ x5 = 0 → ∃ n8, x8 = some n8 ∧ st_t S n8 = some (9, 0) ∧ ∃ n11, (st_r S n8 2) = some n11 ∧ ∃ z14, st_t S n11 = some (100, z14) ∧ vp_in x2 z14 ∧ (x3 < (st_i S n11 (x2).toNatClampNeg) → wp_X6_includes_107 h x1 x2 x3 x4 x6 x7 x8 S g Z31) ∧ (¬ x3 < (st_i S n11 (x2).toNatClampNeg) → ∃ n16, x8 = some n16 ∧ st_t S n16 = some (9, 0) ∧ ∃ n19, (st_r S n16 3) = some n19 ∧ ∃ z22, st_t S n19 = some (100, z22) ∧ vp_in x2 z22 ∧ ((st_i S n19 (x2).toNatClampNeg) ≤ x3 → wp_X6_includes_107 h x1 x2 x3 x4 x6 x7 x8 S g Z31) ∧ (¬ (st_i S n19 (x2).toNatClampNeg) ≤ x3 → wp_X6_includes_108 h x1 x2 x3 x4 x6 x7 x8 (1 : Int32) S g Z31)))
set_option maxRecDepth 100000 in
set_option maxHeartbeats 4000000 in
theorem kp_X6_includes_76 {K : xm_K} (h : Nat) (x1 : Int32) (x2 : Int32) (x3 : Int32) (x4 : Int32) (x5 : Int32) (x6 : Int32) (x7 : Int32) (x8 : Option Nat) (S : xm_S) {g : Int32 → xm_S → Prop} {Z31 : Int32 → Int32 → Int32 → Int32 → Int32 → Int32 → Int32 → xm_S → Prop} (C : xm_Cx K cX6_includes RX6 9 (some (FieldType.boolean)) rm_X6_includes) (N : xm_Nx K) (hg : ∀ v S, g v S → xm_q K (some (xm_i v)) S) (hZ31 : ∀ x1 x2 x3 x4 x5 x6 x7 S, Z31 x1 x2 x3 x4 x5 x6 x7 S → xm_W K 0 0 31 [(0, xm_r (some h)), (1, xm_i x1), (2, xm_i x2), (3, xm_i x3), (4, xm_i x4), (5, xm_i x5), (6, xm_i x6), (7, xm_i x7)] [] S) (h1 : wp_X6_includes_76 h x1 x2 x3 x4 x5 x6 x7 x8 S g Z31) : xm_W K 0 0 76 [(0, xm_r (some h)), (1, xm_i x1), (2, xm_i x2), (3, xm_i x3), (4, xm_i x4), (5, xm_i x5), (6, xm_i x6), (7, xm_i x7), (8, xm_r x8)] [] S := by
  unfold wp_X6_includes_76 at h1
  refine x_iload C 5 dX6_includes_76 rfl ?_
  refine x_if_eq (tgt := 107) C dX6_includes_78 (by decide) (fun z9 => ?_) (fun z9 => ?_)
  · have h1 := h1.1 z9
    refine x_keep (L' := [(0, xm_r (some h)), (1, xm_i x1), (2, xm_i x2), (3, xm_i x3), (4, xm_i x4), (6, xm_i x6), (7, xm_i x7), (8, xm_r x8)]) C [0, 1, 2, 3, 4, 6, 7, 8] rfl ?_
    exact kp_X6_includes_107 h x1 x2 x3 x4 x6 x7 x8 S C N hg hZ31 h1
  · have h1 := h1.2 z9
    refine x_aload C 8 dX6_includes_81 rfl ?_
    obtain ⟨n8, hr9, h1⟩ := h1
    obtain ⟨ht10, h1⟩ := h1
    refine x_getf_r (n := n8) C hr9 ht10 fd_43 (by decide) dX6_includes_83 ?_
    refine x_iload_n C 2 dX6_includes_86 rfl rfl ?_
    obtain ⟨n11, hr12, h1⟩ := h1
    obtain ⟨z14, ht13, h1⟩ := h1
    obtain ⟨hi15, h1⟩ := h1
    refine x_iald (n := n11) C hr12 ht13 hi15 dX6_includes_87 ?_
    refine x_iload_n C 3 dX6_includes_88 rfl rfl ?_
    refine x_icmp_gt (tgt := 107) C dX6_includes_89 (by decide) (fun z9 => ?_) (fun z9 => ?_)
    · have h1 := h1.1 z9
      refine x_keep (L' := [(0, xm_r (some h)), (1, xm_i x1), (2, xm_i x2), (3, xm_i x3), (4, xm_i x4), (6, xm_i x6), (7, xm_i x7), (8, xm_r x8)]) C [0, 1, 2, 3, 4, 6, 7, 8] rfl ?_
      exact kp_X6_includes_107 h x1 x2 x3 x4 x6 x7 x8 S C N hg hZ31 h1
    · have h1 := h1.2 z9
      refine x_iload_n C 3 dX6_includes_92 rfl rfl ?_
      refine x_aload C 8 dX6_includes_93 rfl ?_
      obtain ⟨n16, hr17, h1⟩ := h1
      obtain ⟨ht18, h1⟩ := h1
      refine x_getf_r (n := n16) C hr17 ht18 fd_44 (by decide) dX6_includes_95 ?_
      refine x_iload_n C 2 dX6_includes_98 rfl rfl ?_
      obtain ⟨n19, hr20, h1⟩ := h1
      obtain ⟨z22, ht21, h1⟩ := h1
      obtain ⟨hi23, h1⟩ := h1
      refine x_iald (n := n19) C hr20 ht21 hi23 dX6_includes_99 ?_
      refine x_icmp_ge (tgt := 107) C dX6_includes_100 (by decide) (fun z9 => ?_) (fun z9 => ?_)
      · have h1 := h1.1 z9
        refine x_keep (L' := [(0, xm_r (some h)), (1, xm_i x1), (2, xm_i x2), (3, xm_i x3), (4, xm_i x4), (6, xm_i x6), (7, xm_i x7), (8, xm_r x8)]) C [0, 1, 2, 3, 4, 6, 7, 8] rfl ?_
        exact kp_X6_includes_107 h x1 x2 x3 x4 x6 x7 x8 S C N hg hZ31 h1
      · have h1 := h1.2 z9
        refine x_iconst (v := (1 : Int32)) C dX6_includes_103 (by decide) ?_
        refine x_goto (tgt := 108) C dX6_includes_104 (by decide) ?_
        refine x_keep (L' := [(0, xm_r (some h)), (1, xm_i x1), (2, xm_i x2), (3, xm_i x3), (4, xm_i x4), (6, xm_i x6), (7, xm_i x7), (8, xm_r x8)]) C [0, 1, 2, 3, 4, 6, 7, 8] rfl ?_
        exact kp_X6_includes_108 h x1 x2 x3 x4 x6 x7 x8 (1 : Int32) S C N hg hZ31 h1
def wp_X6_includes_69 (h : Nat) (x1 : Int32) (x2 : Int32) (x3 : Int32) (x4 : Int32) (x7 : Int32) (x8 : Option Nat) (S : xm_S) (g : Int32 → xm_S → Prop) (Z31 : Int32 → Int32 → Int32 → Int32 → Int32 → Int32 → Int32 → xm_S → Prop) : Prop :=
  wp_X6_includes_76 h x1 x2 x3 x4 (1 : Int32) x4 x7 x8 S g Z31
set_option maxRecDepth 100000 in
set_option maxHeartbeats 4000000 in
theorem kp_X6_includes_69 {K : xm_K} (h : Nat) (x1 : Int32) (x2 : Int32) (x3 : Int32) (x4 : Int32) (x7 : Int32) (x8 : Option Nat) (S : xm_S) {g : Int32 → xm_S → Prop} {Z31 : Int32 → Int32 → Int32 → Int32 → Int32 → Int32 → Int32 → xm_S → Prop} (C : xm_Cx K cX6_includes RX6 9 (some (FieldType.boolean)) rm_X6_includes) (N : xm_Nx K) (hg : ∀ v S, g v S → xm_q K (some (xm_i v)) S) (hZ31 : ∀ x1 x2 x3 x4 x5 x6 x7 S, Z31 x1 x2 x3 x4 x5 x6 x7 S → xm_W K 0 0 31 [(0, xm_r (some h)), (1, xm_i x1), (2, xm_i x2), (3, xm_i x3), (4, xm_i x4), (5, xm_i x5), (6, xm_i x6), (7, xm_i x7)] [] S) (h1 : wp_X6_includes_69 h x1 x2 x3 x4 x7 x8 S g Z31) : xm_W K 0 0 69 [(0, xm_r (some h)), (1, xm_i x1), (2, xm_i x2), (3, xm_i x3), (4, xm_i x4), (7, xm_i x7), (8, xm_r x8)] [] S := by
  unfold wp_X6_includes_69 at h1
  refine x_iconst (v := (1 : Int32)) C dX6_includes_69 (by decide) ?_
  refine x_istore (L' := [(5, xm_i (1 : Int32)), (0, xm_r (some h)), (1, xm_i x1), (2, xm_i x2), (3, xm_i x3), (4, xm_i x4), (7, xm_i x7), (8, xm_r x8)]) C dX6_includes_70 (by decide) rfl ?_
  refine x_iload C 5 dX6_includes_72 rfl ?_
  refine x_istore (L' := [(6, xm_i x4), (5, xm_i (1 : Int32)), (0, xm_r (some h)), (1, xm_i x1), (2, xm_i x2), (3, xm_i x3), (4, xm_i x4), (7, xm_i x7), (8, xm_r x8)]) C dX6_includes_74 (by decide) rfl ?_
  refine x_keep (L' := [(0, xm_r (some h)), (1, xm_i x1), (2, xm_i x2), (3, xm_i x3), (4, xm_i x4), (5, xm_i (1 : Int32)), (6, xm_i x4), (7, xm_i x7), (8, xm_r x8)]) C [2, 3, 4, 5, 6, 1, 0, 7, 8] rfl ?_
  exact kp_X6_includes_76 h x1 x2 x3 x4 (1 : Int32) x4 x7 x8 S C N hg hZ31 h1
def wp_X6_includes_152 (h : Nat) (s0 : Int32) (S : xm_S) (g : Int32 → xm_S → Prop) : Prop :=
  (s0 = 0 ∨ s0 = 1) ∧ g s0 S
set_option maxRecDepth 100000 in
set_option maxHeartbeats 4000000 in
theorem kp_X6_includes_152 {K : xm_K} (h : Nat) (s0 : Int32) (S : xm_S) {g : Int32 → xm_S → Prop} (C : xm_Cx K cX6_includes RX6 9 (some (FieldType.boolean)) rm_X6_includes) (N : xm_Nx K) (hg : ∀ v S, g v S → xm_q K (some (xm_i v)) S)  (h1 : wp_X6_includes_152 h s0 S g) : xm_W K 0 0 152 [] [xm_i s0] S := by
  unfold wp_X6_includes_152 at h1
  exact x_zret C (Nat.le_of_ble_eq_true rfl) (Nat.le_of_ble_eq_true rfl) rfl h1.1 dX6_includes_152 (hg _ _ h1.2)
def wp_X6_includes_151 (h : Nat)  (S : xm_S) (g : Int32 → xm_S → Prop) : Prop :=
  wp_X6_includes_152 h (0 : Int32) S g
set_option maxRecDepth 100000 in
set_option maxHeartbeats 4000000 in
theorem kp_X6_includes_151 {K : xm_K} (h : Nat)  (S : xm_S) {g : Int32 → xm_S → Prop} (C : xm_Cx K cX6_includes RX6 9 (some (FieldType.boolean)) rm_X6_includes) (N : xm_Nx K) (hg : ∀ v S, g v S → xm_q K (some (xm_i v)) S)  (h1 : wp_X6_includes_151 h  S g) : xm_W K 0 0 151 [] [] S := by
  unfold wp_X6_includes_151 at h1
  refine x_iconst (v := (0 : Int32)) C dX6_includes_151 (by decide) ?_
  exact kp_X6_includes_152 h (0 : Int32) S C N hg  h1
def wp_X6_includes_31B (h : Nat) (x1 : Int32) (x2 : Int32) (x3 : Int32) (x4 : Int32) (x5 : Int32) (x6 : Int32) (x7 : Int32) (S : xm_S) (g : Int32 → xm_S → Prop) (Z31 : Int32 → Int32 → Int32 → Int32 → Int32 → Int32 → Int32 → xm_S → Prop) : Prop :=
  st_t S h = some (6, 0) ∧ ((st_i S h 1) ≤ x7 → (x5 = 0 → wp_X6_includes_151 h S g) ∧ (¬ x5 = 0 → (x6 = 0 → wp_X6_includes_151 h S g) ∧ (¬ x6 = 0 → wp_X6_includes_152 h (1 : Int32) S g))) ∧ (¬ (st_i S h 1) ≤ x7 → ∃ n25, (st_r S h 0) = some n25 ∧ ∃ z28, st_t S n25 = some (119, z28) ∧ vp_in x7 z28 ∧ ∃ n30, (st_r S n25 (x7).toNatClampNeg) = some n30 ∧ st_t S n30 = some (9, 0) ∧ ((st_i S n30 1) = 0 → wp_X6_includes_76 h x1 x2 x3 x4 x5 x6 x7 (st_r S n25 (x7).toNatClampNeg) S g Z31) ∧ (¬ (st_i S n30 1) = 0 → (x5 = 0 → wp_X6_includes_69 h x1 x2 x3 x4 x7 (st_r S n25 (x7).toNatClampNeg) S g Z31) ∧ (¬ x5 = 0 → (x6 = 0 → wp_X6_includes_69 h x1 x2 x3 x4 x7 (st_r S n25 (x7).toNatClampNeg) S g Z31) ∧ (¬ x6 = 0 → g (1 : Int32) S))))
def wp_X6_includes_31 (h : Nat) (x1 : Int32) (x2 : Int32) (x3 : Int32) (x4 : Int32) (x5 : Int32) (x6 : Int32) (x7 : Int32) (S : xm_S) (g : Int32 → xm_S → Prop) : Prop :=
  ∀ Z31 : Int32 → Int32 → Int32 → Int32 → Int32 → Int32 → Int32 → xm_S → Prop, (∀ x1 x2 x3 x4 x5 x6 x7 S, wp_X6_includes_31B h x1 x2 x3 x4 x5 x6 x7 S g Z31 → Z31 x1 x2 x3 x4 x5 x6 x7 S) → Z31 x1 x2 x3 x4 x5 x6 x7 S
set_option maxRecDepth 100000 in
set_option maxHeartbeats 4000000 in
theorem kp_X6_includes_31B {K : xm_K} (h : Nat) (x1 : Int32) (x2 : Int32) (x3 : Int32) (x4 : Int32) (x5 : Int32) (x6 : Int32) (x7 : Int32) (S : xm_S) {g : Int32 → xm_S → Prop} {Z31 : Int32 → Int32 → Int32 → Int32 → Int32 → Int32 → Int32 → xm_S → Prop} (C : xm_Cx K cX6_includes RX6 9 (some (FieldType.boolean)) rm_X6_includes) (N : xm_Nx K) (hg : ∀ v S, g v S → xm_q K (some (xm_i v)) S) (hZ31 : ∀ x1 x2 x3 x4 x5 x6 x7 S, Z31 x1 x2 x3 x4 x5 x6 x7 S → xm_W K 0 0 31 [(0, xm_r (some h)), (1, xm_i x1), (2, xm_i x2), (3, xm_i x3), (4, xm_i x4), (5, xm_i x5), (6, xm_i x6), (7, xm_i x7)] [] S) (h1 : wp_X6_includes_31B h x1 x2 x3 x4 x5 x6 x7 S g Z31) : xm_W K 0 0 31 [(0, xm_r (some h)), (1, xm_i x1), (2, xm_i x2), (3, xm_i x3), (4, xm_i x4), (5, xm_i x5), (6, xm_i x6), (7, xm_i x7)] [] S := by
  unfold wp_X6_includes_31B at h1
  refine x_iload C 7 dX6_includes_31 rfl ?_
  refine x_aload_n C 0 dX6_includes_33 rfl rfl ?_
  obtain ⟨ht24, h1⟩ := h1
  refine x_getf_i (n := h) C rfl ht24 fd_40 (by decide) dX6_includes_34 ?_
  refine x_icmp_ge (tgt := 137) C dX6_includes_37 (by decide) (fun z9 => ?_) (fun z9 => ?_)
  · have h1 := h1.1 z9
    refine x_iload C 5 dX6_includes_137 rfl ?_
    refine x_if_eq (tgt := 151) C dX6_includes_139 (by decide) (fun z9 => ?_) (fun z9 => ?_)
    · have h1 := h1.1 z9
      refine x_keep (L' := []) C [] rfl ?_
      exact kp_X6_includes_151 h S C N hg  h1
    · have h1 := h1.2 z9
      refine x_iload C 6 dX6_includes_142 rfl ?_
      refine x_if_eq (tgt := 151) C dX6_includes_144 (by decide) (fun z9 => ?_) (fun z9 => ?_)
      · have h1 := h1.1 z9
        refine x_keep (L' := []) C [] rfl ?_
        exact kp_X6_includes_151 h S C N hg  h1
      · have h1 := h1.2 z9
        refine x_iconst (v := (1 : Int32)) C dX6_includes_147 (by decide) ?_
        refine x_goto (tgt := 152) C dX6_includes_148 (by decide) ?_
        refine x_keep (L' := []) C [] rfl ?_
        exact kp_X6_includes_152 h (1 : Int32) S C N hg  h1
  · have h1 := h1.2 z9
    refine x_aload_n C 0 dX6_includes_40 rfl rfl ?_
    refine x_getf_r (n := h) C rfl ht24 fd_41 (by decide) dX6_includes_41 ?_
    refine x_iload C 7 dX6_includes_44 rfl ?_
    obtain ⟨n25, hr26, h1⟩ := h1
    obtain ⟨z28, ht27, h1⟩ := h1
    obtain ⟨hi29, h1⟩ := h1
    refine x_aald (n := n25) C hr26 (by decide) rfl ht27 hi29 dX6_includes_46 ?_
    refine x_astore (L' := [(8, xm_r (st_r S n25 (x7).toNatClampNeg)), (0, xm_r (some h)), (1, xm_i x1), (2, xm_i x2), (3, xm_i x3), (4, xm_i x4), (5, xm_i x5), (6, xm_i x6), (7, xm_i x7)]) C dX6_includes_47 (by decide) rfl ?_
    refine x_aload C 0 dX6_includes_49 rfl ?_
    obtain ⟨n30, hr31, h1⟩ := h1
    obtain ⟨ht32, h1⟩ := h1
    refine x_getf_i (n := n30) C hr31 ht32 fd_45 (by decide) dX6_includes_51 ?_
    refine x_if_eq (tgt := 76) C dX6_includes_54 (by decide) (fun z9 => ?_) (fun z9 => ?_)
    · have h1 := h1.1 z9
      refine x_keep (L' := [(0, xm_r (some h)), (1, xm_i x1), (2, xm_i x2), (3, xm_i x3), (4, xm_i x4), (5, xm_i x5), (6, xm_i x6), (7, xm_i x7), (8, xm_r (st_r S n25 (x7).toNatClampNeg))]) C [1, 2, 3, 4, 5, 6, 7, 8, 0] rfl ?_
      exact kp_X6_includes_76 h x1 x2 x3 x4 x5 x6 x7 (st_r S n25 (x7).toNatClampNeg) S C N hg hZ31 h1
    · have h1 := h1.2 z9
      refine x_iload C 6 dX6_includes_57 rfl ?_
      refine x_if_eq (tgt := 69) C dX6_includes_59 (by decide) (fun z9 => ?_) (fun z9 => ?_)
      · have h1 := h1.1 z9
        refine x_keep (L' := [(0, xm_r (some h)), (1, xm_i x1), (2, xm_i x2), (3, xm_i x3), (4, xm_i x4), (7, xm_i x7), (8, xm_r (st_r S n25 (x7).toNatClampNeg))]) C [1, 2, 3, 4, 5, 8, 0] rfl ?_
        exact kp_X6_includes_69 h x1 x2 x3 x4 x7 (st_r S n25 (x7).toNatClampNeg) S C N hg hZ31 h1
      · have h1 := h1.2 z9
        refine x_iload C 7 dX6_includes_62 rfl ?_
        refine x_if_eq (tgt := 69) C dX6_includes_64 (by decide) (fun z9 => ?_) (fun z9 => ?_)
        · have h1 := h1.1 z9
          refine x_keep (L' := [(0, xm_r (some h)), (1, xm_i x1), (2, xm_i x2), (3, xm_i x3), (4, xm_i x4), (7, xm_i x7), (8, xm_r (st_r S n25 (x7).toNatClampNeg))]) C [1, 2, 3, 4, 5, 8, 0] rfl ?_
          exact kp_X6_includes_69 h x1 x2 x3 x4 x7 (st_r S n25 (x7).toNatClampNeg) S C N hg hZ31 h1
        · have h1 := h1.2 z9
          refine x_iconst (v := (1 : Int32)) C dX6_includes_67 (by decide) ?_
          exact x_zret C (Nat.le_of_ble_eq_true rfl) (Nat.le_of_ble_eq_true rfl) rfl (by decide) dX6_includes_68 (hg _ _ h1)
theorem kp_X6_includes_31 {K : xm_K} (h : Nat) (x1 : Int32) (x2 : Int32) (x3 : Int32) (x4 : Int32) (x5 : Int32) (x6 : Int32) (x7 : Int32) (S : xm_S) {g : Int32 → xm_S → Prop} (C : xm_Cx K cX6_includes RX6 9 (some (FieldType.boolean)) rm_X6_includes) (N : xm_Nx K) (hg : ∀ v S, g v S → xm_q K (some (xm_i v)) S)  (h1 : wp_X6_includes_31 h x1 x2 x3 x4 x5 x6 x7 S g) : xm_W K 0 0 31 [(0, xm_r (some h)), (1, xm_i x1), (2, xm_i x2), (3, xm_i x3), (4, xm_i x4), (5, xm_i x5), (6, xm_i x6), (7, xm_i x7)] [] S :=
  h1 (fun x1 x2 x3 x4 x5 x6 x7 S => xm_W K 0 0 31 [(0, xm_r (some h)), (1, xm_i x1), (2, xm_i x2), (3, xm_i x3), (4, xm_i x4), (5, xm_i x5), (6, xm_i x6), (7, xm_i x7)] [] S) (fun x1 x2 x3 x4 x5 x6 x7 S hb => kp_X6_includes_31B h x1 x2 x3 x4 x5 x6 x7 S C N hg (fun x1 x2 x3 x4 x5 x6 x7 S hz => hz) hb)
def wp_X6_includes_20 (h : Nat) (x1 : Int32) (x2 : Int32) (x3 : Int32) (s0 : Int32) (S : xm_S) (g : Int32 → xm_S → Prop) : Prop :=
  wp_X6_includes_31 h x1 x2 x3 s0 (0 : Int32) (0 : Int32) (0 : Int32) S g
set_option maxRecDepth 100000 in
set_option maxHeartbeats 4000000 in
theorem kp_X6_includes_20 {K : xm_K} (h : Nat) (x1 : Int32) (x2 : Int32) (x3 : Int32) (s0 : Int32) (S : xm_S) {g : Int32 → xm_S → Prop} (C : xm_Cx K cX6_includes RX6 9 (some (FieldType.boolean)) rm_X6_includes) (N : xm_Nx K) (hg : ∀ v S, g v S → xm_q K (some (xm_i v)) S)  (h1 : wp_X6_includes_20 h x1 x2 x3 s0 S g) : xm_W K 0 0 20 [(0, xm_r (some h)), (1, xm_i x1), (2, xm_i x2), (3, xm_i x3)] [xm_i s0] S := by
  unfold wp_X6_includes_20 at h1
  refine x_istore (L' := [(4, xm_i s0), (0, xm_r (some h)), (1, xm_i x1), (2, xm_i x2), (3, xm_i x3)]) C dX6_includes_20 (by decide) rfl ?_
  refine x_iconst (v := (0 : Int32)) C dX6_includes_22 (by decide) ?_
  refine x_istore (L' := [(5, xm_i (0 : Int32)), (4, xm_i s0), (0, xm_r (some h)), (1, xm_i x1), (2, xm_i x2), (3, xm_i x3)]) C dX6_includes_23 (by decide) rfl ?_
  refine x_iconst (v := (0 : Int32)) C dX6_includes_25 (by decide) ?_
  refine x_istore (L' := [(6, xm_i (0 : Int32)), (5, xm_i (0 : Int32)), (4, xm_i s0), (0, xm_r (some h)), (1, xm_i x1), (2, xm_i x2), (3, xm_i x3)]) C dX6_includes_26 (by decide) rfl ?_
  refine x_iconst (v := (0 : Int32)) C dX6_includes_28 (by decide) ?_
  refine x_istore (L' := [(7, xm_i (0 : Int32)), (6, xm_i (0 : Int32)), (5, xm_i (0 : Int32)), (4, xm_i s0), (0, xm_r (some h)), (1, xm_i x1), (2, xm_i x2), (3, xm_i x3)]) C dX6_includes_29 (by decide) rfl ?_
  refine x_keep (L' := [(0, xm_r (some h)), (1, xm_i x1), (2, xm_i x2), (3, xm_i x3), (4, xm_i s0), (5, xm_i (0 : Int32)), (6, xm_i (0 : Int32)), (7, xm_i (0 : Int32))]) C [4, 5, 6, 7, 3, 2, 1, 0] rfl ?_
  exact kp_X6_includes_31 h x1 x2 x3 s0 (0 : Int32) (0 : Int32) (0 : Int32) S C N hg  h1
def wp_X6_includes (h : Nat) (x1 : Int32) (x2 : Int32) (S : xm_S) (g : Int32 → xm_S → Prop) : Prop :=
  wp_X9_rank x1 x2 S (fun r34 S33 => (¬ (x1 &&& (nI 15)) = (nI 10) → wp_X6_includes_20 h x1 x2 r34 (0 : Int32) S33 g) ∧ ((x1 &&& (nI 15)) = (nI 10) → wp_X6_includes_20 h x1 x2 r34 (1 : Int32) S33 g))
set_option maxRecDepth 100000 in
set_option maxHeartbeats 4000000 in
theorem kp_X6_includes {K : xm_K} (h : Nat) (x1 : Int32) (x2 : Int32) (S : xm_S) {g : Int32 → xm_S → Prop} (C : xm_Cx K cX6_includes RX6 9 (some (FieldType.boolean)) rm_X6_includes) (N : xm_Nx K) (hg : ∀ v S, g v S → xm_q K (some (xm_i v)) S)  (h1 : wp_X6_includes h x1 x2 S g) : xm_W K 0 0 0 [(0, xm_r (some h)), (1, xm_i x1), (2, xm_i x2)] [] S := by
  unfold wp_X6_includes at h1
  refine x_iload_n C 1 dX6_includes_0 rfl rfl ?_
  refine x_iload_n C 2 dX6_includes_1 rfl rfl ?_
  refine x_callS (rm' := rm_X9_rank) C (kp_X9_rank_met h1) lk_12 gw_88 rfl (Nat.le_of_ble_eq_true rfl) ⟨Nat.le_of_ble_eq_true rfl, Nat.le_of_ble_eq_true rfl, (Nat.le_of_ble_eq_true rfl), (Nat.le_of_ble_eq_true rfl)⟩ dX6_includes_2 xm_kx (xm_ki (fun r34 S33 h1 => ?_))
  refine x_istore_n (L' := [(3, xm_i r34), (0, xm_r (some h)), (1, xm_i x1), (2, xm_i x2)]) C dX6_includes_5 rfl (by decide) rfl ?_
  refine x_iload_n C 2 dX6_includes_6 rfl rfl ?_
  refine x_bipush (v := (nI 15)) C dX6_includes_7 (by decide) ?_
  refine x_iand C dX6_includes_9 ?_
  refine x_bipush (v := (nI 10)) C dX6_includes_10 (by decide) ?_
  refine x_icmp_ne (tgt := 19) C dX6_includes_12 (by decide) (fun z9 => ?_) (fun z9 => ?_)
  · have h1 := h1.1 z9
    refine x_iconst (v := (0 : Int32)) C dX6_includes_19 (by decide) ?_
    refine x_keep (L' := [(0, xm_r (some h)), (1, xm_i x1), (2, xm_i x2), (3, xm_i r34)]) C [1, 2, 3, 0] rfl ?_
    exact kp_X6_includes_20 h x1 x2 r34 (0 : Int32) S33 C N hg  h1
  · have h1 := h1.2 z9
    refine x_iconst (v := (1 : Int32)) C dX6_includes_15 (by decide) ?_
    refine x_goto (tgt := 20) C dX6_includes_16 (by decide) ?_
    refine x_keep (L' := [(0, xm_r (some h)), (1, xm_i x1), (2, xm_i x2), (3, xm_i r34)]) C [1, 2, 3, 0] rfl ?_
    exact kp_X6_includes_20 h x1 x2 r34 (1 : Int32) S33 C N hg  h1
theorem kp_X6_includes_met {h : Nat} {x1 : Int32} {x2 : Int32} {S : xm_S} {g : Int32 → xm_S → Prop}  (h1 : wp_X6_includes h x1 x2 S g) : xm_Met yX6_includes cX6_includes 9 (some (FieldType.boolean)) rm_X6_includes [xm_r (some h), xm_i x1, xm_i x2] S (xm_qi g) xm_nox :=
  xm_ofW RX6 (by decide +kernel) rfl (Nat.le_of_ble_eq_true rfl) (fun K C N hq hx hi => kp_X6_includes h x1 x2 S C N (fun v S h => by rw [hq]; exact ⟨v, rfl, h⟩)  h1)
def rm_X6_init : Room := { frames := 1, cells := 1, slots := 20, locals := 20 }
theorem dX6_init_0 : decode cX6_init 0 = .ok (.aload_n 0, 1) := by decide +kernel
theorem dX6_init_1 : decode cX6_init 1 = .ok (.invokespecial 3, 3) := by decide +kernel
theorem dX6_init_4 : decode cX6_init 4 = .ok (.aload_n 0, 1) := by decide +kernel
theorem dX6_init_5 : decode cX6_init 5 = .ok (.bipush 20, 2) := by decide +kernel
theorem dX6_init_7 : decode cX6_init 7 = .ok (.anewarray 9, 3) := by decide +kernel
theorem dX6_init_10 : decode cX6_init 10 = .ok (.putfield 11, 3) := by decide +kernel
theorem dX6_init_13 : decode cX6_init 13 = .ok (.aload_n 0, 1) := by decide +kernel
theorem dX6_init_14 : decode cX6_init 14 = .ok (.iconst 0, 1) := by decide +kernel
theorem dX6_init_15 : decode cX6_init 15 = .ok (.putfield 17, 3) := by decide +kernel
theorem dX6_init_18 : decode cX6_init 18 = .ok (.return_, 1) := by decide +kernel
def wp_X6_init (h : Nat)  (S : xm_S) (g : xm_S → Prop) : Prop :=
  ∃ n1, st_t S n1 = none ∧ ∀ S3, S3 = st_nw S n1 (119, 20) → st_t S3 h = some (6, 0) ∧ ∀ S6, S6 = st_pr S3 h 0 (some n1) → ∀ S8, S8 = st_pi S6 h 1 (0 : Int32) → g S8
set_option maxRecDepth 100000 in
set_option maxHeartbeats 4000000 in
theorem kp_X6_init {K : xm_K} (h : Nat)  (S : xm_S) {g : xm_S → Prop} (C : xm_Cx K cX6_init RX6 1 none rm_X6_init) (N : xm_Nx K) (hini : xm_init K) (hg : ∀ S, g S → xm_q K none S)  (h1 : wp_X6_init h  S g) : xm_W K 0 0 0 [(0, xm_r (some h))] [] S := by
  unfold wp_X6_init at h1
  refine x_aload_n C 0 dX6_init_0 rfl rfl ?_
  refine x_objInit (n := h) C rfl gw_107 (Nat.le_of_ble_eq_true rfl) (Nat.le_of_ble_eq_true rfl) (Nat.le_of_ble_eq_true rfl) dX6_init_1 gw_1 gw_2 ?_
  refine x_aload_n C 0 dX6_init_4 rfl rfl ?_
  refine x_bipush (v := (nI 20)) C dX6_init_5 (by decide) ?_
  obtain ⟨n1, hn2, h1⟩ := h1
  refine x_newq (n := n1) (ci := 9) (len := 20) C gw_108 (by decide +kernel) (by decide) rfl (by decide) (by decide) hn2 (Nat.le_of_ble_eq_true rfl) (Nat.le_of_ble_eq_true rfl) dX6_init_7 ?_
  refine x_topS (fun S3 e4 => ?_)
  have h1 := h1 S3 e4
  obtain ⟨ht5, h1⟩ := h1
  refine x_putfF_r (n := h) C rfl ht5 fd_41 xc_6 (by decide) rfl hini rfl (xm_nr rfl) dX6_init_10 ?_
  refine x_topS (fun S6 e7 => ?_)
  have h1 := h1 S6 e7
  refine x_aload_n C 0 dX6_init_13 rfl rfl ?_
  refine x_iconst (v := (0 : Int32)) C dX6_init_14 (by decide) ?_
  refine x_putf_i (n := h) C rfl (tk_p e7 ht5) fd_40 xc_6 (by decide) rfl ⟨rfl, rfl⟩ dX6_init_15 ?_
  refine x_topS (fun S8 e9 => ?_)
  have h1 := h1 S8 e9
  exact x_vret C (Nat.le_of_ble_eq_true rfl) (Nat.le_of_ble_eq_true rfl) rfl dX6_init_18 (hg _ h1)
theorem kp_X6_init_met {h : Nat}  {S : xm_S} {g : xm_S → Prop}  (h1 : wp_X6_init h  S g) : xm_Met yX6_init cX6_init 1 none rm_X6_init [xm_r (some h)] S (xm_qv g) xm_nox :=
  xm_ofW RX6 (by decide +kernel) rfl (Nat.le_of_ble_eq_true rfl) (fun K C N hq hx hi => kp_X6_init h  S C N (hi rfl) (fun S h => by rw [hq]; exact ⟨rfl, h⟩)  h1)
def rm_X7_isMet : Room := { frames := 1, cells := 0, slots := 0, locals := 20 }
theorem dX7_isMet_0 : decode cX7_isMet 0 = .ok (.aload_n 1, 1) := by decide +kernel
theorem dX7_isMet_1 : decode cX7_isMet 1 = .ok (.getfield 73, 3) := by decide +kernel
theorem dX7_isMet_4 : decode cX7_isMet 4 = .ok (.iload_n 2, 1) := by decide +kernel
theorem dX7_isMet_5 : decode cX7_isMet 5 = .ok (.iand, 1) := by decide +kernel
theorem dX7_isMet_6 : decode cX7_isMet 6 = .ok (.istore_n 3, 1) := by decide +kernel
theorem dX7_isMet_7 : decode cX7_isMet 7 = .ok (.aload_n 0, 1) := by decide +kernel
theorem dX7_isMet_8 : decode cX7_isMet 8 = .ok (.dup, 1) := by decide +kernel
theorem dX7_isMet_9 : decode cX7_isMet 9 = .ok (.getfield 51, 3) := by decide +kernel
theorem dX7_isMet_12 : decode cX7_isMet 12 = .ok (.iload_n 3, 1) := by decide +kernel
theorem dX7_isMet_13 : decode cX7_isMet 13 = .ok (.ior, 1) := by decide +kernel
theorem dX7_isMet_14 : decode cX7_isMet 14 = .ok (.putfield 51, 3) := by decide +kernel
theorem dX7_isMet_17 : decode cX7_isMet 17 = .ok (.aload_n 0, 1) := by decide +kernel
theorem dX7_isMet_18 : decode cX7_isMet 18 = .ok (.dup, 1) := by decide +kernel
theorem dX7_isMet_19 : decode cX7_isMet 19 = .ok (.getfield 54, 3) := by decide +kernel
theorem dX7_isMet_22 : decode cX7_isMet 22 = .ok (.aload_n 1, 1) := by decide +kernel
theorem dX7_isMet_23 : decode cX7_isMet 23 = .ok (.getfield 119, 3) := by decide +kernel
theorem dX7_isMet_26 : decode cX7_isMet 26 = .ok (.aload_n 1, 1) := by decide +kernel
theorem dX7_isMet_27 : decode cX7_isMet 27 = .ok (.getfield 113, 3) := by decide +kernel
theorem dX7_isMet_30 : decode cX7_isMet 30 = .ok (.iconst 4, 1) := by decide +kernel
theorem dX7_isMet_31 : decode cX7_isMet 31 = .ok (.imul, 1) := by decide +kernel
theorem dX7_isMet_32 : decode cX7_isMet 32 = .ok (.ishl, 1) := by decide +kernel
theorem dX7_isMet_33 : decode cX7_isMet 33 = .ok (.ior, 1) := by decide +kernel
theorem dX7_isMet_34 : decode cX7_isMet 34 = .ok (.putfield 54, 3) := by decide +kernel
theorem dX7_isMet_37 : decode cX7_isMet 37 = .ok (.iload_n 3, 1) := by decide +kernel
theorem dX7_isMet_38 : decode cX7_isMet 38 = .ok (.ifCond .eq 7, 3) := by decide +kernel
theorem dX7_isMet_41 : decode cX7_isMet 41 = .ok (.iconst 1, 1) := by decide +kernel
theorem dX7_isMet_42 : decode cX7_isMet 42 = .ok (.goto 4, 3) := by decide +kernel
theorem dX7_isMet_45 : decode cX7_isMet 45 = .ok (.iconst 0, 1) := by decide +kernel
theorem dX7_isMet_46 : decode cX7_isMet 46 = .ok (.ireturn, 1) := by decide +kernel
def wp_X7_isMet_46 (h : Nat) (s0 : Int32) (S : xm_S) (g : Int32 → xm_S → Prop) : Prop :=
  (s0 = 0 ∨ s0 = 1) ∧ g s0 S
set_option maxRecDepth 100000 in
set_option maxHeartbeats 4000000 in
theorem kp_X7_isMet_46 {K : xm_K} (h : Nat) (s0 : Int32) (S : xm_S) {g : Int32 → xm_S → Prop} (C : xm_Cx K cX7_isMet RX7 4 (some (FieldType.boolean)) rm_X7_isMet) (N : xm_Nx K) (hg : ∀ v S, g v S → xm_q K (some (xm_i v)) S)  (h1 : wp_X7_isMet_46 h s0 S g) : xm_W K 0 0 46 [] [xm_i s0] S := by
  unfold wp_X7_isMet_46 at h1
  exact x_zret C (Nat.le_of_ble_eq_true rfl) (Nat.le_of_ble_eq_true rfl) rfl h1.1 dX7_isMet_46 (hg _ _ h1.2)
def wp_X7_isMet (h : Nat) (x1 : Option Nat) (x2 : Int32) (S : xm_S) (g : Int32 → xm_S → Prop) : Prop :=
  ∃ n1, x1 = some n1 ∧ st_t S n1 = some (4, 0) ∧ ∀ y4, y4 = ((st_i S n1 5) &&& x2) → st_t S h = some (7, 0) ∧ ∀ S7, S7 = st_pi S h 12 ((st_i S h 12) ||| y4) → ∃ n9, x1 = some n9 ∧ st_t S7 n9 = some (4, 0) ∧ ∃ n12, x1 = some n12 ∧ st_t S7 n12 = some (4, 0) ∧ ∀ S15, S15 = st_pi S7 h 13 ((st_i S7 h 13) ||| ((st_i S7 n9 2) <<< (((st_i S7 n12 0) * (nI 4)) &&& 31))) → (y4 = 0 → wp_X7_isMet_46 h (0 : Int32) S15 g) ∧ (¬ y4 = 0 → wp_X7_isMet_46 h (1 : Int32) S15 g)
set_option maxRecDepth 100000 in
set_option maxHeartbeats 4000000 in
theorem kp_X7_isMet {K : xm_K} (h : Nat) (x1 : Option Nat) (x2 : Int32) (S : xm_S) {g : Int32 → xm_S → Prop} (C : xm_Cx K cX7_isMet RX7 4 (some (FieldType.boolean)) rm_X7_isMet) (N : xm_Nx K) (hg : ∀ v S, g v S → xm_q K (some (xm_i v)) S)  (h1 : wp_X7_isMet h x1 x2 S g) : xm_W K 0 0 0 [(0, xm_r (some h)), (1, xm_r x1), (2, xm_i x2)] [] S := by
  unfold wp_X7_isMet at h1
  refine x_aload_n C 1 dX7_isMet_0 rfl rfl ?_
  obtain ⟨n1, hr2, h1⟩ := h1
  obtain ⟨ht3, h1⟩ := h1
  refine x_getf_i (n := n1) C hr2 ht3 fd_46 (by decide) dX7_isMet_1 ?_
  refine x_iload_n C 2 dX7_isMet_4 rfl rfl ?_
  refine x_iand C dX7_isMet_5 ?_
  refine x_topi (fun y4 e5 => ?_)
  have h1 := h1 y4 e5
  refine x_istore_n (L' := [(3, xm_i y4), (0, xm_r (some h)), (1, xm_r x1), (2, xm_i x2)]) C dX7_isMet_6 rfl (by decide) rfl ?_
  refine x_aload_n C 1 dX7_isMet_7 rfl rfl ?_
  refine x_dup_r C dX7_isMet_8 ?_
  obtain ⟨ht6, h1⟩ := h1
  refine x_getf_i (n := h) C rfl ht6 fd_47 (by decide) dX7_isMet_9 ?_
  refine x_iload_n C 0 dX7_isMet_12 rfl rfl ?_
  refine x_ior C dX7_isMet_13 ?_
  refine x_putf_i (n := h) C rfl ht6 fd_47 xc_7 (by decide) rfl ⟨rfl, rfl⟩ dX7_isMet_14 ?_
  refine x_topS (fun S7 e8 => ?_)
  have h1 := h1 S7 e8
  refine x_aload_n C 1 dX7_isMet_17 rfl rfl ?_
  refine x_dup_r C dX7_isMet_18 ?_
  refine x_getf_i (n := h) C rfl (tk_p e8 ht6) fd_48 (by decide) dX7_isMet_19 ?_
  refine x_aload_n C 2 dX7_isMet_22 rfl rfl ?_
  obtain ⟨n9, hr10, h1⟩ := h1
  obtain ⟨ht11, h1⟩ := h1
  refine x_getf_i (n := n9) C hr10 ht11 fd_49 (by decide) dX7_isMet_23 ?_
  refine x_aload_n C 2 dX7_isMet_26 rfl rfl ?_
  obtain ⟨n12, hr13, h1⟩ := h1
  obtain ⟨ht14, h1⟩ := h1
  refine x_getf_i (n := n12) C hr13 ht14 fd_50 (by decide) dX7_isMet_27 ?_
  refine x_iconst (v := (nI 4)) C dX7_isMet_30 (by decide) ?_
  refine x_imul C dX7_isMet_31 ?_
  refine x_ishl C dX7_isMet_32 ?_
  refine x_ior C dX7_isMet_33 ?_
  refine x_putf_i (n := h) C rfl (tk_p e8 ht6) fd_48 xc_7 (by decide) rfl ⟨rfl, rfl⟩ dX7_isMet_34 ?_
  refine x_topS (fun S15 e16 => ?_)
  have h1 := h1 S15 e16
  refine x_iload_n C 0 dX7_isMet_37 rfl rfl ?_
  refine x_if_eq (tgt := 45) C dX7_isMet_38 (by decide) (fun z9 => ?_) (fun z9 => ?_)
  · have h1 := h1.1 z9
    refine x_iconst (v := (0 : Int32)) C dX7_isMet_45 (by decide) ?_
    refine x_keep (L' := []) C [] rfl ?_
    exact kp_X7_isMet_46 h (0 : Int32) S15 C N hg  h1
  · have h1 := h1.2 z9
    refine x_iconst (v := (1 : Int32)) C dX7_isMet_41 (by decide) ?_
    refine x_goto (tgt := 46) C dX7_isMet_42 (by decide) ?_
    refine x_keep (L' := []) C [] rfl ?_
    exact kp_X7_isMet_46 h (1 : Int32) S15 C N hg  h1
theorem kp_X7_isMet_met {h : Nat} {x1 : Option Nat} {x2 : Int32} {S : xm_S} {g : Int32 → xm_S → Prop}  (h1 : wp_X7_isMet h x1 x2 S g) : xm_Met yX7_isMet cX7_isMet 4 (some (FieldType.boolean)) rm_X7_isMet [xm_r (some h), xm_r x1, xm_i x2] S (xm_qi g) xm_nox :=
  xm_ofW RX7 (by decide +kernel) rfl (Nat.le_of_ble_eq_true rfl) (fun K C N hq hx hi => kp_X7_isMet h x1 x2 S C N (fun v S h => by rw [hq]; exact ⟨v, rfl, h⟩)  h1)
def rm_X7_hasNeedsMet : Room := { frames := 2, cells := 0, slots := 0, locals := 43 }
theorem dX7_hasNeedsMet_0 : decode cX7_hasNeedsMet 0 = .ok (.aload_n 0, 1) := by decide +kernel
theorem dX7_hasNeedsMet_1 : decode cX7_hasNeedsMet 1 = .ok (.getfield 9, 3) := by decide +kernel
theorem dX7_hasNeedsMet_4 : decode cX7_hasNeedsMet 4 = .ok (.iload_n 1, 1) := by decide +kernel
theorem dX7_hasNeedsMet_5 : decode cX7_hasNeedsMet 5 = .ok (.aaload, 1) := by decide +kernel
theorem dX7_hasNeedsMet_6 : decode cX7_hasNeedsMet 6 = .ok (.getfield 83, 3) := by decide +kernel
theorem dX7_hasNeedsMet_9 : decode cX7_hasNeedsMet 9 = .ok (.aload_n 0, 1) := by decide +kernel
theorem dX7_hasNeedsMet_10 : decode cX7_hasNeedsMet 10 = .ok (.getfield 45, 3) := by decide +kernel
theorem dX7_hasNeedsMet_13 : decode cX7_hasNeedsMet 13 = .ok (.iload_n 1, 1) := by decide +kernel
theorem dX7_hasNeedsMet_14 : decode cX7_hasNeedsMet 14 = .ok (.iaload, 1) := by decide +kernel
theorem dX7_hasNeedsMet_15 : decode cX7_hasNeedsMet 15 = .ok (.aaload, 1) := by decide +kernel
theorem dX7_hasNeedsMet_16 : decode cX7_hasNeedsMet 16 = .ok (.astore_n 3, 1) := by decide +kernel
theorem dX7_hasNeedsMet_17 : decode cX7_hasNeedsMet 17 = .ok (.iconst 0, 1) := by decide +kernel
theorem dX7_hasNeedsMet_18 : decode cX7_hasNeedsMet 18 = .ok (.istore 4, 2) := by decide +kernel
theorem dX7_hasNeedsMet_20 : decode cX7_hasNeedsMet 20 = .ok (.iload 4, 2) := by decide +kernel
theorem dX7_hasNeedsMet_22 : decode cX7_hasNeedsMet 22 = .ok (.aload_n 3, 1) := by decide +kernel
theorem dX7_hasNeedsMet_23 : decode cX7_hasNeedsMet 23 = .ok (.getfield 87, 3) := by decide +kernel
theorem dX7_hasNeedsMet_26 : decode cX7_hasNeedsMet 26 = .ok (.if_icmp .ge 85, 3) := by decide +kernel
theorem dX7_hasNeedsMet_29 : decode cX7_hasNeedsMet 29 = .ok (.aload_n 3, 1) := by decide +kernel
theorem dX7_hasNeedsMet_30 : decode cX7_hasNeedsMet 30 = .ok (.getfield 92, 3) := by decide +kernel
theorem dX7_hasNeedsMet_33 : decode cX7_hasNeedsMet 33 = .ok (.iload 4, 2) := by decide +kernel
theorem dX7_hasNeedsMet_35 : decode cX7_hasNeedsMet 35 = .ok (.aaload, 1) := by decide +kernel
theorem dX7_hasNeedsMet_36 : decode cX7_hasNeedsMet 36 = .ok (.astore 5, 2) := by decide +kernel
theorem dX7_hasNeedsMet_38 : decode cX7_hasNeedsMet 38 = .ok (.aload_n 0, 1) := by decide +kernel
theorem dX7_hasNeedsMet_39 : decode cX7_hasNeedsMet 39 = .ok (.getfield 54, 3) := by decide +kernel
theorem dX7_hasNeedsMet_42 : decode cX7_hasNeedsMet 42 = .ok (.iload_n 1, 1) := by decide +kernel
theorem dX7_hasNeedsMet_43 : decode cX7_hasNeedsMet 43 = .ok (.iconst 4, 1) := by decide +kernel
theorem dX7_hasNeedsMet_44 : decode cX7_hasNeedsMet 44 = .ok (.imul, 1) := by decide +kernel
theorem dX7_hasNeedsMet_45 : decode cX7_hasNeedsMet 45 = .ok (.ishr, 1) := by decide +kernel
theorem dX7_hasNeedsMet_46 : decode cX7_hasNeedsMet 46 = .ok (.istore 6, 2) := by decide +kernel
theorem dX7_hasNeedsMet_48 : decode cX7_hasNeedsMet 48 = .ok (.aload 5, 2) := by decide +kernel
theorem dX7_hasNeedsMet_50 : decode cX7_hasNeedsMet 50 = .ok (.getfield 192, 3) := by decide +kernel
theorem dX7_hasNeedsMet_53 : decode cX7_hasNeedsMet 53 = .ok (.iconst (-1), 1) := by decide +kernel
theorem dX7_hasNeedsMet_54 : decode cX7_hasNeedsMet 54 = .ok (.if_icmp .eq 14, 3) := by decide +kernel
theorem dX7_hasNeedsMet_57 : decode cX7_hasNeedsMet 57 = .ok (.iload 6, 2) := by decide +kernel
theorem dX7_hasNeedsMet_59 : decode cX7_hasNeedsMet 59 = .ok (.aload 5, 2) := by decide +kernel
theorem dX7_hasNeedsMet_61 : decode cX7_hasNeedsMet 61 = .ok (.getfield 192, 3) := by decide +kernel
theorem dX7_hasNeedsMet_64 : decode cX7_hasNeedsMet 64 = .ok (.iand, 1) := by decide +kernel
theorem dX7_hasNeedsMet_65 : decode cX7_hasNeedsMet 65 = .ok (.ifCond .eq 7, 3) := by decide +kernel
theorem dX7_hasNeedsMet_68 : decode cX7_hasNeedsMet 68 = .ok (.iconst 1, 1) := by decide +kernel
theorem dX7_hasNeedsMet_69 : decode cX7_hasNeedsMet 69 = .ok (.goto 4, 3) := by decide +kernel
theorem dX7_hasNeedsMet_72 : decode cX7_hasNeedsMet 72 = .ok (.iconst 0, 1) := by decide +kernel
theorem dX7_hasNeedsMet_73 : decode cX7_hasNeedsMet 73 = .ok (.istore 7, 2) := by decide +kernel
theorem dX7_hasNeedsMet_75 : decode cX7_hasNeedsMet 75 = .ok (.iload 7, 2) := by decide +kernel
theorem dX7_hasNeedsMet_77 : decode cX7_hasNeedsMet 77 = .ok (.ifCond .eq 28, 3) := by decide +kernel
theorem dX7_hasNeedsMet_80 : decode cX7_hasNeedsMet 80 = .ok (.aload 5, 2) := by decide +kernel
theorem dX7_hasNeedsMet_82 : decode cX7_hasNeedsMet 82 = .ok (.getfield 161, 3) := by decide +kernel
theorem dX7_hasNeedsMet_85 : decode cX7_hasNeedsMet 85 = .ok (.aload_n 0, 1) := by decide +kernel
theorem dX7_hasNeedsMet_86 : decode cX7_hasNeedsMet 86 = .ok (.getfield 23, 3) := by decide +kernel
theorem dX7_hasNeedsMet_89 : decode cX7_hasNeedsMet 89 = .ok (.iand, 1) := by decide +kernel
theorem dX7_hasNeedsMet_90 : decode cX7_hasNeedsMet 90 = .ok (.ifCond .eq 15, 3) := by decide +kernel
theorem dX7_hasNeedsMet_93 : decode cX7_hasNeedsMet 93 = .ok (.aload_n 0, 1) := by decide +kernel
theorem dX7_hasNeedsMet_94 : decode cX7_hasNeedsMet 94 = .ok (.aload 5, 2) := by decide +kernel
theorem dX7_hasNeedsMet_96 : decode cX7_hasNeedsMet 96 = .ok (.iload_n 2, 1) := by decide +kernel
theorem dX7_hasNeedsMet_97 : decode cX7_hasNeedsMet 97 = .ok (.invokevirtual 181, 3) := by decide +kernel
theorem dX7_hasNeedsMet_100 : decode cX7_hasNeedsMet 100 = .ok (.ifCond .ne 5, 3) := by decide +kernel
theorem dX7_hasNeedsMet_103 : decode cX7_hasNeedsMet 103 = .ok (.iconst 0, 1) := by decide +kernel
theorem dX7_hasNeedsMet_104 : decode cX7_hasNeedsMet 104 = .ok (.ireturn, 1) := by decide +kernel
theorem dX7_hasNeedsMet_105 : decode cX7_hasNeedsMet 105 = .ok (.iinc 4 1, 3) := by decide +kernel
theorem dX7_hasNeedsMet_108 : decode cX7_hasNeedsMet 108 = .ok (.goto (-88), 3) := by decide +kernel
theorem dX7_hasNeedsMet_111 : decode cX7_hasNeedsMet 111 = .ok (.iconst 1, 1) := by decide +kernel
theorem dX7_hasNeedsMet_112 : decode cX7_hasNeedsMet 112 = .ok (.ireturn, 1) := by decide +kernel
def wp_X7_hasNeedsMet_105 (h : Nat) (x1 : Int32) (x2 : Int32) (x3 : Option Nat) (x4 : Int32) (S : xm_S) (g : Int32 → xm_S → Prop) (Z20 : Int32 → Int32 → Option Nat → Int32 → xm_S → Prop) : Prop :=
  ∀ y1, y1 = (x4 + (1 : Int32)) → Z20 x1 x2 x3 y1 S
set_option maxRecDepth 100000 in
set_option maxHeartbeats 4000000 in
theorem kp_X7_hasNeedsMet_105 {K : xm_K} (h : Nat) (x1 : Int32) (x2 : Int32) (x3 : Option Nat) (x4 : Int32) (S : xm_S) {g : Int32 → xm_S → Prop} {Z20 : Int32 → Int32 → Option Nat → Int32 → xm_S → Prop} (C : xm_Cx K cX7_hasNeedsMet RX7 8 (some (FieldType.boolean)) rm_X7_hasNeedsMet) (N : xm_Nx K) (hg : ∀ v S, g v S → xm_q K (some (xm_i v)) S) (hZ20 : ∀ x1 x2 x3 x4 S, Z20 x1 x2 x3 x4 S → xm_W K 0 0 20 [(0, xm_r (some h)), (1, xm_i x1), (2, xm_i x2), (3, xm_r x3), (4, xm_i x4)] [] S) (h1 : wp_X7_hasNeedsMet_105 h x1 x2 x3 x4 S g Z20) : xm_W K 0 0 105 [(0, xm_r (some h)), (1, xm_i x1), (2, xm_i x2), (3, xm_r x3), (4, xm_i x4)] [] S := by
  unfold wp_X7_hasNeedsMet_105 at h1
  obtain ⟨y1, e2⟩ : ∃ y1, y1 = (x4 + (1 : Int32)) := ⟨_, rfl⟩
  have h1 := h1 y1 e2
  refine x_iinc (v := y1) (L' := [(4, xm_i y1), (0, xm_r (some h)), (1, xm_i x1), (2, xm_i x2), (3, xm_r x3)]) C 4 dX7_hasNeedsMet_105 rfl (by rw [e2]; rfl) (by decide) rfl ?_
  refine x_goto (tgt := 20) C dX7_hasNeedsMet_108 (by decide) ?_
  refine x_keep (L' := [(0, xm_r (some h)), (1, xm_i x1), (2, xm_i x2), (3, xm_r x3), (4, xm_i y1)]) C [1, 2, 3, 4, 0] rfl ?_
  exact hZ20 x1 x2 x3 y1 S h1
def wp_X7_hasNeedsMet_73 (h : Nat) (x1 : Int32) (x2 : Int32) (x3 : Option Nat) (x4 : Int32) (x5 : Option Nat) (s0 : Int32) (S : xm_S) (g : Int32 → xm_S → Prop) (Z20 : Int32 → Int32 → Option Nat → Int32 → xm_S → Prop) : Prop :=
  (s0 = 0 → wp_X7_hasNeedsMet_105 h x1 x2 x3 x4 S g Z20) ∧ (¬ s0 = 0 → ∃ n3, x5 = some n3 ∧ st_t S n3 = some (4, 0) ∧ st_t S h = some (7, 0) ∧ (((st_i S n3 3) &&& (st_i S h 3)) = 0 → wp_X7_hasNeedsMet_105 h x1 x2 x3 x4 S g Z20) ∧ (¬ ((st_i S n3 3) &&& (st_i S h 3)) = 0 → wp_X7_isMet h x5 x2 S (fun r8 S7 => (¬ r8 = 0 → wp_X7_hasNeedsMet_105 h x1 x2 x3 x4 S7 g Z20) ∧ (r8 = 0 → g (0 : Int32) S7))))
set_option maxRecDepth 100000 in
set_option maxHeartbeats 4000000 in
theorem kp_X7_hasNeedsMet_73 {K : xm_K} (h : Nat) (x1 : Int32) (x2 : Int32) (x3 : Option Nat) (x4 : Int32) (x5 : Option Nat) (s0 : Int32) (S : xm_S) {g : Int32 → xm_S → Prop} {Z20 : Int32 → Int32 → Option Nat → Int32 → xm_S → Prop} (C : xm_Cx K cX7_hasNeedsMet RX7 8 (some (FieldType.boolean)) rm_X7_hasNeedsMet) (N : xm_Nx K) (hg : ∀ v S, g v S → xm_q K (some (xm_i v)) S) (hZ20 : ∀ x1 x2 x3 x4 S, Z20 x1 x2 x3 x4 S → xm_W K 0 0 20 [(0, xm_r (some h)), (1, xm_i x1), (2, xm_i x2), (3, xm_r x3), (4, xm_i x4)] [] S) (h1 : wp_X7_hasNeedsMet_73 h x1 x2 x3 x4 x5 s0 S g Z20) : xm_W K 0 0 73 [(0, xm_r (some h)), (1, xm_i x1), (2, xm_i x2), (3, xm_r x3), (4, xm_i x4), (5, xm_r x5)] [xm_i s0] S := by
  unfold wp_X7_hasNeedsMet_73 at h1
  refine x_istore (L' := [(7, xm_i s0), (0, xm_r (some h)), (1, xm_i x1), (2, xm_i x2), (3, xm_r x3), (4, xm_i x4), (5, xm_r x5)]) C dX7_hasNeedsMet_73 (by decide) rfl ?_
  refine x_iload C 0 dX7_hasNeedsMet_75 rfl ?_
  refine x_if_eq (tgt := 105) C dX7_hasNeedsMet_77 (by decide) (fun z9 => ?_) (fun z9 => ?_)
  · have h1 := h1.1 z9
    refine x_keep (L' := [(0, xm_r (some h)), (1, xm_i x1), (2, xm_i x2), (3, xm_r x3), (4, xm_i x4)]) C [1, 2, 3, 4, 5] rfl ?_
    exact kp_X7_hasNeedsMet_105 h x1 x2 x3 x4 S C N hg hZ20 h1
  · have h1 := h1.2 z9
    refine x_aload C 6 dX7_hasNeedsMet_80 rfl ?_
    obtain ⟨n3, hr4, h1⟩ := h1
    obtain ⟨ht5, h1⟩ := h1
    refine x_getf_i (n := n3) C hr4 ht5 fd_51 (by decide) dX7_hasNeedsMet_82 ?_
    refine x_aload_n C 1 dX7_hasNeedsMet_85 rfl rfl ?_
    obtain ⟨ht6, h1⟩ := h1
    refine x_getf_i (n := h) C rfl ht6 fd_52 (by decide) dX7_hasNeedsMet_86 ?_
    refine x_iand C dX7_hasNeedsMet_89 ?_
    refine x_if_eq (tgt := 105) C dX7_hasNeedsMet_90 (by decide) (fun z9 => ?_) (fun z9 => ?_)
    · have h1 := h1.1 z9
      refine x_keep (L' := [(0, xm_r (some h)), (1, xm_i x1), (2, xm_i x2), (3, xm_r x3), (4, xm_i x4)]) C [1, 2, 3, 4, 5] rfl ?_
      exact kp_X7_hasNeedsMet_105 h x1 x2 x3 x4 S C N hg hZ20 h1
    · have h1 := h1.2 z9
      refine x_aload_n C 1 dX7_hasNeedsMet_93 rfl rfl ?_
      refine x_aload C 6 dX7_hasNeedsMet_94 rfl ?_
      refine x_iload_n C 3 dX7_hasNeedsMet_96 rfl rfl ?_
      refine x_callV (rm' := rm_X7_isMet) (n := h) C (kp_X7_isMet_met h1) lk_13 gw_119 gw_120 xv_7 rfl rfl ht6 rfl (Nat.le_of_ble_eq_true rfl) ⟨Nat.le_of_ble_eq_true rfl, Nat.le_of_ble_eq_true rfl, (Nat.le_of_ble_eq_true rfl), (Nat.le_of_ble_eq_true rfl)⟩ dX7_hasNeedsMet_97 xm_kx (xm_ki (fun r8 S7 h1 => ?_))
      refine x_if_ne (tgt := 105) C dX7_hasNeedsMet_100 (by decide) (fun z9 => ?_) (fun z9 => ?_)
      · have h1 := h1.1 z9
        refine x_keep (L' := [(0, xm_r (some h)), (1, xm_i x1), (2, xm_i x2), (3, xm_r x3), (4, xm_i x4)]) C [1, 2, 3, 4, 5] rfl ?_
        exact kp_X7_hasNeedsMet_105 h x1 x2 x3 x4 S7 C N hg hZ20 h1
      · have h1 := h1.2 z9
        refine x_iconst (v := (0 : Int32)) C dX7_hasNeedsMet_103 (by decide) ?_
        exact x_zret C (Nat.le_of_ble_eq_true rfl) (Nat.le_of_ble_eq_true rfl) rfl (by decide) dX7_hasNeedsMet_104 (hg _ _ h1)
def wp_X7_hasNeedsMet_68 (h : Nat) (x1 : Int32) (x2 : Int32) (x3 : Option Nat) (x4 : Int32) (x5 : Option Nat) (S : xm_S) (g : Int32 → xm_S → Prop) (Z20 : Int32 → Int32 → Option Nat → Int32 → xm_S → Prop) : Prop :=
  wp_X7_hasNeedsMet_73 h x1 x2 x3 x4 x5 (1 : Int32) S g Z20
set_option maxRecDepth 100000 in
set_option maxHeartbeats 4000000 in
theorem kp_X7_hasNeedsMet_68 {K : xm_K} (h : Nat) (x1 : Int32) (x2 : Int32) (x3 : Option Nat) (x4 : Int32) (x5 : Option Nat) (S : xm_S) {g : Int32 → xm_S → Prop} {Z20 : Int32 → Int32 → Option Nat → Int32 → xm_S → Prop} (C : xm_Cx K cX7_hasNeedsMet RX7 8 (some (FieldType.boolean)) rm_X7_hasNeedsMet) (N : xm_Nx K) (hg : ∀ v S, g v S → xm_q K (some (xm_i v)) S) (hZ20 : ∀ x1 x2 x3 x4 S, Z20 x1 x2 x3 x4 S → xm_W K 0 0 20 [(0, xm_r (some h)), (1, xm_i x1), (2, xm_i x2), (3, xm_r x3), (4, xm_i x4)] [] S) (h1 : wp_X7_hasNeedsMet_68 h x1 x2 x3 x4 x5 S g Z20) : xm_W K 0 0 68 [(0, xm_r (some h)), (1, xm_i x1), (2, xm_i x2), (3, xm_r x3), (4, xm_i x4), (5, xm_r x5)] [] S := by
  unfold wp_X7_hasNeedsMet_68 at h1
  refine x_iconst (v := (1 : Int32)) C dX7_hasNeedsMet_68 (by decide) ?_
  refine x_goto (tgt := 73) C dX7_hasNeedsMet_69 (by decide) ?_
  exact kp_X7_hasNeedsMet_73 h x1 x2 x3 x4 x5 (1 : Int32) S C N hg hZ20 h1
def wp_X7_hasNeedsMet_20B (h : Nat) (x1 : Int32) (x2 : Int32) (x3 : Option Nat) (x4 : Int32) (S : xm_S) (g : Int32 → xm_S → Prop) (Z20 : Int32 → Int32 → Option Nat → Int32 → xm_S → Prop) : Prop :=
  ∃ n9, x3 = some n9 ∧ st_t S n9 = some (10, 0) ∧ ((st_i S n9 7) ≤ x4 → g (1 : Int32) S) ∧ (¬ (st_i S n9 7) ≤ x4 → ∃ n12, x3 = some n12 ∧ st_t S n12 = some (10, 0) ∧ ∃ n15, (st_r S n12 6) = some n15 ∧ ∃ z18, st_t S n15 = some (114, z18) ∧ vp_in x4 z18 ∧ st_t S h = some (7, 0) ∧ ∀ y21, y21 = ((st_i S h 13) >>> ((x1 * (nI 4)) &&& 31)) → ∃ n23, (st_r S n15 (x4).toNatClampNeg) = some n23 ∧ st_t S n23 = some (4, 0) ∧ ((st_i S n23 4) = (-1 : Int32) → wp_X7_hasNeedsMet_68 h x1 x2 x3 x4 (st_r S n15 (x4).toNatClampNeg) S g Z20) ∧ (¬ (st_i S n23 4) = (-1 : Int32) → ∃ n26, (st_r S n15 (x4).toNatClampNeg) = some n26 ∧ st_t S n26 = some (4, 0) ∧ ((y21 &&& (st_i S n26 4)) = 0 → wp_X7_hasNeedsMet_73 h x1 x2 x3 x4 (st_r S n15 (x4).toNatClampNeg) (0 : Int32) S g Z20) ∧ (¬ (y21 &&& (st_i S n26 4)) = 0 → wp_X7_hasNeedsMet_68 h x1 x2 x3 x4 (st_r S n15 (x4).toNatClampNeg) S g Z20)))
def wp_X7_hasNeedsMet_20 (h : Nat) (x1 : Int32) (x2 : Int32) (x3 : Option Nat) (x4 : Int32) (S : xm_S) (g : Int32 → xm_S → Prop) : Prop :=
  ∀ Z20 : Int32 → Int32 → Option Nat → Int32 → xm_S → Prop, (∀ x1 x2 x3 x4 S, wp_X7_hasNeedsMet_20B h x1 x2 x3 x4 S g Z20 → Z20 x1 x2 x3 x4 S) → Z20 x1 x2 x3 x4 S
set_option maxRecDepth 100000 in
set_option maxHeartbeats 4000000 in
theorem kp_X7_hasNeedsMet_20B {K : xm_K} (h : Nat) (x1 : Int32) (x2 : Int32) (x3 : Option Nat) (x4 : Int32) (S : xm_S) {g : Int32 → xm_S → Prop} {Z20 : Int32 → Int32 → Option Nat → Int32 → xm_S → Prop} (C : xm_Cx K cX7_hasNeedsMet RX7 8 (some (FieldType.boolean)) rm_X7_hasNeedsMet) (N : xm_Nx K) (hg : ∀ v S, g v S → xm_q K (some (xm_i v)) S) (hZ20 : ∀ x1 x2 x3 x4 S, Z20 x1 x2 x3 x4 S → xm_W K 0 0 20 [(0, xm_r (some h)), (1, xm_i x1), (2, xm_i x2), (3, xm_r x3), (4, xm_i x4)] [] S) (h1 : wp_X7_hasNeedsMet_20B h x1 x2 x3 x4 S g Z20) : xm_W K 0 0 20 [(0, xm_r (some h)), (1, xm_i x1), (2, xm_i x2), (3, xm_r x3), (4, xm_i x4)] [] S := by
  unfold wp_X7_hasNeedsMet_20B at h1
  refine x_iload C 4 dX7_hasNeedsMet_20 rfl ?_
  refine x_aload_n C 3 dX7_hasNeedsMet_22 rfl rfl ?_
  obtain ⟨n9, hr10, h1⟩ := h1
  obtain ⟨ht11, h1⟩ := h1
  refine x_getf_i (n := n9) C hr10 ht11 fd_53 (by decide) dX7_hasNeedsMet_23 ?_
  refine x_icmp_ge (tgt := 111) C dX7_hasNeedsMet_26 (by decide) (fun z9 => ?_) (fun z9 => ?_)
  · have h1 := h1.1 z9
    refine x_iconst (v := (1 : Int32)) C dX7_hasNeedsMet_111 (by decide) ?_
    exact x_zret C (Nat.le_of_ble_eq_true rfl) (Nat.le_of_ble_eq_true rfl) rfl (by decide) dX7_hasNeedsMet_112 (hg _ _ h1)
  · have h1 := h1.2 z9
    refine x_aload_n C 3 dX7_hasNeedsMet_29 rfl rfl ?_
    obtain ⟨n12, hr13, h1⟩ := h1
    obtain ⟨ht14, h1⟩ := h1
    refine x_getf_r (n := n12) C hr13 ht14 fd_54 (by decide) dX7_hasNeedsMet_30 ?_
    refine x_iload C 4 dX7_hasNeedsMet_33 rfl ?_
    obtain ⟨n15, hr16, h1⟩ := h1
    obtain ⟨z18, ht17, h1⟩ := h1
    obtain ⟨hi19, h1⟩ := h1
    refine x_aald (n := n15) C hr16 (by decide) rfl ht17 hi19 dX7_hasNeedsMet_35 ?_
    refine x_astore (L' := [(5, xm_r (st_r S n15 (x4).toNatClampNeg)), (0, xm_r (some h)), (1, xm_i x1), (2, xm_i x2), (3, xm_r x3), (4, xm_i x4)]) C dX7_hasNeedsMet_36 (by decide) rfl ?_
    refine x_aload_n C 1 dX7_hasNeedsMet_38 rfl rfl ?_
    obtain ⟨ht20, h1⟩ := h1
    refine x_getf_i (n := h) C rfl ht20 fd_48 (by decide) dX7_hasNeedsMet_39 ?_
    refine x_iload_n C 2 dX7_hasNeedsMet_42 rfl rfl ?_
    refine x_iconst (v := (nI 4)) C dX7_hasNeedsMet_43 (by decide) ?_
    refine x_imul C dX7_hasNeedsMet_44 ?_
    refine x_ishr C dX7_hasNeedsMet_45 ?_
    refine x_topi (fun y21 e22 => ?_)
    have h1 := h1 y21 e22
    refine x_istore (L' := [(6, xm_i y21), (5, xm_r (st_r S n15 (x4).toNatClampNeg)), (0, xm_r (some h)), (1, xm_i x1), (2, xm_i x2), (3, xm_r x3), (4, xm_i x4)]) C dX7_hasNeedsMet_46 (by decide) rfl ?_
    refine x_aload C 1 dX7_hasNeedsMet_48 rfl ?_
    obtain ⟨n23, hr24, h1⟩ := h1
    obtain ⟨ht25, h1⟩ := h1
    refine x_getf_i (n := n23) C hr24 ht25 fd_55 (by decide) dX7_hasNeedsMet_50 ?_
    refine x_iconst (v := (-1 : Int32)) C dX7_hasNeedsMet_53 (by decide) ?_
    refine x_icmp_eq (tgt := 68) C dX7_hasNeedsMet_54 (by decide) (fun z9 => ?_) (fun z9 => ?_)
    · have h1 := h1.1 z9
      refine x_keep (L' := [(0, xm_r (some h)), (1, xm_i x1), (2, xm_i x2), (3, xm_r x3), (4, xm_i x4), (5, xm_r (st_r S n15 (x4).toNatClampNeg))]) C [2, 3, 4, 5, 6, 1] rfl ?_
      exact kp_X7_hasNeedsMet_68 h x1 x2 x3 x4 (st_r S n15 (x4).toNatClampNeg) S C N hg hZ20 h1
    · have h1 := h1.2 z9
      refine x_iload C 0 dX7_hasNeedsMet_57 rfl ?_
      refine x_aload C 1 dX7_hasNeedsMet_59 rfl ?_
      obtain ⟨n26, hr27, h1⟩ := h1
      obtain ⟨ht28, h1⟩ := h1
      refine x_getf_i (n := n26) C hr27 ht28 fd_55 (by decide) dX7_hasNeedsMet_61 ?_
      refine x_iand C dX7_hasNeedsMet_64 ?_
      refine x_if_eq (tgt := 72) C dX7_hasNeedsMet_65 (by decide) (fun z9 => ?_) (fun z9 => ?_)
      · have h1 := h1.1 z9
        refine x_iconst (v := (0 : Int32)) C dX7_hasNeedsMet_72 (by decide) ?_
        refine x_keep (L' := [(0, xm_r (some h)), (1, xm_i x1), (2, xm_i x2), (3, xm_r x3), (4, xm_i x4), (5, xm_r (st_r S n15 (x4).toNatClampNeg))]) C [2, 3, 4, 5, 6, 1] rfl ?_
        exact kp_X7_hasNeedsMet_73 h x1 x2 x3 x4 (st_r S n15 (x4).toNatClampNeg) (0 : Int32) S C N hg hZ20 h1
      · have h1 := h1.2 z9
        refine x_keep (L' := [(0, xm_r (some h)), (1, xm_i x1), (2, xm_i x2), (3, xm_r x3), (4, xm_i x4), (5, xm_r (st_r S n15 (x4).toNatClampNeg))]) C [2, 3, 4, 5, 6, 1] rfl ?_
        exact kp_X7_hasNeedsMet_68 h x1 x2 x3 x4 (st_r S n15 (x4).toNatClampNeg) S C N hg hZ20 h1
theorem kp_X7_hasNeedsMet_20 {K : xm_K} (h : Nat) (x1 : Int32) (x2 : Int32) (x3 : Option Nat) (x4 : Int32) (S : xm_S) {g : Int32 → xm_S → Prop} (C : xm_Cx K cX7_hasNeedsMet RX7 8 (some (FieldType.boolean)) rm_X7_hasNeedsMet) (N : xm_Nx K) (hg : ∀ v S, g v S → xm_q K (some (xm_i v)) S)  (h1 : wp_X7_hasNeedsMet_20 h x1 x2 x3 x4 S g) : xm_W K 0 0 20 [(0, xm_r (some h)), (1, xm_i x1), (2, xm_i x2), (3, xm_r x3), (4, xm_i x4)] [] S :=
  h1 (fun x1 x2 x3 x4 S => xm_W K 0 0 20 [(0, xm_r (some h)), (1, xm_i x1), (2, xm_i x2), (3, xm_r x3), (4, xm_i x4)] [] S) (fun x1 x2 x3 x4 S hb => kp_X7_hasNeedsMet_20B h x1 x2 x3 x4 S C N hg (fun x1 x2 x3 x4 S hz => hz) hb)
def wp_X7_hasNeedsMet (h : Nat) (x1 : Int32) (x2 : Int32) (S : xm_S) (g : Int32 → xm_S → Prop) : Prop :=
  st_t S h = some (7, 0) ∧ ∃ n30, (st_r S h 0) = some n30 ∧ ∃ z33, st_t S n30 = some (115, z33) ∧ vp_in x1 z33 ∧ ∃ n35, (st_r S n30 (x1).toNatClampNeg) = some n35 ∧ st_t S n35 = some (5, 0) ∧ ∃ n38, (st_r S h 10) = some n38 ∧ ∃ z41, st_t S n38 = some (100, z41) ∧ vp_in x1 z41 ∧ ∃ n43, (st_r S n35 1) = some n43 ∧ ∃ z46, st_t S n43 = some (120, z46) ∧ vp_in (st_i S n38 (x1).toNatClampNeg) z46 ∧ wp_X7_hasNeedsMet_20 h x1 x2 (st_r S n43 ((st_i S n38 (x1).toNatClampNeg)).toNatClampNeg) (0 : Int32) S g
set_option maxRecDepth 100000 in
set_option maxHeartbeats 4000000 in
theorem kp_X7_hasNeedsMet {K : xm_K} (h : Nat) (x1 : Int32) (x2 : Int32) (S : xm_S) {g : Int32 → xm_S → Prop} (C : xm_Cx K cX7_hasNeedsMet RX7 8 (some (FieldType.boolean)) rm_X7_hasNeedsMet) (N : xm_Nx K) (hg : ∀ v S, g v S → xm_q K (some (xm_i v)) S)  (h1 : wp_X7_hasNeedsMet h x1 x2 S g) : xm_W K 0 0 0 [(0, xm_r (some h)), (1, xm_i x1), (2, xm_i x2)] [] S := by
  unfold wp_X7_hasNeedsMet at h1
  refine x_aload_n C 0 dX7_hasNeedsMet_0 rfl rfl ?_
  obtain ⟨ht29, h1⟩ := h1
  refine x_getf_r (n := h) C rfl ht29 fd_56 (by decide) dX7_hasNeedsMet_1 ?_
  refine x_iload_n C 1 dX7_hasNeedsMet_4 rfl rfl ?_
  obtain ⟨n30, hr31, h1⟩ := h1
  obtain ⟨z33, ht32, h1⟩ := h1
  obtain ⟨hi34, h1⟩ := h1
  refine x_aald (n := n30) C hr31 (by decide) rfl ht32 hi34 dX7_hasNeedsMet_5 ?_
  obtain ⟨n35, hr36, h1⟩ := h1
  obtain ⟨ht37, h1⟩ := h1
  refine x_getf_r (n := n35) C hr36 ht37 fd_57 (by decide) dX7_hasNeedsMet_6 ?_
  refine x_aload_n C 0 dX7_hasNeedsMet_9 rfl rfl ?_
  refine x_getf_r (n := h) C rfl ht29 fd_58 (by decide) dX7_hasNeedsMet_10 ?_
  refine x_iload_n C 1 dX7_hasNeedsMet_13 rfl rfl ?_
  obtain ⟨n38, hr39, h1⟩ := h1
  obtain ⟨z41, ht40, h1⟩ := h1
  obtain ⟨hi42, h1⟩ := h1
  refine x_iald (n := n38) C hr39 ht40 hi42 dX7_hasNeedsMet_14 ?_
  obtain ⟨n43, hr44, h1⟩ := h1
  obtain ⟨z46, ht45, h1⟩ := h1
  obtain ⟨hi47, h1⟩ := h1
  refine x_aald (n := n43) C hr44 (by decide) rfl ht45 hi47 dX7_hasNeedsMet_15 ?_
  refine x_astore_n (L' := [(3, xm_r (st_r S n43 ((st_i S n38 (x1).toNatClampNeg)).toNatClampNeg)), (0, xm_r (some h)), (1, xm_i x1), (2, xm_i x2)]) C dX7_hasNeedsMet_16 rfl (by decide) rfl ?_
  refine x_iconst (v := (0 : Int32)) C dX7_hasNeedsMet_17 (by decide) ?_
  refine x_istore (L' := [(4, xm_i (0 : Int32)), (3, xm_r (st_r S n43 ((st_i S n38 (x1).toNatClampNeg)).toNatClampNeg)), (0, xm_r (some h)), (1, xm_i x1), (2, xm_i x2)]) C dX7_hasNeedsMet_18 (by decide) rfl ?_
  refine x_keep (L' := [(0, xm_r (some h)), (1, xm_i x1), (2, xm_i x2), (3, xm_r (st_r S n43 ((st_i S n38 (x1).toNatClampNeg)).toNatClampNeg)), (4, xm_i (0 : Int32))]) C [2, 3, 4, 1, 0] rfl ?_
  exact kp_X7_hasNeedsMet_20 h x1 x2 (st_r S n43 ((st_i S n38 (x1).toNatClampNeg)).toNatClampNeg) (0 : Int32) S C N hg  h1
theorem kp_X7_hasNeedsMet_met {h : Nat} {x1 : Int32} {x2 : Int32} {S : xm_S} {g : Int32 → xm_S → Prop}  (h1 : wp_X7_hasNeedsMet h x1 x2 S g) : xm_Met yX7_hasNeedsMet cX7_hasNeedsMet 8 (some (FieldType.boolean)) rm_X7_hasNeedsMet [xm_r (some h), xm_i x1, xm_i x2] S (xm_qi g) xm_nox :=
  xm_ofW RX7 (by decide +kernel) rfl (Nat.le_of_ble_eq_true rfl) (fun K C N hq hx hi => kp_X7_hasNeedsMet h x1 x2 S C N (fun v S h => by rw [hq]; exact ⟨v, rfl, h⟩)  h1)
def rm_X7_bitOf : Room := { frames := 1, cells := 0, slots := 0, locals := 20 }
theorem dX7_bitOf_0 : decode cX7_bitOf 0 = .ok (.iconst 1, 1) := by decide +kernel
theorem dX7_bitOf_1 : decode cX7_bitOf 1 = .ok (.iload_n 0, 1) := by decide +kernel
theorem dX7_bitOf_2 : decode cX7_bitOf 2 = .ok (.iconst 4, 1) := by decide +kernel
theorem dX7_bitOf_3 : decode cX7_bitOf 3 = .ok (.imul, 1) := by decide +kernel
theorem dX7_bitOf_4 : decode cX7_bitOf 4 = .ok (.iload_n 1, 1) := by decide +kernel
theorem dX7_bitOf_5 : decode cX7_bitOf 5 = .ok (.iadd, 1) := by decide +kernel
theorem dX7_bitOf_6 : decode cX7_bitOf 6 = .ok (.ishl, 1) := by decide +kernel
theorem dX7_bitOf_7 : decode cX7_bitOf 7 = .ok (.ireturn, 1) := by decide +kernel
def wp_X7_bitOf (x0 : Int32) (x1 : Int32) (S : xm_S) (g : Int32 → xm_S → Prop) : Prop :=
  g ((1 : Int32) <<< (((x0 * (nI 4)) + x1) &&& 31)) S
set_option maxRecDepth 100000 in
set_option maxHeartbeats 4000000 in
theorem kp_X7_bitOf {K : xm_K} (x0 : Int32) (x1 : Int32) (S : xm_S) {g : Int32 → xm_S → Prop} (C : xm_Cx K cX7_bitOf RX7 2 (some (FieldType.int)) rm_X7_bitOf) (N : xm_Nx K) (hg : ∀ v S, g v S → xm_q K (some (xm_i v)) S)  (h1 : wp_X7_bitOf x0 x1 S g) : xm_W K 0 0 0 [(0, xm_i x0), (1, xm_i x1)] [] S := by
  unfold wp_X7_bitOf at h1
  refine x_iconst (v := (1 : Int32)) C dX7_bitOf_0 (by decide) ?_
  refine x_iload_n C 0 dX7_bitOf_1 rfl rfl ?_
  refine x_iconst (v := (nI 4)) C dX7_bitOf_2 (by decide) ?_
  refine x_imul C dX7_bitOf_3 ?_
  refine x_iload_n C 1 dX7_bitOf_4 rfl rfl ?_
  refine x_iadd C dX7_bitOf_5 ?_
  refine x_ishl C dX7_bitOf_6 ?_
  exact x_iret C (Nat.le_of_ble_eq_true rfl) (Nat.le_of_ble_eq_true rfl) rfl dX7_bitOf_7 (hg _ _ h1)
theorem kp_X7_bitOf_met {x0 : Int32} {x1 : Int32} {S : xm_S} {g : Int32 → xm_S → Prop}  (h1 : wp_X7_bitOf x0 x1 S g) : xm_Met yX7_bitOf cX7_bitOf 2 (some (FieldType.int)) rm_X7_bitOf [xm_i x0, xm_i x1] S (xm_qi g) xm_nox :=
  xm_ofW RX7 (by decide +kernel) rfl (Nat.le_of_ble_eq_true rfl) (fun K C N hq hx hi => kp_X7_bitOf x0 x1 S C N (fun v S h => by rw [hq]; exact ⟨v, rfl, h⟩)  h1)
def rm_X7_isReached : Room := { frames := 2, cells := 0, slots := 0, locals := 41 }
theorem dX7_isReached_0 : decode cX7_isReached 0 = .ok (.aload_n 0, 1) := by decide +kernel
theorem dX7_isReached_1 : decode cX7_isReached 1 = .ok (.getfield 45, 3) := by decide +kernel
theorem dX7_isReached_4 : decode cX7_isReached 4 = .ok (.iload_n 1, 1) := by decide +kernel
theorem dX7_isReached_5 : decode cX7_isReached 5 = .ok (.iaload, 1) := by decide +kernel
theorem dX7_isReached_6 : decode cX7_isReached 6 = .ok (.iconst (-1), 1) := by decide +kernel
theorem dX7_isReached_7 : decode cX7_isReached 7 = .ok (.if_icmp .eq 25, 3) := by decide +kernel
theorem dX7_isReached_10 : decode cX7_isReached 10 = .ok (.aload_n 0, 1) := by decide +kernel
theorem dX7_isReached_11 : decode cX7_isReached 11 = .ok (.getfield 51, 3) := by decide +kernel
theorem dX7_isReached_14 : decode cX7_isReached 14 = .ok (.iload_n 1, 1) := by decide +kernel
theorem dX7_isReached_15 : decode cX7_isReached 15 = .ok (.aload_n 0, 1) := by decide +kernel
theorem dX7_isReached_16 : decode cX7_isReached 16 = .ok (.getfield 45, 3) := by decide +kernel
theorem dX7_isReached_19 : decode cX7_isReached 19 = .ok (.iload_n 1, 1) := by decide +kernel
theorem dX7_isReached_20 : decode cX7_isReached 20 = .ok (.iaload, 1) := by decide +kernel
theorem dX7_isReached_21 : decode cX7_isReached 21 = .ok (.invokestatic 109, 3) := by decide +kernel
theorem dX7_isReached_24 : decode cX7_isReached 24 = .ok (.iand, 1) := by decide +kernel
theorem dX7_isReached_25 : decode cX7_isReached 25 = .ok (.ifCond .eq 7, 3) := by decide +kernel
theorem dX7_isReached_28 : decode cX7_isReached 28 = .ok (.iconst 1, 1) := by decide +kernel
theorem dX7_isReached_29 : decode cX7_isReached 29 = .ok (.goto 4, 3) := by decide +kernel
theorem dX7_isReached_32 : decode cX7_isReached 32 = .ok (.iconst 0, 1) := by decide +kernel
theorem dX7_isReached_33 : decode cX7_isReached 33 = .ok (.ireturn, 1) := by decide +kernel
def wp_X7_isReached_33 (h : Nat) (s0 : Int32) (S : xm_S) (g : Int32 → xm_S → Prop) : Prop :=
  (s0 = 0 ∨ s0 = 1) ∧ g s0 S
set_option maxRecDepth 100000 in
set_option maxHeartbeats 4000000 in
theorem kp_X7_isReached_33 {K : xm_K} (h : Nat) (s0 : Int32) (S : xm_S) {g : Int32 → xm_S → Prop} (C : xm_Cx K cX7_isReached RX7 2 (some (FieldType.boolean)) rm_X7_isReached) (N : xm_Nx K) (hg : ∀ v S, g v S → xm_q K (some (xm_i v)) S)  (h1 : wp_X7_isReached_33 h s0 S g) : xm_W K 0 0 33 [] [xm_i s0] S := by
  unfold wp_X7_isReached_33 at h1
  exact x_zret C (Nat.le_of_ble_eq_true rfl) (Nat.le_of_ble_eq_true rfl) rfl h1.1 dX7_isReached_33 (hg _ _ h1.2)
def wp_X7_isReached_32 (h : Nat)  (S : xm_S) (g : Int32 → xm_S → Prop) : Prop :=
  wp_X7_isReached_33 h (0 : Int32) S g
set_option maxRecDepth 100000 in
set_option maxHeartbeats 4000000 in
theorem kp_X7_isReached_32 {K : xm_K} (h : Nat)  (S : xm_S) {g : Int32 → xm_S → Prop} (C : xm_Cx K cX7_isReached RX7 2 (some (FieldType.boolean)) rm_X7_isReached) (N : xm_Nx K) (hg : ∀ v S, g v S → xm_q K (some (xm_i v)) S)  (h1 : wp_X7_isReached_32 h  S g) : xm_W K 0 0 32 [] [] S := by
  unfold wp_X7_isReached_32 at h1
  refine x_iconst (v := (0 : Int32)) C dX7_isReached_32 (by decide) ?_
  exact kp_X7_isReached_33 h (0 : Int32) S C N hg  h1
def wp_X7_isReached (h : Nat) (x1 : Int32) (S : xm_S) (g : Int32 → xm_S → Prop) : Prop :=
  st_t S h = some (7, 0) ∧ ∃ n2, (st_r S h 10) = some n2 ∧ ∃ z5, st_t S n2 = some (100, z5) ∧ vp_in x1 z5 ∧ ((st_i S n2 (x1).toNatClampNeg) = (-1 : Int32) → wp_X7_isReached_32 h S g) ∧ (¬ (st_i S n2 (x1).toNatClampNeg) = (-1 : Int32) → ∃ n7, (st_r S h 10) = some n7 ∧ ∃ z10, st_t S n7 = some (100, z10) ∧ vp_in x1 z10 ∧ wp_X7_bitOf x1 (st_i S n7 (x1).toNatClampNeg) S (fun r13 S12 => (((st_i S h 12) &&& r13) = 0 → wp_X7_isReached_32 h S12 g) ∧ (¬ ((st_i S h 12) &&& r13) = 0 → wp_X7_isReached_33 h (1 : Int32) S12 g)))
set_option maxRecDepth 100000 in
set_option maxHeartbeats 4000000 in
theorem kp_X7_isReached {K : xm_K} (h : Nat) (x1 : Int32) (S : xm_S) {g : Int32 → xm_S → Prop} (C : xm_Cx K cX7_isReached RX7 2 (some (FieldType.boolean)) rm_X7_isReached) (N : xm_Nx K) (hg : ∀ v S, g v S → xm_q K (some (xm_i v)) S)  (h1 : wp_X7_isReached h x1 S g) : xm_W K 0 0 0 [(0, xm_r (some h)), (1, xm_i x1)] [] S := by
  unfold wp_X7_isReached at h1
  refine x_aload_n C 0 dX7_isReached_0 rfl rfl ?_
  obtain ⟨ht1, h1⟩ := h1
  refine x_getf_r (n := h) C rfl ht1 fd_58 (by decide) dX7_isReached_1 ?_
  refine x_iload_n C 1 dX7_isReached_4 rfl rfl ?_
  obtain ⟨n2, hr3, h1⟩ := h1
  obtain ⟨z5, ht4, h1⟩ := h1
  obtain ⟨hi6, h1⟩ := h1
  refine x_iald (n := n2) C hr3 ht4 hi6 dX7_isReached_5 ?_
  refine x_iconst (v := (-1 : Int32)) C dX7_isReached_6 (by decide) ?_
  refine x_icmp_eq (tgt := 32) C dX7_isReached_7 (by decide) (fun z9 => ?_) (fun z9 => ?_)
  · have h1 := h1.1 z9
    refine x_keep (L' := []) C [] rfl ?_
    exact kp_X7_isReached_32 h S C N hg  h1
  · have h1 := h1.2 z9
    refine x_aload_n C 0 dX7_isReached_10 rfl rfl ?_
    refine x_getf_i (n := h) C rfl ht1 fd_47 (by decide) dX7_isReached_11 ?_
    refine x_iload_n C 1 dX7_isReached_14 rfl rfl ?_
    refine x_aload_n C 0 dX7_isReached_15 rfl rfl ?_
    refine x_getf_r (n := h) C rfl ht1 fd_58 (by decide) dX7_isReached_16 ?_
    refine x_iload_n C 1 dX7_isReached_19 rfl rfl ?_
    obtain ⟨n7, hr8, h1⟩ := h1
    obtain ⟨z10, ht9, h1⟩ := h1
    obtain ⟨hi11, h1⟩ := h1
    refine x_iald (n := n7) C hr8 ht9 hi11 dX7_isReached_20 ?_
    refine x_callS (rm' := rm_X7_bitOf) C (kp_X7_bitOf_met h1) lk_14 gw_129 rfl (Nat.le_of_ble_eq_true rfl) ⟨Nat.le_of_ble_eq_true rfl, Nat.le_of_ble_eq_true rfl, (Nat.le_of_ble_eq_true rfl), (Nat.le_of_ble_eq_true rfl)⟩ dX7_isReached_21 xm_kx (xm_ki (fun r13 S12 h1 => ?_))
    refine x_iand C dX7_isReached_24 ?_
    refine x_if_eq (tgt := 32) C dX7_isReached_25 (by decide) (fun z9 => ?_) (fun z9 => ?_)
    · have h1 := h1.1 z9
      refine x_keep (L' := []) C [] rfl ?_
      exact kp_X7_isReached_32 h S12 C N hg  h1
    · have h1 := h1.2 z9
      refine x_iconst (v := (1 : Int32)) C dX7_isReached_28 (by decide) ?_
      refine x_goto (tgt := 33) C dX7_isReached_29 (by decide) ?_
      refine x_keep (L' := []) C [] rfl ?_
      exact kp_X7_isReached_33 h (1 : Int32) S12 C N hg  h1
theorem kp_X7_isReached_met {h : Nat} {x1 : Int32} {S : xm_S} {g : Int32 → xm_S → Prop}  (h1 : wp_X7_isReached h x1 S g) : xm_Met yX7_isReached cX7_isReached 2 (some (FieldType.boolean)) rm_X7_isReached [xm_r (some h), xm_i x1] S (xm_qi g) xm_nox :=
  xm_ofW RX7 (by decide +kernel) rfl (Nat.le_of_ble_eq_true rfl) (fun K C N hq hx hi => kp_X7_isReached h x1 S C N (fun v S h => by rw [hq]; exact ⟨v, rfl, h⟩)  h1)
def rm_X7_areMet : Room := { frames := 3, cells := 0, slots := 0, locals := 70 }
theorem dX7_areMet_0 : decode cX7_areMet 0 = .ok (.aload_n 0, 1) := by decide +kernel
theorem dX7_areMet_1 : decode cX7_areMet 1 = .ok (.iload_n 1, 1) := by decide +kernel
theorem dX7_areMet_2 : decode cX7_areMet 2 = .ok (.putfield 51, 3) := by decide +kernel
theorem dX7_areMet_5 : decode cX7_areMet 5 = .ok (.aload_n 0, 1) := by decide +kernel
theorem dX7_areMet_6 : decode cX7_areMet 6 = .ok (.iconst 0, 1) := by decide +kernel
theorem dX7_areMet_7 : decode cX7_areMet 7 = .ok (.putfield 54, 3) := by decide +kernel
theorem dX7_areMet_10 : decode cX7_areMet 10 = .ok (.iconst 0, 1) := by decide +kernel
theorem dX7_areMet_11 : decode cX7_areMet 11 = .ok (.istore_n 3, 1) := by decide +kernel
theorem dX7_areMet_12 : decode cX7_areMet 12 = .ok (.iload_n 3, 1) := by decide +kernel
theorem dX7_areMet_13 : decode cX7_areMet 13 = .ok (.aload_n 0, 1) := by decide +kernel
theorem dX7_areMet_14 : decode cX7_areMet 14 = .ok (.getfield 19, 3) := by decide +kernel
theorem dX7_areMet_17 : decode cX7_areMet 17 = .ok (.if_icmp .ge 36, 3) := by decide +kernel
theorem dX7_areMet_20 : decode cX7_areMet 20 = .ok (.aload_n 0, 1) := by decide +kernel
theorem dX7_areMet_21 : decode cX7_areMet 21 = .ok (.getfield 36, 3) := by decide +kernel
theorem dX7_areMet_24 : decode cX7_areMet 24 = .ok (.iload_n 3, 1) := by decide +kernel
theorem dX7_areMet_25 : decode cX7_areMet 25 = .ok (.ishr, 1) := by decide +kernel
theorem dX7_areMet_26 : decode cX7_areMet 26 = .ok (.iconst 1, 1) := by decide +kernel
theorem dX7_areMet_27 : decode cX7_areMet 27 = .ok (.iand, 1) := by decide +kernel
theorem dX7_areMet_28 : decode cX7_areMet 28 = .ok (.ifCond .eq 19, 3) := by decide +kernel
theorem dX7_areMet_31 : decode cX7_areMet 31 = .ok (.aload_n 0, 1) := by decide +kernel
theorem dX7_areMet_32 : decode cX7_areMet 32 = .ok (.aload_n 0, 1) := by decide +kernel
theorem dX7_areMet_33 : decode cX7_areMet 33 = .ok (.getfield 15, 3) := by decide +kernel
theorem dX7_areMet_36 : decode cX7_areMet 36 = .ok (.iload_n 3, 1) := by decide +kernel
theorem dX7_areMet_37 : decode cX7_areMet 37 = .ok (.aaload, 1) := by decide +kernel
theorem dX7_areMet_38 : decode cX7_areMet 38 = .ok (.iload_n 2, 1) := by decide +kernel
theorem dX7_areMet_39 : decode cX7_areMet 39 = .ok (.invokevirtual 181, 3) := by decide +kernel
theorem dX7_areMet_42 : decode cX7_areMet 42 = .ok (.ifCond .ne 5, 3) := by decide +kernel
theorem dX7_areMet_45 : decode cX7_areMet 45 = .ok (.iconst 0, 1) := by decide +kernel
theorem dX7_areMet_46 : decode cX7_areMet 46 = .ok (.ireturn, 1) := by decide +kernel
theorem dX7_areMet_47 : decode cX7_areMet 47 = .ok (.iinc 3 1, 3) := by decide +kernel
theorem dX7_areMet_50 : decode cX7_areMet 50 = .ok (.goto (-38), 3) := by decide +kernel
theorem dX7_areMet_53 : decode cX7_areMet 53 = .ok (.iconst 0, 1) := by decide +kernel
theorem dX7_areMet_54 : decode cX7_areMet 54 = .ok (.istore_n 3, 1) := by decide +kernel
theorem dX7_areMet_55 : decode cX7_areMet 55 = .ok (.iload_n 3, 1) := by decide +kernel
theorem dX7_areMet_56 : decode cX7_areMet 56 = .ok (.bipush 64, 2) := by decide +kernel
theorem dX7_areMet_58 : decode cX7_areMet 58 = .ok (.if_icmp .ge 79, 3) := by decide +kernel
theorem dX7_areMet_61 : decode cX7_areMet 61 = .ok (.aload_n 0, 1) := by decide +kernel
theorem dX7_areMet_62 : decode cX7_areMet 62 = .ok (.getfield 51, 3) := by decide +kernel
theorem dX7_areMet_65 : decode cX7_areMet 65 = .ok (.istore 4, 2) := by decide +kernel
theorem dX7_areMet_67 : decode cX7_areMet 67 = .ok (.aload_n 0, 1) := by decide +kernel
theorem dX7_areMet_68 : decode cX7_areMet 68 = .ok (.getfield 54, 3) := by decide +kernel
theorem dX7_areMet_71 : decode cX7_areMet 71 = .ok (.istore 5, 2) := by decide +kernel
theorem dX7_areMet_73 : decode cX7_areMet 73 = .ok (.iconst 0, 1) := by decide +kernel
theorem dX7_areMet_74 : decode cX7_areMet 74 = .ok (.istore 6, 2) := by decide +kernel
theorem dX7_areMet_76 : decode cX7_areMet 76 = .ok (.iload 6, 2) := by decide +kernel
theorem dX7_areMet_78 : decode cX7_areMet 78 = .ok (.bipush 6, 2) := by decide +kernel
theorem dX7_areMet_80 : decode cX7_areMet 80 = .ok (.if_icmp .ge 30, 3) := by decide +kernel
theorem dX7_areMet_83 : decode cX7_areMet 83 = .ok (.aload_n 0, 1) := by decide +kernel
theorem dX7_areMet_84 : decode cX7_areMet 84 = .ok (.iload 6, 2) := by decide +kernel
theorem dX7_areMet_86 : decode cX7_areMet 86 = .ok (.invokevirtual 185, 3) := by decide +kernel
theorem dX7_areMet_89 : decode cX7_areMet 89 = .ok (.ifCond .eq 15, 3) := by decide +kernel
theorem dX7_areMet_92 : decode cX7_areMet 92 = .ok (.aload_n 0, 1) := by decide +kernel
theorem dX7_areMet_93 : decode cX7_areMet 93 = .ok (.iload 6, 2) := by decide +kernel
theorem dX7_areMet_95 : decode cX7_areMet 95 = .ok (.iload_n 2, 1) := by decide +kernel
theorem dX7_areMet_96 : decode cX7_areMet 96 = .ok (.invokevirtual 189, 3) := by decide +kernel
theorem dX7_areMet_99 : decode cX7_areMet 99 = .ok (.ifCond .ne 5, 3) := by decide +kernel
theorem dX7_areMet_102 : decode cX7_areMet 102 = .ok (.iconst 0, 1) := by decide +kernel
theorem dX7_areMet_103 : decode cX7_areMet 103 = .ok (.ireturn, 1) := by decide +kernel
theorem dX7_areMet_104 : decode cX7_areMet 104 = .ok (.iinc 6 1, 3) := by decide +kernel
theorem dX7_areMet_107 : decode cX7_areMet 107 = .ok (.goto (-31), 3) := by decide +kernel
theorem dX7_areMet_110 : decode cX7_areMet 110 = .ok (.aload_n 0, 1) := by decide +kernel
theorem dX7_areMet_111 : decode cX7_areMet 111 = .ok (.getfield 51, 3) := by decide +kernel
theorem dX7_areMet_114 : decode cX7_areMet 114 = .ok (.iload 4, 2) := by decide +kernel
theorem dX7_areMet_116 : decode cX7_areMet 116 = .ok (.if_icmp .ne 15, 3) := by decide +kernel
theorem dX7_areMet_119 : decode cX7_areMet 119 = .ok (.aload_n 0, 1) := by decide +kernel
theorem dX7_areMet_120 : decode cX7_areMet 120 = .ok (.getfield 54, 3) := by decide +kernel
theorem dX7_areMet_123 : decode cX7_areMet 123 = .ok (.iload 5, 2) := by decide +kernel
theorem dX7_areMet_125 : decode cX7_areMet 125 = .ok (.if_icmp .ne 6, 3) := by decide +kernel
theorem dX7_areMet_128 : decode cX7_areMet 128 = .ok (.goto 9, 3) := by decide +kernel
theorem dX7_areMet_131 : decode cX7_areMet 131 = .ok (.iinc 3 1, 3) := by decide +kernel
theorem dX7_areMet_134 : decode cX7_areMet 134 = .ok (.goto (-79), 3) := by decide +kernel
theorem dX7_areMet_137 : decode cX7_areMet 137 = .ok (.iconst 1, 1) := by decide +kernel
theorem dX7_areMet_138 : decode cX7_areMet 138 = .ok (.ireturn, 1) := by decide +kernel
def wp_X7_areMet_47 (h : Nat) (x2 : Int32) (x3 : Int32) (S : xm_S) (g : Int32 → xm_S → Prop) (Z12 : Int32 → Int32 → xm_S → Prop) : Prop :=
  ∀ y1, y1 = (x3 + (1 : Int32)) → Z12 x2 y1 S
set_option maxRecDepth 100000 in
set_option maxHeartbeats 4000000 in
theorem kp_X7_areMet_47 {K : xm_K} (h : Nat) (x2 : Int32) (x3 : Int32) (S : xm_S) {g : Int32 → xm_S → Prop} {Z12 : Int32 → Int32 → xm_S → Prop} (C : xm_Cx K cX7_areMet RX7 7 (some (FieldType.boolean)) rm_X7_areMet) (N : xm_Nx K) (hg : ∀ v S, g v S → xm_q K (some (xm_i v)) S) (hZ12 : ∀ x2 x3 S, Z12 x2 x3 S → xm_W K 0 0 12 [(0, xm_r (some h)), (2, xm_i x2), (3, xm_i x3)] [] S) (h1 : wp_X7_areMet_47 h x2 x3 S g Z12) : xm_W K 0 0 47 [(0, xm_r (some h)), (2, xm_i x2), (3, xm_i x3)] [] S := by
  unfold wp_X7_areMet_47 at h1
  obtain ⟨y1, e2⟩ : ∃ y1, y1 = (x3 + (1 : Int32)) := ⟨_, rfl⟩
  have h1 := h1 y1 e2
  refine x_iinc (v := y1) (L' := [(3, xm_i y1), (0, xm_r (some h)), (2, xm_i x2)]) C 2 dX7_areMet_47 rfl (by rw [e2]; rfl) (by decide) rfl ?_
  refine x_goto (tgt := 12) C dX7_areMet_50 (by decide) ?_
  refine x_keep (L' := [(0, xm_r (some h)), (2, xm_i x2), (3, xm_i y1)]) C [1, 2, 0] rfl ?_
  exact hZ12 x2 y1 S h1
def wp_X7_areMet_137 (h : Nat)  (S : xm_S) (g : Int32 → xm_S → Prop) : Prop :=
  g (1 : Int32) S
set_option maxRecDepth 100000 in
set_option maxHeartbeats 4000000 in
theorem kp_X7_areMet_137 {K : xm_K} (h : Nat)  (S : xm_S) {g : Int32 → xm_S → Prop} (C : xm_Cx K cX7_areMet RX7 7 (some (FieldType.boolean)) rm_X7_areMet) (N : xm_Nx K) (hg : ∀ v S, g v S → xm_q K (some (xm_i v)) S)  (h1 : wp_X7_areMet_137 h  S g) : xm_W K 0 0 137 [] [] S := by
  unfold wp_X7_areMet_137 at h1
  refine x_iconst (v := (1 : Int32)) C dX7_areMet_137 (by decide) ?_
  exact x_zret C (Nat.le_of_ble_eq_true rfl) (Nat.le_of_ble_eq_true rfl) rfl (by decide) dX7_areMet_138 (hg _ _ h1)
def wp_X7_areMet_104 (h : Nat) (x2 : Int32) (x3 : Int32) (x4 : Int32) (x5 : Int32) (x6 : Int32) (S : xm_S) (g : Int32 → xm_S → Prop) (Z55 : Int32 → Int32 → xm_S → Prop) (Z76 : Int32 → Int32 → Int32 → Int32 → Int32 → xm_S → Prop) : Prop :=
  ∀ y3, y3 = (x6 + (1 : Int32)) → Z76 x2 x3 x4 x5 y3 S
set_option maxRecDepth 100000 in
set_option maxHeartbeats 4000000 in
theorem kp_X7_areMet_104 {K : xm_K} (h : Nat) (x2 : Int32) (x3 : Int32) (x4 : Int32) (x5 : Int32) (x6 : Int32) (S : xm_S) {g : Int32 → xm_S → Prop} {Z55 : Int32 → Int32 → xm_S → Prop} {Z76 : Int32 → Int32 → Int32 → Int32 → Int32 → xm_S → Prop} (C : xm_Cx K cX7_areMet RX7 7 (some (FieldType.boolean)) rm_X7_areMet) (N : xm_Nx K) (hg : ∀ v S, g v S → xm_q K (some (xm_i v)) S) (hZ55 : ∀ x2 x3 S, Z55 x2 x3 S → xm_W K 0 0 55 [(0, xm_r (some h)), (2, xm_i x2), (3, xm_i x3)] [] S) (hZ76 : ∀ x2 x3 x4 x5 x6 S, Z76 x2 x3 x4 x5 x6 S → xm_W K 0 0 76 [(0, xm_r (some h)), (2, xm_i x2), (3, xm_i x3), (4, xm_i x4), (5, xm_i x5), (6, xm_i x6)] [] S) (h1 : wp_X7_areMet_104 h x2 x3 x4 x5 x6 S g Z55 Z76) : xm_W K 0 0 104 [(0, xm_r (some h)), (2, xm_i x2), (3, xm_i x3), (4, xm_i x4), (5, xm_i x5), (6, xm_i x6)] [] S := by
  unfold wp_X7_areMet_104 at h1
  obtain ⟨y3, e4⟩ : ∃ y3, y3 = (x6 + (1 : Int32)) := ⟨_, rfl⟩
  have h1 := h1 y3 e4
  refine x_iinc (v := y3) (L' := [(6, xm_i y3), (0, xm_r (some h)), (2, xm_i x2), (3, xm_i x3), (4, xm_i x4), (5, xm_i x5)]) C 5 dX7_areMet_104 rfl (by rw [e4]; rfl) (by decide) rfl ?_
  refine x_goto (tgt := 76) C dX7_areMet_107 (by decide) ?_
  refine x_keep (L' := [(0, xm_r (some h)), (2, xm_i x2), (3, xm_i x3), (4, xm_i x4), (5, xm_i x5), (6, xm_i y3)]) C [1, 2, 3, 4, 5, 0] rfl ?_
  exact hZ76 x2 x3 x4 x5 y3 S h1
def wp_X7_areMet_131 (h : Nat) (x2 : Int32) (x3 : Int32) (S : xm_S) (g : Int32 → xm_S → Prop) (Z55 : Int32 → Int32 → xm_S → Prop) : Prop :=
  ∀ y5, y5 = (x3 + (1 : Int32)) → Z55 x2 y5 S
set_option maxRecDepth 100000 in
set_option maxHeartbeats 4000000 in
theorem kp_X7_areMet_131 {K : xm_K} (h : Nat) (x2 : Int32) (x3 : Int32) (S : xm_S) {g : Int32 → xm_S → Prop} {Z55 : Int32 → Int32 → xm_S → Prop} (C : xm_Cx K cX7_areMet RX7 7 (some (FieldType.boolean)) rm_X7_areMet) (N : xm_Nx K) (hg : ∀ v S, g v S → xm_q K (some (xm_i v)) S) (hZ55 : ∀ x2 x3 S, Z55 x2 x3 S → xm_W K 0 0 55 [(0, xm_r (some h)), (2, xm_i x2), (3, xm_i x3)] [] S) (h1 : wp_X7_areMet_131 h x2 x3 S g Z55) : xm_W K 0 0 131 [(0, xm_r (some h)), (2, xm_i x2), (3, xm_i x3)] [] S := by
  unfold wp_X7_areMet_131 at h1
  obtain ⟨y5, e6⟩ : ∃ y5, y5 = (x3 + (1 : Int32)) := ⟨_, rfl⟩
  have h1 := h1 y5 e6
  refine x_iinc (v := y5) (L' := [(3, xm_i y5), (0, xm_r (some h)), (2, xm_i x2)]) C 2 dX7_areMet_131 rfl (by rw [e6]; rfl) (by decide) rfl ?_
  refine x_goto (tgt := 55) C dX7_areMet_134 (by decide) ?_
  refine x_keep (L' := [(0, xm_r (some h)), (2, xm_i x2), (3, xm_i y5)]) C [1, 2, 0] rfl ?_
  exact hZ55 x2 y5 S h1
def wp_X7_areMet_76B (h : Nat) (x2 : Int32) (x3 : Int32) (x4 : Int32) (x5 : Int32) (x6 : Int32) (S : xm_S) (g : Int32 → xm_S → Prop) (Z55 : Int32 → Int32 → xm_S → Prop) (Z76 : Int32 → Int32 → Int32 → Int32 → Int32 → xm_S → Prop) : Prop :=
  ((nI 6) ≤ x6 → st_t S h = some (7, 0) ∧ (¬ (st_i S h 12) = x4 → wp_X7_areMet_131 h x2 x3 S g Z55) ∧ ((st_i S h 12) = x4 → (¬ (st_i S h 13) = x5 → wp_X7_areMet_131 h x2 x3 S g Z55) ∧ ((st_i S h 13) = x5 → wp_X7_areMet_137 h S g))) ∧ (¬ (nI 6) ≤ x6 → st_t S h = some (7, 0) ∧ wp_X7_isReached h x6 S (fun r10 S9 => (r10 = 0 → wp_X7_areMet_104 h x2 x3 x4 x5 x6 S9 g Z55 Z76) ∧ (¬ r10 = 0 → st_t S9 h = some (7, 0) ∧ wp_X7_hasNeedsMet h x6 x2 S9 (fun r13 S12 => (¬ r13 = 0 → wp_X7_areMet_104 h x2 x3 x4 x5 x6 S12 g Z55 Z76) ∧ (r13 = 0 → g (0 : Int32) S12)))))
def wp_X7_areMet_76 (h : Nat) (x2 : Int32) (x3 : Int32) (x4 : Int32) (x5 : Int32) (x6 : Int32) (S : xm_S) (g : Int32 → xm_S → Prop) (Z55 : Int32 → Int32 → xm_S → Prop) : Prop :=
  ∀ Z76 : Int32 → Int32 → Int32 → Int32 → Int32 → xm_S → Prop, (∀ x2 x3 x4 x5 x6 S, wp_X7_areMet_76B h x2 x3 x4 x5 x6 S g Z55 Z76 → Z76 x2 x3 x4 x5 x6 S) → Z76 x2 x3 x4 x5 x6 S
set_option maxRecDepth 100000 in
set_option maxHeartbeats 4000000 in
theorem kp_X7_areMet_76B {K : xm_K} (h : Nat) (x2 : Int32) (x3 : Int32) (x4 : Int32) (x5 : Int32) (x6 : Int32) (S : xm_S) {g : Int32 → xm_S → Prop} {Z55 : Int32 → Int32 → xm_S → Prop} {Z76 : Int32 → Int32 → Int32 → Int32 → Int32 → xm_S → Prop} (C : xm_Cx K cX7_areMet RX7 7 (some (FieldType.boolean)) rm_X7_areMet) (N : xm_Nx K) (hg : ∀ v S, g v S → xm_q K (some (xm_i v)) S) (hZ55 : ∀ x2 x3 S, Z55 x2 x3 S → xm_W K 0 0 55 [(0, xm_r (some h)), (2, xm_i x2), (3, xm_i x3)] [] S) (hZ76 : ∀ x2 x3 x4 x5 x6 S, Z76 x2 x3 x4 x5 x6 S → xm_W K 0 0 76 [(0, xm_r (some h)), (2, xm_i x2), (3, xm_i x3), (4, xm_i x4), (5, xm_i x5), (6, xm_i x6)] [] S) (h1 : wp_X7_areMet_76B h x2 x3 x4 x5 x6 S g Z55 Z76) : xm_W K 0 0 76 [(0, xm_r (some h)), (2, xm_i x2), (3, xm_i x3), (4, xm_i x4), (5, xm_i x5), (6, xm_i x6)] [] S := by
  unfold wp_X7_areMet_76B at h1
  refine x_iload C 5 dX7_areMet_76 rfl ?_
  refine x_bipush (v := (nI 6)) C dX7_areMet_78 (by decide) ?_
  refine x_icmp_ge (tgt := 110) C dX7_areMet_80 (by decide) (fun z9 => ?_) (fun z9 => ?_)
  · have h1 := h1.1 z9
    refine x_aload_n C 0 dX7_areMet_110 rfl rfl ?_
    obtain ⟨ht7, h1⟩ := h1
    refine x_getf_i (n := h) C rfl ht7 fd_47 (by decide) dX7_areMet_111 ?_
    refine x_iload C 3 dX7_areMet_114 rfl ?_
    refine x_icmp_ne (tgt := 131) C dX7_areMet_116 (by decide) (fun z9 => ?_) (fun z9 => ?_)
    · have h1 := h1.1 z9
      refine x_keep (L' := [(0, xm_r (some h)), (2, xm_i x2), (3, xm_i x3)]) C [0, 1, 2] rfl ?_
      exact kp_X7_areMet_131 h x2 x3 S C N hg hZ55 h1
    · have h1 := h1.2 z9
      refine x_aload_n C 0 dX7_areMet_119 rfl rfl ?_
      refine x_getf_i (n := h) C rfl ht7 fd_48 (by decide) dX7_areMet_120 ?_
      refine x_iload C 4 dX7_areMet_123 rfl ?_
      refine x_icmp_ne (tgt := 131) C dX7_areMet_125 (by decide) (fun z9 => ?_) (fun z9 => ?_)
      · have h1 := h1.1 z9
        refine x_keep (L' := [(0, xm_r (some h)), (2, xm_i x2), (3, xm_i x3)]) C [0, 1, 2] rfl ?_
        exact kp_X7_areMet_131 h x2 x3 S C N hg hZ55 h1
      · have h1 := h1.2 z9
        refine x_goto (tgt := 137) C dX7_areMet_128 (by decide) ?_
        refine x_keep (L' := []) C [] rfl ?_
        exact kp_X7_areMet_137 h S C N hg  h1
  · have h1 := h1.2 z9
    refine x_aload_n C 0 dX7_areMet_83 rfl rfl ?_
    refine x_iload C 5 dX7_areMet_84 rfl ?_
    obtain ⟨ht8, h1⟩ := h1
    refine x_callV (rm' := rm_X7_isReached) (n := h) C (kp_X7_isReached_met h1) lk_15 gw_132 gw_133 xv_7 rfl rfl ht8 rfl (Nat.le_of_ble_eq_true rfl) ⟨Nat.le_of_ble_eq_true rfl, Nat.le_of_ble_eq_true rfl, (Nat.le_of_ble_eq_true rfl), (Nat.le_of_ble_eq_true rfl)⟩ dX7_areMet_86 xm_kx (xm_ki (fun r10 S9 h1 => ?_))
    refine x_if_eq (tgt := 104) C dX7_areMet_89 (by decide) (fun z9 => ?_) (fun z9 => ?_)
    · have h1 := h1.1 z9
      exact kp_X7_areMet_104 h x2 x3 x4 x5 x6 S9 C N hg hZ55 hZ76 h1
    · have h1 := h1.2 z9
      refine x_aload_n C 0 dX7_areMet_92 rfl rfl ?_
      refine x_iload C 5 dX7_areMet_93 rfl ?_
      refine x_iload_n C 1 dX7_areMet_95 rfl rfl ?_
      obtain ⟨ht11, h1⟩ := h1
      refine x_callV (rm' := rm_X7_hasNeedsMet) (n := h) C (kp_X7_hasNeedsMet_met h1) lk_16 gw_136 gw_137 xv_7 rfl rfl ht11 rfl (Nat.le_of_ble_eq_true rfl) ⟨Nat.le_of_ble_eq_true rfl, Nat.le_of_ble_eq_true rfl, (Nat.le_of_ble_eq_true rfl), (Nat.le_of_ble_eq_true rfl)⟩ dX7_areMet_96 xm_kx (xm_ki (fun r13 S12 h1 => ?_))
      refine x_if_ne (tgt := 104) C dX7_areMet_99 (by decide) (fun z9 => ?_) (fun z9 => ?_)
      · have h1 := h1.1 z9
        exact kp_X7_areMet_104 h x2 x3 x4 x5 x6 S12 C N hg hZ55 hZ76 h1
      · have h1 := h1.2 z9
        refine x_iconst (v := (0 : Int32)) C dX7_areMet_102 (by decide) ?_
        exact x_zret C (Nat.le_of_ble_eq_true rfl) (Nat.le_of_ble_eq_true rfl) rfl (by decide) dX7_areMet_103 (hg _ _ h1)
theorem kp_X7_areMet_76 {K : xm_K} (h : Nat) (x2 : Int32) (x3 : Int32) (x4 : Int32) (x5 : Int32) (x6 : Int32) (S : xm_S) {g : Int32 → xm_S → Prop} {Z55 : Int32 → Int32 → xm_S → Prop} (C : xm_Cx K cX7_areMet RX7 7 (some (FieldType.boolean)) rm_X7_areMet) (N : xm_Nx K) (hg : ∀ v S, g v S → xm_q K (some (xm_i v)) S) (hZ55 : ∀ x2 x3 S, Z55 x2 x3 S → xm_W K 0 0 55 [(0, xm_r (some h)), (2, xm_i x2), (3, xm_i x3)] [] S) (h1 : wp_X7_areMet_76 h x2 x3 x4 x5 x6 S g Z55) : xm_W K 0 0 76 [(0, xm_r (some h)), (2, xm_i x2), (3, xm_i x3), (4, xm_i x4), (5, xm_i x5), (6, xm_i x6)] [] S :=
  h1 (fun x2 x3 x4 x5 x6 S => xm_W K 0 0 76 [(0, xm_r (some h)), (2, xm_i x2), (3, xm_i x3), (4, xm_i x4), (5, xm_i x5), (6, xm_i x6)] [] S) (fun x2 x3 x4 x5 x6 S hb => kp_X7_areMet_76B h x2 x3 x4 x5 x6 S C N hg hZ55 (fun x2 x3 x4 x5 x6 S hz => hz) hb)
def wp_X7_areMet_55B (h : Nat) (x2 : Int32) (x3 : Int32) (S : xm_S) (g : Int32 → xm_S → Prop) (Z55 : Int32 → Int32 → xm_S → Prop) : Prop :=
  ((nI 64) ≤ x3 → wp_X7_areMet_137 h S g) ∧ (¬ (nI 64) ≤ x3 → st_t S h = some (7, 0) ∧ wp_X7_areMet_76 h x2 x3 (st_i S h 12) (st_i S h 13) (0 : Int32) S g Z55)
def wp_X7_areMet_55 (h : Nat) (x2 : Int32) (x3 : Int32) (S : xm_S) (g : Int32 → xm_S → Prop) : Prop :=
  ∀ Z55 : Int32 → Int32 → xm_S → Prop, (∀ x2 x3 S, wp_X7_areMet_55B h x2 x3 S g Z55 → Z55 x2 x3 S) → Z55 x2 x3 S
set_option maxRecDepth 100000 in
set_option maxHeartbeats 4000000 in
theorem kp_X7_areMet_55B {K : xm_K} (h : Nat) (x2 : Int32) (x3 : Int32) (S : xm_S) {g : Int32 → xm_S → Prop} {Z55 : Int32 → Int32 → xm_S → Prop} (C : xm_Cx K cX7_areMet RX7 7 (some (FieldType.boolean)) rm_X7_areMet) (N : xm_Nx K) (hg : ∀ v S, g v S → xm_q K (some (xm_i v)) S) (hZ55 : ∀ x2 x3 S, Z55 x2 x3 S → xm_W K 0 0 55 [(0, xm_r (some h)), (2, xm_i x2), (3, xm_i x3)] [] S) (h1 : wp_X7_areMet_55B h x2 x3 S g Z55) : xm_W K 0 0 55 [(0, xm_r (some h)), (2, xm_i x2), (3, xm_i x3)] [] S := by
  unfold wp_X7_areMet_55B at h1
  refine x_iload_n C 2 dX7_areMet_55 rfl rfl ?_
  refine x_bipush (v := (nI 64)) C dX7_areMet_56 (by decide) ?_
  refine x_icmp_ge (tgt := 137) C dX7_areMet_58 (by decide) (fun z9 => ?_) (fun z9 => ?_)
  · have h1 := h1.1 z9
    refine x_keep (L' := []) C [] rfl ?_
    exact kp_X7_areMet_137 h S C N hg  h1
  · have h1 := h1.2 z9
    refine x_aload_n C 0 dX7_areMet_61 rfl rfl ?_
    obtain ⟨ht14, h1⟩ := h1
    refine x_getf_i (n := h) C rfl ht14 fd_47 (by decide) dX7_areMet_62 ?_
    refine x_istore (L' := [(4, xm_i (st_i S h 12)), (0, xm_r (some h)), (2, xm_i x2), (3, xm_i x3)]) C dX7_areMet_65 (by decide) rfl ?_
    refine x_aload_n C 1 dX7_areMet_67 rfl rfl ?_
    refine x_getf_i (n := h) C rfl ht14 fd_48 (by decide) dX7_areMet_68 ?_
    refine x_istore (L' := [(5, xm_i (st_i S h 13)), (4, xm_i (st_i S h 12)), (0, xm_r (some h)), (2, xm_i x2), (3, xm_i x3)]) C dX7_areMet_71 (by decide) rfl ?_
    refine x_iconst (v := (0 : Int32)) C dX7_areMet_73 (by decide) ?_
    refine x_istore (L' := [(6, xm_i (0 : Int32)), (5, xm_i (st_i S h 13)), (4, xm_i (st_i S h 12)), (0, xm_r (some h)), (2, xm_i x2), (3, xm_i x3)]) C dX7_areMet_74 (by decide) rfl ?_
    refine x_keep (L' := [(0, xm_r (some h)), (2, xm_i x2), (3, xm_i x3), (4, xm_i (st_i S h 12)), (5, xm_i (st_i S h 13)), (6, xm_i (0 : Int32))]) C [3, 4, 5, 2, 1, 0] rfl ?_
    exact kp_X7_areMet_76 h x2 x3 (st_i S h 12) (st_i S h 13) (0 : Int32) S C N hg hZ55 h1
theorem kp_X7_areMet_55 {K : xm_K} (h : Nat) (x2 : Int32) (x3 : Int32) (S : xm_S) {g : Int32 → xm_S → Prop} (C : xm_Cx K cX7_areMet RX7 7 (some (FieldType.boolean)) rm_X7_areMet) (N : xm_Nx K) (hg : ∀ v S, g v S → xm_q K (some (xm_i v)) S)  (h1 : wp_X7_areMet_55 h x2 x3 S g) : xm_W K 0 0 55 [(0, xm_r (some h)), (2, xm_i x2), (3, xm_i x3)] [] S :=
  h1 (fun x2 x3 S => xm_W K 0 0 55 [(0, xm_r (some h)), (2, xm_i x2), (3, xm_i x3)] [] S) (fun x2 x3 S hb => kp_X7_areMet_55B h x2 x3 S C N hg (fun x2 x3 S hz => hz) hb)
def wp_X7_areMet_12B (h : Nat) (x2 : Int32) (x3 : Int32) (S : xm_S) (g : Int32 → xm_S → Prop) (Z12 : Int32 → Int32 → xm_S → Prop) : Prop :=
  st_t S h = some (7, 0) ∧ ((st_i S h 2) ≤ x3 → wp_X7_areMet_55 h x2 (0 : Int32) S g) ∧ (¬ (st_i S h 2) ≤ x3 → ((((st_i S h 7) >>> (x3 &&& 31)) &&& (1 : Int32)) = 0 → wp_X7_areMet_47 h x2 x3 S g Z12) ∧ (¬ (((st_i S h 7) >>> (x3 &&& 31)) &&& (1 : Int32)) = 0 → ∃ n16, (st_r S h 1) = some n16 ∧ ∃ z19, st_t S n16 = some (114, z19) ∧ vp_in x3 z19 ∧ wp_X7_isMet h (st_r S n16 (x3).toNatClampNeg) x2 S (fun r22 S21 => (¬ r22 = 0 → wp_X7_areMet_47 h x2 x3 S21 g Z12) ∧ (r22 = 0 → g (0 : Int32) S21))))
def wp_X7_areMet_12 (h : Nat) (x2 : Int32) (x3 : Int32) (S : xm_S) (g : Int32 → xm_S → Prop) : Prop :=
  ∀ Z12 : Int32 → Int32 → xm_S → Prop, (∀ x2 x3 S, wp_X7_areMet_12B h x2 x3 S g Z12 → Z12 x2 x3 S) → Z12 x2 x3 S
set_option maxRecDepth 100000 in
set_option maxHeartbeats 4000000 in
theorem kp_X7_areMet_12B {K : xm_K} (h : Nat) (x2 : Int32) (x3 : Int32) (S : xm_S) {g : Int32 → xm_S → Prop} {Z12 : Int32 → Int32 → xm_S → Prop} (C : xm_Cx K cX7_areMet RX7 7 (some (FieldType.boolean)) rm_X7_areMet) (N : xm_Nx K) (hg : ∀ v S, g v S → xm_q K (some (xm_i v)) S) (hZ12 : ∀ x2 x3 S, Z12 x2 x3 S → xm_W K 0 0 12 [(0, xm_r (some h)), (2, xm_i x2), (3, xm_i x3)] [] S) (h1 : wp_X7_areMet_12B h x2 x3 S g Z12) : xm_W K 0 0 12 [(0, xm_r (some h)), (2, xm_i x2), (3, xm_i x3)] [] S := by
  unfold wp_X7_areMet_12B at h1
  refine x_iload_n C 2 dX7_areMet_12 rfl rfl ?_
  refine x_aload_n C 0 dX7_areMet_13 rfl rfl ?_
  obtain ⟨ht15, h1⟩ := h1
  refine x_getf_i (n := h) C rfl ht15 fd_59 (by decide) dX7_areMet_14 ?_
  refine x_icmp_ge (tgt := 53) C dX7_areMet_17 (by decide) (fun z9 => ?_) (fun z9 => ?_)
  · have h1 := h1.1 z9
    refine x_iconst (v := (0 : Int32)) C dX7_areMet_53 (by decide) ?_
    refine x_istore_n (L' := [(3, xm_i (0 : Int32)), (0, xm_r (some h)), (2, xm_i x2)]) C dX7_areMet_54 rfl (by decide) rfl ?_
    refine x_keep (L' := [(0, xm_r (some h)), (2, xm_i x2), (3, xm_i (0 : Int32))]) C [1, 2, 0] rfl ?_
    exact kp_X7_areMet_55 h x2 (0 : Int32) S C N hg  h1
  · have h1 := h1.2 z9
    refine x_aload_n C 0 dX7_areMet_20 rfl rfl ?_
    refine x_getf_i (n := h) C rfl ht15 fd_60 (by decide) dX7_areMet_21 ?_
    refine x_iload_n C 2 dX7_areMet_24 rfl rfl ?_
    refine x_ishr C dX7_areMet_25 ?_
    refine x_iconst (v := (1 : Int32)) C dX7_areMet_26 (by decide) ?_
    refine x_iand C dX7_areMet_27 ?_
    refine x_if_eq (tgt := 47) C dX7_areMet_28 (by decide) (fun z9 => ?_) (fun z9 => ?_)
    · have h1 := h1.1 z9
      exact kp_X7_areMet_47 h x2 x3 S C N hg hZ12 h1
    · have h1 := h1.2 z9
      refine x_aload_n C 0 dX7_areMet_31 rfl rfl ?_
      refine x_aload_n C 0 dX7_areMet_32 rfl rfl ?_
      refine x_getf_r (n := h) C rfl ht15 fd_61 (by decide) dX7_areMet_33 ?_
      refine x_iload_n C 2 dX7_areMet_36 rfl rfl ?_
      obtain ⟨n16, hr17, h1⟩ := h1
      obtain ⟨z19, ht18, h1⟩ := h1
      obtain ⟨hi20, h1⟩ := h1
      refine x_aald (n := n16) C hr17 (by decide) rfl ht18 hi20 dX7_areMet_37 ?_
      refine x_iload_n C 1 dX7_areMet_38 rfl rfl ?_
      refine x_callV (rm' := rm_X7_isMet) (n := h) C (kp_X7_isMet_met h1) lk_13 gw_119 gw_120 xv_7 rfl rfl ht15 rfl (Nat.le_of_ble_eq_true rfl) ⟨Nat.le_of_ble_eq_true rfl, Nat.le_of_ble_eq_true rfl, (Nat.le_of_ble_eq_true rfl), (Nat.le_of_ble_eq_true rfl)⟩ dX7_areMet_39 xm_kx (xm_ki (fun r22 S21 h1 => ?_))
      refine x_if_ne (tgt := 47) C dX7_areMet_42 (by decide) (fun z9 => ?_) (fun z9 => ?_)
      · have h1 := h1.1 z9
        exact kp_X7_areMet_47 h x2 x3 S21 C N hg hZ12 h1
      · have h1 := h1.2 z9
        refine x_iconst (v := (0 : Int32)) C dX7_areMet_45 (by decide) ?_
        exact x_zret C (Nat.le_of_ble_eq_true rfl) (Nat.le_of_ble_eq_true rfl) rfl (by decide) dX7_areMet_46 (hg _ _ h1)
theorem kp_X7_areMet_12 {K : xm_K} (h : Nat) (x2 : Int32) (x3 : Int32) (S : xm_S) {g : Int32 → xm_S → Prop} (C : xm_Cx K cX7_areMet RX7 7 (some (FieldType.boolean)) rm_X7_areMet) (N : xm_Nx K) (hg : ∀ v S, g v S → xm_q K (some (xm_i v)) S)  (h1 : wp_X7_areMet_12 h x2 x3 S g) : xm_W K 0 0 12 [(0, xm_r (some h)), (2, xm_i x2), (3, xm_i x3)] [] S :=
  h1 (fun x2 x3 S => xm_W K 0 0 12 [(0, xm_r (some h)), (2, xm_i x2), (3, xm_i x3)] [] S) (fun x2 x3 S hb => kp_X7_areMet_12B h x2 x3 S C N hg (fun x2 x3 S hz => hz) hb)
def wp_X7_areMet (h : Nat) (x1 : Int32) (x2 : Int32) (S : xm_S) (g : Int32 → xm_S → Prop) : Prop :=
  st_t S h = some (7, 0) ∧ ∀ S24, S24 = st_pi S h 12 x1 → ∀ S26, S26 = st_pi S24 h 13 (0 : Int32) → wp_X7_areMet_12 h x2 (0 : Int32) S26 g
set_option maxRecDepth 100000 in
set_option maxHeartbeats 4000000 in
theorem kp_X7_areMet {K : xm_K} (h : Nat) (x1 : Int32) (x2 : Int32) (S : xm_S) {g : Int32 → xm_S → Prop} (C : xm_Cx K cX7_areMet RX7 7 (some (FieldType.boolean)) rm_X7_areMet) (N : xm_Nx K) (hg : ∀ v S, g v S → xm_q K (some (xm_i v)) S)  (h1 : wp_X7_areMet h x1 x2 S g) : xm_W K 0 0 0 [(0, xm_r (some h)), (1, xm_i x1), (2, xm_i x2)] [] S := by
  unfold wp_X7_areMet at h1
  refine x_aload_n C 0 dX7_areMet_0 rfl rfl ?_
  refine x_iload_n C 1 dX7_areMet_1 rfl rfl ?_
  obtain ⟨ht23, h1⟩ := h1
  refine x_putf_i (n := h) C rfl ht23 fd_47 xc_7 (by decide) rfl ⟨rfl, rfl⟩ dX7_areMet_2 ?_
  refine x_topS (fun S24 e25 => ?_)
  have h1 := h1 S24 e25
  refine x_aload_n C 0 dX7_areMet_5 rfl rfl ?_
  refine x_iconst (v := (0 : Int32)) C dX7_areMet_6 (by decide) ?_
  refine x_putf_i (n := h) C rfl (tk_p e25 ht23) fd_48 xc_7 (by decide) rfl ⟨rfl, rfl⟩ dX7_areMet_7 ?_
  refine x_topS (fun S26 e27 => ?_)
  have h1 := h1 S26 e27
  refine x_iconst (v := (0 : Int32)) C dX7_areMet_10 (by decide) ?_
  refine x_istore_n (L' := [(3, xm_i (0 : Int32)), (0, xm_r (some h)), (1, xm_i x1), (2, xm_i x2)]) C dX7_areMet_11 rfl (by decide) rfl ?_
  refine x_keep (L' := [(0, xm_r (some h)), (2, xm_i x2), (3, xm_i (0 : Int32))]) C [1, 3, 0] rfl ?_
  exact kp_X7_areMet_12 h x2 (0 : Int32) S26 C N hg  h1
theorem kp_X7_areMet_met {h : Nat} {x1 : Int32} {x2 : Int32} {S : xm_S} {g : Int32 → xm_S → Prop}  (h1 : wp_X7_areMet h x1 x2 S g) : xm_Met yX7_areMet cX7_areMet 7 (some (FieldType.boolean)) rm_X7_areMet [xm_r (some h), xm_i x1, xm_i x2] S (xm_qi g) xm_nox :=
  xm_ofW RX7 (by decide +kernel) rfl (Nat.le_of_ble_eq_true rfl) (fun K C N hq hx hi => kp_X7_areMet h x1 x2 S C N (fun v S h => by rw [hq]; exact ⟨v, rfl, h⟩)  h1)
def rm_X7_bitsOf : Room := { frames := 1, cells := 0, slots := 0, locals := 20 }
theorem dX7_bitsOf_0 : decode cX7_bitsOf 0 = .ok (.bipush 15, 2) := by decide +kernel
theorem dX7_bitsOf_2 : decode cX7_bitsOf 2 = .ok (.iload_n 0, 1) := by decide +kernel
theorem dX7_bitsOf_3 : decode cX7_bitsOf 3 = .ok (.iconst 4, 1) := by decide +kernel
theorem dX7_bitsOf_4 : decode cX7_bitsOf 4 = .ok (.imul, 1) := by decide +kernel
theorem dX7_bitsOf_5 : decode cX7_bitsOf 5 = .ok (.ishl, 1) := by decide +kernel
theorem dX7_bitsOf_6 : decode cX7_bitsOf 6 = .ok (.ireturn, 1) := by decide +kernel
def wp_X7_bitsOf (x0 : Int32) (S : xm_S) (g : Int32 → xm_S → Prop) : Prop :=
  g ((nI 15) <<< ((x0 * (nI 4)) &&& 31)) S
set_option maxRecDepth 100000 in
set_option maxHeartbeats 4000000 in
theorem kp_X7_bitsOf {K : xm_K} (x0 : Int32) (S : xm_S) {g : Int32 → xm_S → Prop} (C : xm_Cx K cX7_bitsOf RX7 1 (some (FieldType.int)) rm_X7_bitsOf) (N : xm_Nx K) (hg : ∀ v S, g v S → xm_q K (some (xm_i v)) S)  (h1 : wp_X7_bitsOf x0 S g) : xm_W K 0 0 0 [(0, xm_i x0)] [] S := by
  unfold wp_X7_bitsOf at h1
  refine x_bipush (v := (nI 15)) C dX7_bitsOf_0 (by decide) ?_
  refine x_iload_n C 0 dX7_bitsOf_2 rfl rfl ?_
  refine x_iconst (v := (nI 4)) C dX7_bitsOf_3 (by decide) ?_
  refine x_imul C dX7_bitsOf_4 ?_
  refine x_ishl C dX7_bitsOf_5 ?_
  exact x_iret C (Nat.le_of_ble_eq_true rfl) (Nat.le_of_ble_eq_true rfl) rfl dX7_bitsOf_6 (hg _ _ h1)
theorem kp_X7_bitsOf_met {x0 : Int32} {S : xm_S} {g : Int32 → xm_S → Prop}  (h1 : wp_X7_bitsOf x0 S g) : xm_Met yX7_bitsOf cX7_bitsOf 1 (some (FieldType.int)) rm_X7_bitsOf [xm_i x0] S (xm_qi g) xm_nox :=
  xm_ofW RX7 (by decide +kernel) rfl (Nat.le_of_ble_eq_true rfl) (fun K C N hq hx hi => kp_X7_bitsOf x0 S C N (fun v S h => by rw [hq]; exact ⟨v, rfl, h⟩)  h1)
def rm_X7_greatest : Room := { frames := 3, cells := 0, slots := 0, locals := 64 }
theorem dX7_greatest_0 : decode cX7_greatest 0 = .ok (.iconst (-1), 1) := by decide +kernel
theorem dX7_greatest_1 : decode cX7_greatest 1 = .ok (.istore_n 3, 1) := by decide +kernel
theorem dX7_greatest_2 : decode cX7_greatest 2 = .ok (.iconst 0, 1) := by decide +kernel
theorem dX7_greatest_3 : decode cX7_greatest 3 = .ok (.istore 4, 2) := by decide +kernel
theorem dX7_greatest_5 : decode cX7_greatest 5 = .ok (.iload 4, 2) := by decide +kernel
theorem dX7_greatest_7 : decode cX7_greatest 7 = .ok (.aload_n 0, 1) := by decide +kernel
theorem dX7_greatest_8 : decode cX7_greatest 8 = .ok (.getfield 9, 3) := by decide +kernel
theorem dX7_greatest_11 : decode cX7_greatest 11 = .ok (.iload_n 1, 1) := by decide +kernel
theorem dX7_greatest_12 : decode cX7_greatest 12 = .ok (.aaload, 1) := by decide +kernel
theorem dX7_greatest_13 : decode cX7_greatest 13 = .ok (.getfield 78, 3) := by decide +kernel
theorem dX7_greatest_16 : decode cX7_greatest 16 = .ok (.if_icmp .ge 53, 3) := by decide +kernel
theorem dX7_greatest_19 : decode cX7_greatest 19 = .ok (.iload_n 2, 1) := by decide +kernel
theorem dX7_greatest_20 : decode cX7_greatest 20 = .ok (.iload 4, 2) := by decide +kernel
theorem dX7_greatest_22 : decode cX7_greatest 22 = .ok (.ishr, 1) := by decide +kernel
theorem dX7_greatest_23 : decode cX7_greatest 23 = .ok (.iconst 1, 1) := by decide +kernel
theorem dX7_greatest_24 : decode cX7_greatest 24 = .ok (.iand, 1) := by decide +kernel
theorem dX7_greatest_25 : decode cX7_greatest 25 = .ok (.ifCond .eq 7, 3) := by decide +kernel
theorem dX7_greatest_28 : decode cX7_greatest 28 = .ok (.iconst 1, 1) := by decide +kernel
theorem dX7_greatest_29 : decode cX7_greatest 29 = .ok (.goto 4, 3) := by decide +kernel
theorem dX7_greatest_32 : decode cX7_greatest 32 = .ok (.iconst 0, 1) := by decide +kernel
theorem dX7_greatest_33 : decode cX7_greatest 33 = .ok (.istore 5, 2) := by decide +kernel
theorem dX7_greatest_35 : decode cX7_greatest 35 = .ok (.iload 5, 2) := by decide +kernel
theorem dX7_greatest_37 : decode cX7_greatest 37 = .ok (.ifCond .eq 26, 3) := by decide +kernel
theorem dX7_greatest_40 : decode cX7_greatest 40 = .ok (.iload_n 3, 1) := by decide +kernel
theorem dX7_greatest_41 : decode cX7_greatest 41 = .ok (.iconst (-1), 1) := by decide +kernel
theorem dX7_greatest_42 : decode cX7_greatest 42 = .ok (.if_icmp .eq 18, 3) := by decide +kernel
theorem dX7_greatest_45 : decode cX7_greatest 45 = .ok (.aload_n 0, 1) := by decide +kernel
theorem dX7_greatest_46 : decode cX7_greatest 46 = .ok (.getfield 9, 3) := by decide +kernel
theorem dX7_greatest_49 : decode cX7_greatest 49 = .ok (.iload_n 1, 1) := by decide +kernel
theorem dX7_greatest_50 : decode cX7_greatest 50 = .ok (.aaload, 1) := by decide +kernel
theorem dX7_greatest_51 : decode cX7_greatest 51 = .ok (.iload 4, 2) := by decide +kernel
theorem dX7_greatest_53 : decode cX7_greatest 53 = .ok (.iload_n 3, 1) := by decide +kernel
theorem dX7_greatest_54 : decode cX7_greatest 54 = .ok (.invokevirtual 178, 3) := by decide +kernel
theorem dX7_greatest_57 : decode cX7_greatest 57 = .ok (.ifCond .le 6, 3) := by decide +kernel
theorem dX7_greatest_60 : decode cX7_greatest 60 = .ok (.iload 4, 2) := by decide +kernel
theorem dX7_greatest_62 : decode cX7_greatest 62 = .ok (.istore_n 3, 1) := by decide +kernel
theorem dX7_greatest_63 : decode cX7_greatest 63 = .ok (.iinc 4 1, 3) := by decide +kernel
theorem dX7_greatest_66 : decode cX7_greatest 66 = .ok (.goto (-61), 3) := by decide +kernel
theorem dX7_greatest_69 : decode cX7_greatest 69 = .ok (.iload_n 3, 1) := by decide +kernel
theorem dX7_greatest_70 : decode cX7_greatest 70 = .ok (.iconst (-1), 1) := by decide +kernel
theorem dX7_greatest_71 : decode cX7_greatest 71 = .ok (.if_icmp .ne 7, 3) := by decide +kernel
theorem dX7_greatest_74 : decode cX7_greatest 74 = .ok (.iconst 0, 1) := by decide +kernel
theorem dX7_greatest_75 : decode cX7_greatest 75 = .ok (.goto 4, 3) := by decide +kernel
theorem dX7_greatest_78 : decode cX7_greatest 78 = .ok (.iload_n 3, 1) := by decide +kernel
theorem dX7_greatest_79 : decode cX7_greatest 79 = .ok (.ireturn, 1) := by decide +kernel
def wp_X7_greatest_63 (h : Nat) (x1 : Int32) (x2 : Int32) (x3 : Int32) (x4 : Int32) (S : xm_S) (g : Int32 → xm_S → Prop) (Z5 : Int32 → Int32 → Int32 → Int32 → xm_S → Prop) : Prop :=
  ∀ y1, y1 = (x4 + (1 : Int32)) → Z5 x1 x2 x3 y1 S
set_option maxRecDepth 100000 in
set_option maxHeartbeats 4000000 in
theorem kp_X7_greatest_63 {K : xm_K} (h : Nat) (x1 : Int32) (x2 : Int32) (x3 : Int32) (x4 : Int32) (S : xm_S) {g : Int32 → xm_S → Prop} {Z5 : Int32 → Int32 → Int32 → Int32 → xm_S → Prop} (C : xm_Cx K cX7_greatest RX7 6 (some (FieldType.int)) rm_X7_greatest) (N : xm_Nx K) (hg : ∀ v S, g v S → xm_q K (some (xm_i v)) S) (hZ5 : ∀ x1 x2 x3 x4 S, Z5 x1 x2 x3 x4 S → xm_W K 0 0 5 [(0, xm_r (some h)), (1, xm_i x1), (2, xm_i x2), (3, xm_i x3), (4, xm_i x4)] [] S) (h1 : wp_X7_greatest_63 h x1 x2 x3 x4 S g Z5) : xm_W K 0 0 63 [(0, xm_r (some h)), (1, xm_i x1), (2, xm_i x2), (3, xm_i x3), (4, xm_i x4)] [] S := by
  unfold wp_X7_greatest_63 at h1
  obtain ⟨y1, e2⟩ : ∃ y1, y1 = (x4 + (1 : Int32)) := ⟨_, rfl⟩
  have h1 := h1 y1 e2
  refine x_iinc (v := y1) (L' := [(4, xm_i y1), (0, xm_r (some h)), (1, xm_i x1), (2, xm_i x2), (3, xm_i x3)]) C 4 dX7_greatest_63 rfl (by rw [e2]; rfl) (by decide) rfl ?_
  refine x_goto (tgt := 5) C dX7_greatest_66 (by decide) ?_
  refine x_keep (L' := [(0, xm_r (some h)), (1, xm_i x1), (2, xm_i x2), (3, xm_i x3), (4, xm_i y1)]) C [1, 2, 3, 4, 0] rfl ?_
  exact hZ5 x1 x2 x3 y1 S h1
def wp_X7_greatest_60 (h : Nat) (x1 : Int32) (x2 : Int32) (x4 : Int32) (S : xm_S) (g : Int32 → xm_S → Prop) (Z5 : Int32 → Int32 → Int32 → Int32 → xm_S → Prop) : Prop :=
  wp_X7_greatest_63 h x1 x2 x4 x4 S g Z5
set_option maxRecDepth 100000 in
set_option maxHeartbeats 4000000 in
theorem kp_X7_greatest_60 {K : xm_K} (h : Nat) (x1 : Int32) (x2 : Int32) (x4 : Int32) (S : xm_S) {g : Int32 → xm_S → Prop} {Z5 : Int32 → Int32 → Int32 → Int32 → xm_S → Prop} (C : xm_Cx K cX7_greatest RX7 6 (some (FieldType.int)) rm_X7_greatest) (N : xm_Nx K) (hg : ∀ v S, g v S → xm_q K (some (xm_i v)) S) (hZ5 : ∀ x1 x2 x3 x4 S, Z5 x1 x2 x3 x4 S → xm_W K 0 0 5 [(0, xm_r (some h)), (1, xm_i x1), (2, xm_i x2), (3, xm_i x3), (4, xm_i x4)] [] S) (h1 : wp_X7_greatest_60 h x1 x2 x4 S g Z5) : xm_W K 0 0 60 [(0, xm_r (some h)), (1, xm_i x1), (2, xm_i x2), (4, xm_i x4)] [] S := by
  unfold wp_X7_greatest_60 at h1
  refine x_iload C 3 dX7_greatest_60 rfl ?_
  refine x_istore_n (L' := [(3, xm_i x4), (0, xm_r (some h)), (1, xm_i x1), (2, xm_i x2), (4, xm_i x4)]) C dX7_greatest_62 rfl (by decide) rfl ?_
  refine x_keep (L' := [(0, xm_r (some h)), (1, xm_i x1), (2, xm_i x2), (3, xm_i x4), (4, xm_i x4)]) C [1, 2, 3, 0, 4] rfl ?_
  exact kp_X7_greatest_63 h x1 x2 x4 x4 S C N hg hZ5 h1
def wp_X7_greatest_33 (h : Nat) (x1 : Int32) (x2 : Int32) (x3 : Int32) (x4 : Int32) (s0 : Int32) (S : xm_S) (g : Int32 → xm_S → Prop) (Z5 : Int32 → Int32 → Int32 → Int32 → xm_S → Prop) : Prop :=
  (s0 = 0 → wp_X7_greatest_63 h x1 x2 x3 x4 S g Z5) ∧ (¬ s0 = 0 → (x3 = (-1 : Int32) → wp_X7_greatest_60 h x1 x2 x4 S g Z5) ∧ (¬ x3 = (-1 : Int32) → st_t S h = some (7, 0) ∧ ∃ n4, (st_r S h 0) = some n4 ∧ ∃ z7, st_t S n4 = some (115, z7) ∧ vp_in x1 z7 ∧ ∃ n9, (st_r S n4 (x1).toNatClampNeg) = some n9 ∧ st_t S n9 = some (5, 0) ∧ wp_X5_order n9 x4 x3 S (fun r13 S12 => (r13 ≤ 0 → wp_X7_greatest_63 h x1 x2 x3 x4 S12 g Z5) ∧ (¬ r13 ≤ 0 → wp_X7_greatest_60 h x1 x2 x4 S12 g Z5))))
set_option maxRecDepth 100000 in
set_option maxHeartbeats 4000000 in
theorem kp_X7_greatest_33 {K : xm_K} (h : Nat) (x1 : Int32) (x2 : Int32) (x3 : Int32) (x4 : Int32) (s0 : Int32) (S : xm_S) {g : Int32 → xm_S → Prop} {Z5 : Int32 → Int32 → Int32 → Int32 → xm_S → Prop} (C : xm_Cx K cX7_greatest RX7 6 (some (FieldType.int)) rm_X7_greatest) (N : xm_Nx K) (hg : ∀ v S, g v S → xm_q K (some (xm_i v)) S) (hZ5 : ∀ x1 x2 x3 x4 S, Z5 x1 x2 x3 x4 S → xm_W K 0 0 5 [(0, xm_r (some h)), (1, xm_i x1), (2, xm_i x2), (3, xm_i x3), (4, xm_i x4)] [] S) (h1 : wp_X7_greatest_33 h x1 x2 x3 x4 s0 S g Z5) : xm_W K 0 0 33 [(0, xm_r (some h)), (1, xm_i x1), (2, xm_i x2), (3, xm_i x3), (4, xm_i x4)] [xm_i s0] S := by
  unfold wp_X7_greatest_33 at h1
  refine x_istore (L' := [(5, xm_i s0), (0, xm_r (some h)), (1, xm_i x1), (2, xm_i x2), (3, xm_i x3), (4, xm_i x4)]) C dX7_greatest_33 (by decide) rfl ?_
  refine x_iload C 0 dX7_greatest_35 rfl ?_
  refine x_if_eq (tgt := 63) C dX7_greatest_37 (by decide) (fun z9 => ?_) (fun z9 => ?_)
  · have h1 := h1.1 z9
    refine x_keep (L' := [(0, xm_r (some h)), (1, xm_i x1), (2, xm_i x2), (3, xm_i x3), (4, xm_i x4)]) C [1, 2, 3, 4, 5] rfl ?_
    exact kp_X7_greatest_63 h x1 x2 x3 x4 S C N hg hZ5 h1
  · have h1 := h1.2 z9
    refine x_iload_n C 4 dX7_greatest_40 rfl rfl ?_
    refine x_iconst (v := (-1 : Int32)) C dX7_greatest_41 (by decide) ?_
    refine x_icmp_eq (tgt := 60) C dX7_greatest_42 (by decide) (fun z9 => ?_) (fun z9 => ?_)
    · have h1 := h1.1 z9
      refine x_keep (L' := [(0, xm_r (some h)), (1, xm_i x1), (2, xm_i x2), (4, xm_i x4)]) C [1, 2, 3, 5] rfl ?_
      exact kp_X7_greatest_60 h x1 x2 x4 S C N hg hZ5 h1
    · have h1 := h1.2 z9
      refine x_aload_n C 1 dX7_greatest_45 rfl rfl ?_
      obtain ⟨ht3, h1⟩ := h1
      refine x_getf_r (n := h) C rfl ht3 fd_56 (by decide) dX7_greatest_46 ?_
      refine x_iload_n C 2 dX7_greatest_49 rfl rfl ?_
      obtain ⟨n4, hr5, h1⟩ := h1
      obtain ⟨z7, ht6, h1⟩ := h1
      obtain ⟨hi8, h1⟩ := h1
      refine x_aald (n := n4) C hr5 (by decide) rfl ht6 hi8 dX7_greatest_50 ?_
      refine x_iload C 5 dX7_greatest_51 rfl ?_
      refine x_iload_n C 4 dX7_greatest_53 rfl rfl ?_
      obtain ⟨n9, hr10, h1⟩ := h1
      obtain ⟨ht11, h1⟩ := h1
      refine x_callV (rm' := rm_X5_order) (n := n9) C (kp_X5_order_met h1) lk_17 gw_144 gw_145 xv_5 rfl hr10 ht11 rfl (Nat.le_of_ble_eq_true rfl) ⟨Nat.le_of_ble_eq_true rfl, Nat.le_of_ble_eq_true rfl, (Nat.le_of_ble_eq_true rfl), (Nat.le_of_ble_eq_true rfl)⟩ dX7_greatest_54 xm_kx (xm_ki (fun r13 S12 h1 => ?_))
      refine x_if_le (tgt := 63) C dX7_greatest_57 (by decide) (fun z9 => ?_) (fun z9 => ?_)
      · have h1 := h1.1 z9
        refine x_keep (L' := [(0, xm_r (some h)), (1, xm_i x1), (2, xm_i x2), (3, xm_i x3), (4, xm_i x4)]) C [1, 2, 3, 4, 5] rfl ?_
        exact kp_X7_greatest_63 h x1 x2 x3 x4 S12 C N hg hZ5 h1
      · have h1 := h1.2 z9
        refine x_keep (L' := [(0, xm_r (some h)), (1, xm_i x1), (2, xm_i x2), (4, xm_i x4)]) C [1, 2, 3, 5] rfl ?_
        exact kp_X7_greatest_60 h x1 x2 x4 S12 C N hg hZ5 h1
def wp_X7_greatest_79 (h : Nat) (s0 : Int32) (S : xm_S) (g : Int32 → xm_S → Prop) : Prop :=
  g s0 S
set_option maxRecDepth 100000 in
set_option maxHeartbeats 4000000 in
theorem kp_X7_greatest_79 {K : xm_K} (h : Nat) (s0 : Int32) (S : xm_S) {g : Int32 → xm_S → Prop} (C : xm_Cx K cX7_greatest RX7 6 (some (FieldType.int)) rm_X7_greatest) (N : xm_Nx K) (hg : ∀ v S, g v S → xm_q K (some (xm_i v)) S)  (h1 : wp_X7_greatest_79 h s0 S g) : xm_W K 0 0 79 [] [xm_i s0] S := by
  unfold wp_X7_greatest_79 at h1
  exact x_iret C (Nat.le_of_ble_eq_true rfl) (Nat.le_of_ble_eq_true rfl) rfl dX7_greatest_79 (hg _ _ h1)
def wp_X7_greatest_5B (h : Nat) (x1 : Int32) (x2 : Int32) (x3 : Int32) (x4 : Int32) (S : xm_S) (g : Int32 → xm_S → Prop) (Z5 : Int32 → Int32 → Int32 → Int32 → xm_S → Prop) : Prop :=
  st_t S h = some (7, 0) ∧ ∃ n15, (st_r S h 0) = some n15 ∧ ∃ z18, st_t S n15 = some (115, z18) ∧ vp_in x1 z18 ∧ ∃ n20, (st_r S n15 (x1).toNatClampNeg) = some n20 ∧ st_t S n20 = some (5, 0) ∧ ((st_i S n20 2) ≤ x4 → (¬ x3 = (-1 : Int32) → wp_X7_greatest_79 h x3 S g) ∧ (x3 = (-1 : Int32) → wp_X7_greatest_79 h (0 : Int32) S g)) ∧ (¬ (st_i S n20 2) ≤ x4 → (((x2 >>> (x4 &&& 31)) &&& (1 : Int32)) = 0 → wp_X7_greatest_33 h x1 x2 x3 x4 (0 : Int32) S g Z5) ∧ (¬ ((x2 >>> (x4 &&& 31)) &&& (1 : Int32)) = 0 → wp_X7_greatest_33 h x1 x2 x3 x4 (1 : Int32) S g Z5))
def wp_X7_greatest_5 (h : Nat) (x1 : Int32) (x2 : Int32) (x3 : Int32) (x4 : Int32) (S : xm_S) (g : Int32 → xm_S → Prop) : Prop :=
  ∀ Z5 : Int32 → Int32 → Int32 → Int32 → xm_S → Prop, (∀ x1 x2 x3 x4 S, wp_X7_greatest_5B h x1 x2 x3 x4 S g Z5 → Z5 x1 x2 x3 x4 S) → Z5 x1 x2 x3 x4 S
set_option maxRecDepth 100000 in
set_option maxHeartbeats 4000000 in
theorem kp_X7_greatest_5B {K : xm_K} (h : Nat) (x1 : Int32) (x2 : Int32) (x3 : Int32) (x4 : Int32) (S : xm_S) {g : Int32 → xm_S → Prop} {Z5 : Int32 → Int32 → Int32 → Int32 → xm_S → Prop} (C : xm_Cx K cX7_greatest RX7 6 (some (FieldType.int)) rm_X7_greatest) (N : xm_Nx K) (hg : ∀ v S, g v S → xm_q K (some (xm_i v)) S) (hZ5 : ∀ x1 x2 x3 x4 S, Z5 x1 x2 x3 x4 S → xm_W K 0 0 5 [(0, xm_r (some h)), (1, xm_i x1), (2, xm_i x2), (3, xm_i x3), (4, xm_i x4)] [] S) (h1 : wp_X7_greatest_5B h x1 x2 x3 x4 S g Z5) : xm_W K 0 0 5 [(0, xm_r (some h)), (1, xm_i x1), (2, xm_i x2), (3, xm_i x3), (4, xm_i x4)] [] S := by
  unfold wp_X7_greatest_5B at h1
  refine x_iload C 4 dX7_greatest_5 rfl ?_
  refine x_aload_n C 0 dX7_greatest_7 rfl rfl ?_
  obtain ⟨ht14, h1⟩ := h1
  refine x_getf_r (n := h) C rfl ht14 fd_56 (by decide) dX7_greatest_8 ?_
  refine x_iload_n C 1 dX7_greatest_11 rfl rfl ?_
  obtain ⟨n15, hr16, h1⟩ := h1
  obtain ⟨z18, ht17, h1⟩ := h1
  obtain ⟨hi19, h1⟩ := h1
  refine x_aald (n := n15) C hr16 (by decide) rfl ht17 hi19 dX7_greatest_12 ?_
  obtain ⟨n20, hr21, h1⟩ := h1
  obtain ⟨ht22, h1⟩ := h1
  refine x_getf_i (n := n20) C hr21 ht22 fd_62 (by decide) dX7_greatest_13 ?_
  refine x_icmp_ge (tgt := 69) C dX7_greatest_16 (by decide) (fun z9 => ?_) (fun z9 => ?_)
  · have h1 := h1.1 z9
    refine x_iload_n C 3 dX7_greatest_69 rfl rfl ?_
    refine x_iconst (v := (-1 : Int32)) C dX7_greatest_70 (by decide) ?_
    refine x_icmp_ne (tgt := 78) C dX7_greatest_71 (by decide) (fun z9 => ?_) (fun z9 => ?_)
    · have h1 := h1.1 z9
      refine x_iload_n C 3 dX7_greatest_78 rfl rfl ?_
      refine x_keep (L' := []) C [] rfl ?_
      exact kp_X7_greatest_79 h x3 S C N hg  h1
    · have h1 := h1.2 z9
      refine x_iconst (v := (0 : Int32)) C dX7_greatest_74 (by decide) ?_
      refine x_goto (tgt := 79) C dX7_greatest_75 (by decide) ?_
      refine x_keep (L' := []) C [] rfl ?_
      exact kp_X7_greatest_79 h (0 : Int32) S C N hg  h1
  · have h1 := h1.2 z9
    refine x_iload_n C 2 dX7_greatest_19 rfl rfl ?_
    refine x_iload C 4 dX7_greatest_20 rfl ?_
    refine x_ishr C dX7_greatest_22 ?_
    refine x_iconst (v := (1 : Int32)) C dX7_greatest_23 (by decide) ?_
    refine x_iand C dX7_greatest_24 ?_
    refine x_if_eq (tgt := 32) C dX7_greatest_25 (by decide) (fun z9 => ?_) (fun z9 => ?_)
    · have h1 := h1.1 z9
      refine x_iconst (v := (0 : Int32)) C dX7_greatest_32 (by decide) ?_
      exact kp_X7_greatest_33 h x1 x2 x3 x4 (0 : Int32) S C N hg hZ5 h1
    · have h1 := h1.2 z9
      refine x_iconst (v := (1 : Int32)) C dX7_greatest_28 (by decide) ?_
      refine x_goto (tgt := 33) C dX7_greatest_29 (by decide) ?_
      exact kp_X7_greatest_33 h x1 x2 x3 x4 (1 : Int32) S C N hg hZ5 h1
theorem kp_X7_greatest_5 {K : xm_K} (h : Nat) (x1 : Int32) (x2 : Int32) (x3 : Int32) (x4 : Int32) (S : xm_S) {g : Int32 → xm_S → Prop} (C : xm_Cx K cX7_greatest RX7 6 (some (FieldType.int)) rm_X7_greatest) (N : xm_Nx K) (hg : ∀ v S, g v S → xm_q K (some (xm_i v)) S)  (h1 : wp_X7_greatest_5 h x1 x2 x3 x4 S g) : xm_W K 0 0 5 [(0, xm_r (some h)), (1, xm_i x1), (2, xm_i x2), (3, xm_i x3), (4, xm_i x4)] [] S :=
  h1 (fun x1 x2 x3 x4 S => xm_W K 0 0 5 [(0, xm_r (some h)), (1, xm_i x1), (2, xm_i x2), (3, xm_i x3), (4, xm_i x4)] [] S) (fun x1 x2 x3 x4 S hb => kp_X7_greatest_5B h x1 x2 x3 x4 S C N hg (fun x1 x2 x3 x4 S hz => hz) hb)
def wp_X7_greatest (h : Nat) (x1 : Int32) (x2 : Int32) (S : xm_S) (g : Int32 → xm_S → Prop) : Prop :=
  wp_X7_greatest_5 h x1 x2 (-1 : Int32) (0 : Int32) S g
set_option maxRecDepth 100000 in
set_option maxHeartbeats 4000000 in
theorem kp_X7_greatest {K : xm_K} (h : Nat) (x1 : Int32) (x2 : Int32) (S : xm_S) {g : Int32 → xm_S → Prop} (C : xm_Cx K cX7_greatest RX7 6 (some (FieldType.int)) rm_X7_greatest) (N : xm_Nx K) (hg : ∀ v S, g v S → xm_q K (some (xm_i v)) S)  (h1 : wp_X7_greatest h x1 x2 S g) : xm_W K 0 0 0 [(0, xm_r (some h)), (1, xm_i x1), (2, xm_i x2)] [] S := by
  unfold wp_X7_greatest at h1
  refine x_iconst (v := (-1 : Int32)) C dX7_greatest_0 (by decide) ?_
  refine x_istore_n (L' := [(3, xm_i (-1 : Int32)), (0, xm_r (some h)), (1, xm_i x1), (2, xm_i x2)]) C dX7_greatest_1 rfl (by decide) rfl ?_
  refine x_iconst (v := (0 : Int32)) C dX7_greatest_2 (by decide) ?_
  refine x_istore (L' := [(4, xm_i (0 : Int32)), (3, xm_i (-1 : Int32)), (0, xm_r (some h)), (1, xm_i x1), (2, xm_i x2)]) C dX7_greatest_3 (by decide) rfl ?_
  refine x_keep (L' := [(0, xm_r (some h)), (1, xm_i x1), (2, xm_i x2), (3, xm_i (-1 : Int32)), (4, xm_i (0 : Int32))]) C [2, 3, 4, 1, 0] rfl ?_
  exact kp_X7_greatest_5 h x1 x2 (-1 : Int32) (0 : Int32) S C N hg  h1
theorem kp_X7_greatest_met {h : Nat} {x1 : Int32} {x2 : Int32} {S : xm_S} {g : Int32 → xm_S → Prop}  (h1 : wp_X7_greatest h x1 x2 S g) : xm_Met yX7_greatest cX7_greatest 6 (some (FieldType.int)) rm_X7_greatest [xm_r (some h), xm_i x1, xm_i x2] S (xm_qi g) xm_nox :=
  xm_ofW RX7 (by decide +kernel) rfl (Nat.le_of_ble_eq_true rfl) (fun K C N hq hx hi => kp_X7_greatest h x1 x2 S C N (fun v S h => by rw [hq]; exact ⟨v, rfl, h⟩)  h1)
def rm_X7_isSettled : Room := { frames := 1, cells := 0, slots := 0, locals := 20 }
theorem dX7_isSettled_0 : decode cX7_isSettled 0 = .ok (.aload_n 0, 1) := by decide +kernel
theorem dX7_isSettled_1 : decode cX7_isSettled 1 = .ok (.getfield 57, 3) := by decide +kernel
theorem dX7_isSettled_4 : decode cX7_isSettled 4 = .ok (.ifCond .eq 11, 3) := by decide +kernel
theorem dX7_isSettled_7 : decode cX7_isSettled 7 = .ok (.aload_n 0, 1) := by decide +kernel
theorem dX7_isSettled_8 : decode cX7_isSettled 8 = .ok (.getfield 39, 3) := by decide +kernel
theorem dX7_isSettled_11 : decode cX7_isSettled 11 = .ok (.iconst 1, 1) := by decide +kernel
theorem dX7_isSettled_12 : decode cX7_isSettled 12 = .ok (.if_icmp .ne 5, 3) := by decide +kernel
theorem dX7_isSettled_15 : decode cX7_isSettled 15 = .ok (.iconst 0, 1) := by decide +kernel
theorem dX7_isSettled_16 : decode cX7_isSettled 16 = .ok (.ireturn, 1) := by decide +kernel
theorem dX7_isSettled_17 : decode cX7_isSettled 17 = .ok (.aload_n 0, 1) := by decide +kernel
theorem dX7_isSettled_18 : decode cX7_isSettled 18 = .ok (.getfield 39, 3) := by decide +kernel
theorem dX7_isSettled_21 : decode cX7_isSettled 21 = .ok (.ifCond .eq 27, 3) := by decide +kernel
theorem dX7_isSettled_24 : decode cX7_isSettled 24 = .ok (.iload_n 1, 1) := by decide +kernel
theorem dX7_isSettled_25 : decode cX7_isSettled 25 = .ok (.aload_n 0, 1) := by decide +kernel
theorem dX7_isSettled_26 : decode cX7_isSettled 26 = .ok (.getfield 63, 3) := by decide +kernel
theorem dX7_isSettled_29 : decode cX7_isSettled 29 = .ok (.if_icmp .gt 19, 3) := by decide +kernel
theorem dX7_isSettled_32 : decode cX7_isSettled 32 = .ok (.iload_n 1, 1) := by decide +kernel
theorem dX7_isSettled_33 : decode cX7_isSettled 33 = .ok (.aload_n 0, 1) := by decide +kernel
theorem dX7_isSettled_34 : decode cX7_isSettled 34 = .ok (.getfield 63, 3) := by decide +kernel
theorem dX7_isSettled_37 : decode cX7_isSettled 37 = .ok (.if_icmp .ne 15, 3) := by decide +kernel
theorem dX7_isSettled_40 : decode cX7_isSettled 40 = .ok (.iload_n 2, 1) := by decide +kernel
theorem dX7_isSettled_41 : decode cX7_isSettled 41 = .ok (.aload_n 0, 1) := by decide +kernel
theorem dX7_isSettled_42 : decode cX7_isSettled 42 = .ok (.getfield 66, 3) := by decide +kernel
theorem dX7_isSettled_45 : decode cX7_isSettled 45 = .ok (.if_icmp .lt 7, 3) := by decide +kernel
theorem dX7_isSettled_48 : decode cX7_isSettled 48 = .ok (.iconst 1, 1) := by decide +kernel
theorem dX7_isSettled_49 : decode cX7_isSettled 49 = .ok (.goto 4, 3) := by decide +kernel
theorem dX7_isSettled_52 : decode cX7_isSettled 52 = .ok (.iconst 0, 1) := by decide +kernel
theorem dX7_isSettled_53 : decode cX7_isSettled 53 = .ok (.ireturn, 1) := by decide +kernel
def wp_X7_isSettled_15 (h : Nat)  (S : xm_S) (g : Int32 → xm_S → Prop) : Prop :=
  g (0 : Int32) S
set_option maxRecDepth 100000 in
set_option maxHeartbeats 4000000 in
theorem kp_X7_isSettled_15 {K : xm_K} (h : Nat)  (S : xm_S) {g : Int32 → xm_S → Prop} (C : xm_Cx K cX7_isSettled RX7 3 (some (FieldType.boolean)) rm_X7_isSettled) (N : xm_Nx K) (hg : ∀ v S, g v S → xm_q K (some (xm_i v)) S)  (h1 : wp_X7_isSettled_15 h  S g) : xm_W K 0 0 15 [] [] S := by
  unfold wp_X7_isSettled_15 at h1
  refine x_iconst (v := (0 : Int32)) C dX7_isSettled_15 (by decide) ?_
  exact x_zret C (Nat.le_of_ble_eq_true rfl) (Nat.le_of_ble_eq_true rfl) rfl (by decide) dX7_isSettled_16 (hg _ _ h1)
def wp_X7_isSettled_53 (h : Nat) (s0 : Int32) (S : xm_S) (g : Int32 → xm_S → Prop) : Prop :=
  (s0 = 0 ∨ s0 = 1) ∧ g s0 S
set_option maxRecDepth 100000 in
set_option maxHeartbeats 4000000 in
theorem kp_X7_isSettled_53 {K : xm_K} (h : Nat) (s0 : Int32) (S : xm_S) {g : Int32 → xm_S → Prop} (C : xm_Cx K cX7_isSettled RX7 3 (some (FieldType.boolean)) rm_X7_isSettled) (N : xm_Nx K) (hg : ∀ v S, g v S → xm_q K (some (xm_i v)) S)  (h1 : wp_X7_isSettled_53 h s0 S g) : xm_W K 0 0 53 [] [xm_i s0] S := by
  unfold wp_X7_isSettled_53 at h1
  exact x_zret C (Nat.le_of_ble_eq_true rfl) (Nat.le_of_ble_eq_true rfl) rfl h1.1 dX7_isSettled_53 (hg _ _ h1.2)
def wp_X7_isSettled_48 (h : Nat)  (S : xm_S) (g : Int32 → xm_S → Prop) : Prop :=
  wp_X7_isSettled_53 h (1 : Int32) S g
set_option maxRecDepth 100000 in
set_option maxHeartbeats 4000000 in
theorem kp_X7_isSettled_48 {K : xm_K} (h : Nat)  (S : xm_S) {g : Int32 → xm_S → Prop} (C : xm_Cx K cX7_isSettled RX7 3 (some (FieldType.boolean)) rm_X7_isSettled) (N : xm_Nx K) (hg : ∀ v S, g v S → xm_q K (some (xm_i v)) S)  (h1 : wp_X7_isSettled_48 h  S g) : xm_W K 0 0 48 [] [] S := by
  unfold wp_X7_isSettled_48 at h1
  refine x_iconst (v := (1 : Int32)) C dX7_isSettled_48 (by decide) ?_
  refine x_goto (tgt := 53) C dX7_isSettled_49 (by decide) ?_
  exact kp_X7_isSettled_53 h (1 : Int32) S C N hg  h1
def wp_X7_isSettled_52 (h : Nat)  (S : xm_S) (g : Int32 → xm_S → Prop) : Prop :=
  wp_X7_isSettled_53 h (0 : Int32) S g
set_option maxRecDepth 100000 in
set_option maxHeartbeats 4000000 in
theorem kp_X7_isSettled_52 {K : xm_K} (h : Nat)  (S : xm_S) {g : Int32 → xm_S → Prop} (C : xm_Cx K cX7_isSettled RX7 3 (some (FieldType.boolean)) rm_X7_isSettled) (N : xm_Nx K) (hg : ∀ v S, g v S → xm_q K (some (xm_i v)) S)  (h1 : wp_X7_isSettled_52 h  S g) : xm_W K 0 0 52 [] [] S := by
  unfold wp_X7_isSettled_52 at h1
  refine x_iconst (v := (0 : Int32)) C dX7_isSettled_52 (by decide) ?_
  exact kp_X7_isSettled_53 h (0 : Int32) S C N hg  h1
def wp_X7_isSettled (h : Nat) (x1 : Int32) (x2 : Int32) (S : xm_S) (g : Int32 → xm_S → Prop) : Prop :=
  st_t S h = some (7, 0) ∧ ((st_i S h 14) = 0 → wp_X7_isSettled_15 h S g) ∧ (¬ (st_i S h 14) = 0 → (¬ (st_i S h 8) = (1 : Int32) → ((st_i S h 8) = 0 → wp_X7_isSettled_48 h S g) ∧ (¬ (st_i S h 8) = 0 → ((st_i S h 16) < x1 → wp_X7_isSettled_48 h S g) ∧ (¬ (st_i S h 16) < x1 → (¬ x1 = (st_i S h 16) → wp_X7_isSettled_52 h S g) ∧ (x1 = (st_i S h 16) → (x2 < (st_i S h 17) → wp_X7_isSettled_52 h S g) ∧ (¬ x2 < (st_i S h 17) → wp_X7_isSettled_48 h S g))))) ∧ ((st_i S h 8) = (1 : Int32) → wp_X7_isSettled_15 h S g))
set_option maxRecDepth 100000 in
set_option maxHeartbeats 4000000 in
theorem kp_X7_isSettled {K : xm_K} (h : Nat) (x1 : Int32) (x2 : Int32) (S : xm_S) {g : Int32 → xm_S → Prop} (C : xm_Cx K cX7_isSettled RX7 3 (some (FieldType.boolean)) rm_X7_isSettled) (N : xm_Nx K) (hg : ∀ v S, g v S → xm_q K (some (xm_i v)) S)  (h1 : wp_X7_isSettled h x1 x2 S g) : xm_W K 0 0 0 [(0, xm_r (some h)), (1, xm_i x1), (2, xm_i x2)] [] S := by
  unfold wp_X7_isSettled at h1
  refine x_aload_n C 0 dX7_isSettled_0 rfl rfl ?_
  obtain ⟨ht1, h1⟩ := h1
  refine x_getf_i (n := h) C rfl ht1 fd_63 (by decide) dX7_isSettled_1 ?_
  refine x_if_eq (tgt := 15) C dX7_isSettled_4 (by decide) (fun z9 => ?_) (fun z9 => ?_)
  · have h1 := h1.1 z9
    refine x_keep (L' := []) C [] rfl ?_
    exact kp_X7_isSettled_15 h S C N hg  h1
  · have h1 := h1.2 z9
    refine x_aload_n C 0 dX7_isSettled_7 rfl rfl ?_
    refine x_getf_i (n := h) C rfl ht1 fd_64 (by decide) dX7_isSettled_8 ?_
    refine x_iconst (v := (1 : Int32)) C dX7_isSettled_11 (by decide) ?_
    refine x_icmp_ne (tgt := 17) C dX7_isSettled_12 (by decide) (fun z9 => ?_) (fun z9 => ?_)
    · have h1 := h1.1 z9
      refine x_aload_n C 0 dX7_isSettled_17 rfl rfl ?_
      refine x_getf_i (n := h) C rfl ht1 fd_64 (by decide) dX7_isSettled_18 ?_
      refine x_if_eq (tgt := 48) C dX7_isSettled_21 (by decide) (fun z9 => ?_) (fun z9 => ?_)
      · have h1 := h1.1 z9
        refine x_keep (L' := []) C [] rfl ?_
        exact kp_X7_isSettled_48 h S C N hg  h1
      · have h1 := h1.2 z9
        refine x_iload_n C 1 dX7_isSettled_24 rfl rfl ?_
        refine x_aload_n C 0 dX7_isSettled_25 rfl rfl ?_
        refine x_getf_i (n := h) C rfl ht1 fd_65 (by decide) dX7_isSettled_26 ?_
        refine x_icmp_gt (tgt := 48) C dX7_isSettled_29 (by decide) (fun z9 => ?_) (fun z9 => ?_)
        · have h1 := h1.1 z9
          refine x_keep (L' := []) C [] rfl ?_
          exact kp_X7_isSettled_48 h S C N hg  h1
        · have h1 := h1.2 z9
          refine x_iload_n C 1 dX7_isSettled_32 rfl rfl ?_
          refine x_aload_n C 0 dX7_isSettled_33 rfl rfl ?_
          refine x_getf_i (n := h) C rfl ht1 fd_65 (by decide) dX7_isSettled_34 ?_
          refine x_icmp_ne (tgt := 52) C dX7_isSettled_37 (by decide) (fun z9 => ?_) (fun z9 => ?_)
          · have h1 := h1.1 z9
            refine x_keep (L' := []) C [] rfl ?_
            exact kp_X7_isSettled_52 h S C N hg  h1
          · have h1 := h1.2 z9
            refine x_iload_n C 2 dX7_isSettled_40 rfl rfl ?_
            refine x_aload_n C 0 dX7_isSettled_41 rfl rfl ?_
            refine x_getf_i (n := h) C rfl ht1 fd_66 (by decide) dX7_isSettled_42 ?_
            refine x_icmp_lt (tgt := 52) C dX7_isSettled_45 (by decide) (fun z9 => ?_) (fun z9 => ?_)
            · have h1 := h1.1 z9
              refine x_keep (L' := []) C [] rfl ?_
              exact kp_X7_isSettled_52 h S C N hg  h1
            · have h1 := h1.2 z9
              refine x_keep (L' := []) C [] rfl ?_
              exact kp_X7_isSettled_48 h S C N hg  h1
    · have h1 := h1.2 z9
      refine x_keep (L' := []) C [] rfl ?_
      exact kp_X7_isSettled_15 h S C N hg  h1
theorem kp_X7_isSettled_met {h : Nat} {x1 : Int32} {x2 : Int32} {S : xm_S} {g : Int32 → xm_S → Prop}  (h1 : wp_X7_isSettled h x1 x2 S g) : xm_Met yX7_isSettled cX7_isSettled 3 (some (FieldType.boolean)) rm_X7_isSettled [xm_r (some h), xm_i x1, xm_i x2] S (xm_qi g) xm_nox :=
  xm_ofW RX7 (by decide +kernel) rfl (Nat.le_of_ble_eq_true rfl) (fun K C N hq hx hi => kp_X7_isSettled h x1 x2 S C N (fun v S h => by rw [hq]; exact ⟨v, rfl, h⟩)  h1)
def rm_X7_record : Room := { frames := 1, cells := 0, slots := 0, locals := 20 }
theorem dX7_record_0 : decode cX7_record 0 = .ok (.aload_n 0, 1) := by decide +kernel
theorem dX7_record_1 : decode cX7_record 1 = .ok (.dup, 1) := by decide +kernel
theorem dX7_record_2 : decode cX7_record 2 = .ok (.getfield 57, 3) := by decide +kernel
theorem dX7_record_5 : decode cX7_record 5 = .ok (.iconst 1, 1) := by decide +kernel
theorem dX7_record_6 : decode cX7_record 6 = .ok (.iadd, 1) := by decide +kernel
theorem dX7_record_7 : decode cX7_record 7 = .ok (.putfield 57, 3) := by decide +kernel
theorem dX7_record_10 : decode cX7_record 10 = .ok (.aload_n 0, 1) := by decide +kernel
theorem dX7_record_11 : decode cX7_record 11 = .ok (.iload_n 1, 1) := by decide +kernel
theorem dX7_record_12 : decode cX7_record 12 = .ok (.putfield 63, 3) := by decide +kernel
theorem dX7_record_15 : decode cX7_record 15 = .ok (.aload_n 0, 1) := by decide +kernel
theorem dX7_record_16 : decode cX7_record 16 = .ok (.iload_n 2, 1) := by decide +kernel
theorem dX7_record_17 : decode cX7_record 17 = .ok (.putfield 66, 3) := by decide +kernel
theorem dX7_record_20 : decode cX7_record 20 = .ok (.iconst 0, 1) := by decide +kernel
theorem dX7_record_21 : decode cX7_record 21 = .ok (.istore_n 3, 1) := by decide +kernel
theorem dX7_record_22 : decode cX7_record 22 = .ok (.iload_n 3, 1) := by decide +kernel
theorem dX7_record_23 : decode cX7_record 23 = .ok (.bipush 6, 2) := by decide +kernel
theorem dX7_record_25 : decode cX7_record 25 = .ok (.if_icmp .ge 21, 3) := by decide +kernel
theorem dX7_record_28 : decode cX7_record 28 = .ok (.aload_n 0, 1) := by decide +kernel
theorem dX7_record_29 : decode cX7_record 29 = .ok (.getfield 60, 3) := by decide +kernel
theorem dX7_record_32 : decode cX7_record 32 = .ok (.iload_n 3, 1) := by decide +kernel
theorem dX7_record_33 : decode cX7_record 33 = .ok (.aload_n 0, 1) := by decide +kernel
theorem dX7_record_34 : decode cX7_record 34 = .ok (.getfield 45, 3) := by decide +kernel
theorem dX7_record_37 : decode cX7_record 37 = .ok (.iload_n 3, 1) := by decide +kernel
theorem dX7_record_38 : decode cX7_record 38 = .ok (.iaload, 1) := by decide +kernel
theorem dX7_record_39 : decode cX7_record 39 = .ok (.iastore, 1) := by decide +kernel
theorem dX7_record_40 : decode cX7_record 40 = .ok (.iinc 3 1, 3) := by decide +kernel
theorem dX7_record_43 : decode cX7_record 43 = .ok (.goto (-21), 3) := by decide +kernel
theorem dX7_record_46 : decode cX7_record 46 = .ok (.return_, 1) := by decide +kernel
def wp_X7_record_22B (h : Nat) (x3 : Int32) (S : xm_S) (g : xm_S → Prop) (Z22 : Int32 → xm_S → Prop) : Prop :=
  ((nI 6) ≤ x3 → g S) ∧ (¬ (nI 6) ≤ x3 → st_t S h = some (7, 0) ∧ ∃ n2, (st_r S h 10) = some n2 ∧ ∃ z5, st_t S n2 = some (100, z5) ∧ vp_in x3 z5 ∧ ∃ n7, (st_r S h 15) = some n7 ∧ ∃ z10, st_t S n7 = some (100, z10) ∧ vp_in x3 z10 ∧ ∀ S12, S12 = st_pi S n7 (x3).toNatClampNeg (st_i S n2 (x3).toNatClampNeg) → ∀ y14, y14 = (x3 + (1 : Int32)) → Z22 y14 S12)
def wp_X7_record_22 (h : Nat) (x3 : Int32) (S : xm_S) (g : xm_S → Prop) : Prop :=
  ∀ Z22 : Int32 → xm_S → Prop, (∀ x3 S, wp_X7_record_22B h x3 S g Z22 → Z22 x3 S) → Z22 x3 S
set_option maxRecDepth 100000 in
set_option maxHeartbeats 4000000 in
theorem kp_X7_record_22B {K : xm_K} (h : Nat) (x3 : Int32) (S : xm_S) {g : xm_S → Prop} {Z22 : Int32 → xm_S → Prop} (C : xm_Cx K cX7_record RX7 4 none rm_X7_record) (N : xm_Nx K) (hg : ∀ S, g S → xm_q K none S) (hZ22 : ∀ x3 S, Z22 x3 S → xm_W K 0 0 22 [(0, xm_r (some h)), (3, xm_i x3)] [] S) (h1 : wp_X7_record_22B h x3 S g Z22) : xm_W K 0 0 22 [(0, xm_r (some h)), (3, xm_i x3)] [] S := by
  unfold wp_X7_record_22B at h1
  refine x_iload_n C 1 dX7_record_22 rfl rfl ?_
  refine x_bipush (v := (nI 6)) C dX7_record_23 (by decide) ?_
  refine x_icmp_ge (tgt := 46) C dX7_record_25 (by decide) (fun z9 => ?_) (fun z9 => ?_)
  · have h1 := h1.1 z9
    exact x_vret C (Nat.le_of_ble_eq_true rfl) (Nat.le_of_ble_eq_true rfl) rfl dX7_record_46 (hg _ h1)
  · have h1 := h1.2 z9
    refine x_aload_n C 0 dX7_record_28 rfl rfl ?_
    obtain ⟨ht1, h1⟩ := h1
    refine x_getf_r (n := h) C rfl ht1 fd_67 (by decide) dX7_record_29 ?_
    refine x_iload_n C 1 dX7_record_32 rfl rfl ?_
    refine x_aload_n C 0 dX7_record_33 rfl rfl ?_
    refine x_getf_r (n := h) C rfl ht1 fd_58 (by decide) dX7_record_34 ?_
    refine x_iload_n C 1 dX7_record_37 rfl rfl ?_
    obtain ⟨n2, hr3, h1⟩ := h1
    obtain ⟨z5, ht4, h1⟩ := h1
    obtain ⟨hi6, h1⟩ := h1
    refine x_iald (n := n2) C hr3 ht4 hi6 dX7_record_38 ?_
    obtain ⟨n7, hr8, h1⟩ := h1
    obtain ⟨z10, ht9, h1⟩ := h1
    obtain ⟨hi11, h1⟩ := h1
    refine x_iast (n := n7) C hr8 ht9 hi11 dX7_record_39 ?_
    refine x_topS (fun S12 e13 => ?_)
    have h1 := h1 S12 e13
    obtain ⟨y14, e15⟩ : ∃ y14, y14 = (x3 + (1 : Int32)) := ⟨_, rfl⟩
    have h1 := h1 y14 e15
    refine x_iinc (v := y14) (L' := [(3, xm_i y14), (0, xm_r (some h))]) C 1 dX7_record_40 rfl (by rw [e15]; rfl) (by decide) rfl ?_
    refine x_goto (tgt := 22) C dX7_record_43 (by decide) ?_
    refine x_keep (L' := [(0, xm_r (some h)), (3, xm_i y14)]) C [1, 0] rfl ?_
    exact hZ22 y14 S12 h1
theorem kp_X7_record_22 {K : xm_K} (h : Nat) (x3 : Int32) (S : xm_S) {g : xm_S → Prop} (C : xm_Cx K cX7_record RX7 4 none rm_X7_record) (N : xm_Nx K) (hg : ∀ S, g S → xm_q K none S)  (h1 : wp_X7_record_22 h x3 S g) : xm_W K 0 0 22 [(0, xm_r (some h)), (3, xm_i x3)] [] S :=
  h1 (fun x3 S => xm_W K 0 0 22 [(0, xm_r (some h)), (3, xm_i x3)] [] S) (fun x3 S hb => kp_X7_record_22B h x3 S C N hg (fun x3 S hz => hz) hb)
def wp_X7_record (h : Nat) (x1 : Int32) (x2 : Int32) (S : xm_S) (g : xm_S → Prop) : Prop :=
  st_t S h = some (7, 0) ∧ ∀ S17, S17 = st_pi S h 14 ((st_i S h 14) + (1 : Int32)) → ∀ S19, S19 = st_pi S17 h 16 x1 → ∀ S21, S21 = st_pi S19 h 17 x2 → wp_X7_record_22 h (0 : Int32) S21 g
set_option maxRecDepth 100000 in
set_option maxHeartbeats 4000000 in
theorem kp_X7_record {K : xm_K} (h : Nat) (x1 : Int32) (x2 : Int32) (S : xm_S) {g : xm_S → Prop} (C : xm_Cx K cX7_record RX7 4 none rm_X7_record) (N : xm_Nx K) (hg : ∀ S, g S → xm_q K none S)  (h1 : wp_X7_record h x1 x2 S g) : xm_W K 0 0 0 [(0, xm_r (some h)), (1, xm_i x1), (2, xm_i x2)] [] S := by
  unfold wp_X7_record at h1
  refine x_aload_n C 0 dX7_record_0 rfl rfl ?_
  refine x_dup_r C dX7_record_1 ?_
  obtain ⟨ht16, h1⟩ := h1
  refine x_getf_i (n := h) C rfl ht16 fd_63 (by decide) dX7_record_2 ?_
  refine x_iconst (v := (1 : Int32)) C dX7_record_5 (by decide) ?_
  refine x_iadd C dX7_record_6 ?_
  refine x_putf_i (n := h) C rfl ht16 fd_63 xc_7 (by decide) rfl ⟨rfl, rfl⟩ dX7_record_7 ?_
  refine x_topS (fun S17 e18 => ?_)
  have h1 := h1 S17 e18
  refine x_aload_n C 0 dX7_record_10 rfl rfl ?_
  refine x_iload_n C 1 dX7_record_11 rfl rfl ?_
  refine x_putf_i (n := h) C rfl (tk_p e18 ht16) fd_65 xc_7 (by decide) rfl ⟨rfl, rfl⟩ dX7_record_12 ?_
  refine x_topS (fun S19 e20 => ?_)
  have h1 := h1 S19 e20
  refine x_aload_n C 0 dX7_record_15 rfl rfl ?_
  refine x_iload_n C 2 dX7_record_16 rfl rfl ?_
  refine x_putf_i (n := h) C rfl (tk_p e20 (tk_p e18 ht16)) fd_66 xc_7 (by decide) rfl ⟨rfl, rfl⟩ dX7_record_17 ?_
  refine x_topS (fun S21 e22 => ?_)
  have h1 := h1 S21 e22
  refine x_iconst (v := (0 : Int32)) C dX7_record_20 (by decide) ?_
  refine x_istore_n (L' := [(3, xm_i (0 : Int32)), (0, xm_r (some h)), (1, xm_i x1), (2, xm_i x2)]) C dX7_record_21 rfl (by decide) rfl ?_
  refine x_keep (L' := [(0, xm_r (some h)), (3, xm_i (0 : Int32))]) C [1, 0] rfl ?_
  exact kp_X7_record_22 h (0 : Int32) S21 C N hg  h1
theorem kp_X7_record_met {h : Nat} {x1 : Int32} {x2 : Int32} {S : xm_S} {g : xm_S → Prop}  (h1 : wp_X7_record h x1 x2 S g) : xm_Met yX7_record cX7_record 4 none rm_X7_record [xm_r (some h), xm_i x1, xm_i x2] S (xm_qv g) xm_nox :=
  xm_ofW RX7 (by decide +kernel) rfl (Nat.le_of_ble_eq_true rfl) (fun K C N hq hx hi => kp_X7_record h x1 x2 S C N (fun S h => by rw [hq]; exact ⟨rfl, h⟩)  h1)
def rm_X7_init : Room := { frames := 1, cells := 5, slots := 49, locals := 20 }
theorem dX7_init_0 : decode cX7_init 0 = .ok (.aload_n 0, 1) := by decide +kernel
theorem dX7_init_1 : decode cX7_init 1 = .ok (.invokespecial 3, 3) := by decide +kernel
theorem dX7_init_4 : decode cX7_init 4 = .ok (.aload_n 0, 1) := by decide +kernel
theorem dX7_init_5 : decode cX7_init 5 = .ok (.aconst_null, 1) := by decide +kernel
theorem dX7_init_6 : decode cX7_init 6 = .ok (.putfield 9, 3) := by decide +kernel
theorem dX7_init_9 : decode cX7_init 9 = .ok (.aload_n 0, 1) := by decide +kernel
theorem dX7_init_10 : decode cX7_init 10 = .ok (.aconst_null, 1) := by decide +kernel
theorem dX7_init_11 : decode cX7_init 11 = .ok (.putfield 15, 3) := by decide +kernel
theorem dX7_init_14 : decode cX7_init 14 = .ok (.aload_n 0, 1) := by decide +kernel
theorem dX7_init_15 : decode cX7_init 15 = .ok (.iconst 0, 1) := by decide +kernel
theorem dX7_init_16 : decode cX7_init 16 = .ok (.putfield 19, 3) := by decide +kernel
theorem dX7_init_19 : decode cX7_init 19 = .ok (.aload_n 0, 1) := by decide +kernel
theorem dX7_init_20 : decode cX7_init 20 = .ok (.iconst 0, 1) := by decide +kernel
theorem dX7_init_21 : decode cX7_init 21 = .ok (.putfield 23, 3) := by decide +kernel
theorem dX7_init_24 : decode cX7_init 24 = .ok (.aload_n 0, 1) := by decide +kernel
theorem dX7_init_25 : decode cX7_init 25 = .ok (.bipush 24, 2) := by decide +kernel
theorem dX7_init_27 : decode cX7_init 27 = .ok (.newarray .int, 2) := by decide +kernel
theorem dX7_init_29 : decode cX7_init 29 = .ok (.putfield 26, 3) := by decide +kernel
theorem dX7_init_32 : decode cX7_init 32 = .ok (.aload_n 0, 1) := by decide +kernel
theorem dX7_init_33 : decode cX7_init 33 = .ok (.bipush 6, 2) := by decide +kernel
theorem dX7_init_35 : decode cX7_init 35 = .ok (.newarray .int, 2) := by decide +kernel
theorem dX7_init_37 : decode cX7_init 37 = .ok (.putfield 30, 3) := by decide +kernel
theorem dX7_init_40 : decode cX7_init 40 = .ok (.aload_n 0, 1) := by decide +kernel
theorem dX7_init_41 : decode cX7_init 41 = .ok (.iconst 0, 1) := by decide +kernel
theorem dX7_init_42 : decode cX7_init 42 = .ok (.putfield 33, 3) := by decide +kernel
theorem dX7_init_45 : decode cX7_init 45 = .ok (.aload_n 0, 1) := by decide +kernel
theorem dX7_init_46 : decode cX7_init 46 = .ok (.iconst 0, 1) := by decide +kernel
theorem dX7_init_47 : decode cX7_init 47 = .ok (.putfield 36, 3) := by decide +kernel
theorem dX7_init_50 : decode cX7_init 50 = .ok (.aload_n 0, 1) := by decide +kernel
theorem dX7_init_51 : decode cX7_init 51 = .ok (.iconst 0, 1) := by decide +kernel
theorem dX7_init_52 : decode cX7_init 52 = .ok (.putfield 39, 3) := by decide +kernel
theorem dX7_init_55 : decode cX7_init 55 = .ok (.aload_n 0, 1) := by decide +kernel
theorem dX7_init_56 : decode cX7_init 56 = .ok (.bipush 7, 2) := by decide +kernel
theorem dX7_init_58 : decode cX7_init 58 = .ok (.newarray .int, 2) := by decide +kernel
theorem dX7_init_60 : decode cX7_init 60 = .ok (.putfield 42, 3) := by decide +kernel
theorem dX7_init_63 : decode cX7_init 63 = .ok (.aload_n 0, 1) := by decide +kernel
theorem dX7_init_64 : decode cX7_init 64 = .ok (.bipush 6, 2) := by decide +kernel
theorem dX7_init_66 : decode cX7_init 66 = .ok (.newarray .int, 2) := by decide +kernel
theorem dX7_init_68 : decode cX7_init 68 = .ok (.putfield 45, 3) := by decide +kernel
theorem dX7_init_71 : decode cX7_init 71 = .ok (.aload_n 0, 1) := by decide +kernel
theorem dX7_init_72 : decode cX7_init 72 = .ok (.iconst 0, 1) := by decide +kernel
theorem dX7_init_73 : decode cX7_init 73 = .ok (.putfield 48, 3) := by decide +kernel
theorem dX7_init_76 : decode cX7_init 76 = .ok (.aload_n 0, 1) := by decide +kernel
theorem dX7_init_77 : decode cX7_init 77 = .ok (.iconst 0, 1) := by decide +kernel
theorem dX7_init_78 : decode cX7_init 78 = .ok (.putfield 51, 3) := by decide +kernel
theorem dX7_init_81 : decode cX7_init 81 = .ok (.aload_n 0, 1) := by decide +kernel
theorem dX7_init_82 : decode cX7_init 82 = .ok (.iconst 0, 1) := by decide +kernel
theorem dX7_init_83 : decode cX7_init 83 = .ok (.putfield 54, 3) := by decide +kernel
theorem dX7_init_86 : decode cX7_init 86 = .ok (.aload_n 0, 1) := by decide +kernel
theorem dX7_init_87 : decode cX7_init 87 = .ok (.iconst 0, 1) := by decide +kernel
theorem dX7_init_88 : decode cX7_init 88 = .ok (.putfield 57, 3) := by decide +kernel
theorem dX7_init_91 : decode cX7_init 91 = .ok (.aload_n 0, 1) := by decide +kernel
theorem dX7_init_92 : decode cX7_init 92 = .ok (.bipush 6, 2) := by decide +kernel
theorem dX7_init_94 : decode cX7_init 94 = .ok (.newarray .int, 2) := by decide +kernel
theorem dX7_init_96 : decode cX7_init 96 = .ok (.putfield 60, 3) := by decide +kernel
theorem dX7_init_99 : decode cX7_init 99 = .ok (.aload_n 0, 1) := by decide +kernel
theorem dX7_init_100 : decode cX7_init 100 = .ok (.iconst 0, 1) := by decide +kernel
theorem dX7_init_101 : decode cX7_init 101 = .ok (.putfield 63, 3) := by decide +kernel
theorem dX7_init_104 : decode cX7_init 104 = .ok (.aload_n 0, 1) := by decide +kernel
theorem dX7_init_105 : decode cX7_init 105 = .ok (.iconst 0, 1) := by decide +kernel
theorem dX7_init_106 : decode cX7_init 106 = .ok (.putfield 66, 3) := by decide +kernel
theorem dX7_init_109 : decode cX7_init 109 = .ok (.return_, 1) := by decide +kernel
def wp_X7_init (h : Nat)  (S : xm_S) (g : xm_S → Prop) : Prop :=
  st_t S h = some (7, 0) ∧ ∀ S2, S2 = st_pr S h 0 none → ∀ S4, S4 = st_pr S2 h 1 none → ∀ S6, S6 = st_pi S4 h 2 (0 : Int32) → ∀ S8, S8 = st_pi S6 h 3 (0 : Int32) → ∃ n10, st_t S8 n10 = none ∧ ∀ S12, S12 = st_nw S8 n10 (100, 24) → ∀ S14, S14 = st_pr S12 h 4 (some n10) → ∃ n16, st_t S14 n16 = none ∧ ∀ S18, S18 = st_nw S14 n16 (100, 6) → ∀ S20, S20 = st_pr S18 h 5 (some n16) → ∀ S22, S22 = st_pi S20 h 6 (0 : Int32) → ∀ S24, S24 = st_pi S22 h 7 (0 : Int32) → ∀ S26, S26 = st_pi S24 h 8 (0 : Int32) → ∃ n28, st_t S26 n28 = none ∧ ∀ S30, S30 = st_nw S26 n28 (100, 7) → ∀ S32, S32 = st_pr S30 h 9 (some n28) → ∃ n34, st_t S32 n34 = none ∧ ∀ S36, S36 = st_nw S32 n34 (100, 6) → ∀ S38, S38 = st_pr S36 h 10 (some n34) → ∀ S40, S40 = st_pi S38 h 11 (0 : Int32) → ∀ S42, S42 = st_pi S40 h 12 (0 : Int32) → ∀ S44, S44 = st_pi S42 h 13 (0 : Int32) → ∀ S46, S46 = st_pi S44 h 14 (0 : Int32) → ∃ n48, st_t S46 n48 = none ∧ ∀ S50, S50 = st_nw S46 n48 (100, 6) → ∀ S52, S52 = st_pr S50 h 15 (some n48) → ∀ S54, S54 = st_pi S52 h 16 (0 : Int32) → ∀ S56, S56 = st_pi S54 h 17 (0 : Int32) → g S56
set_option maxRecDepth 100000 in
set_option maxHeartbeats 4000000 in
theorem kp_X7_init {K : xm_K} (h : Nat)  (S : xm_S) {g : xm_S → Prop} (C : xm_Cx K cX7_init RX7 1 none rm_X7_init) (N : xm_Nx K) (hini : xm_init K) (hg : ∀ S, g S → xm_q K none S)  (h1 : wp_X7_init h  S g) : xm_W K 0 0 0 [(0, xm_r (some h))] [] S := by
  unfold wp_X7_init at h1
  refine x_aload_n C 0 dX7_init_0 rfl rfl ?_
  refine x_objInit (n := h) C rfl gw_152 (Nat.le_of_ble_eq_true rfl) (Nat.le_of_ble_eq_true rfl) (Nat.le_of_ble_eq_true rfl) dX7_init_1 gw_1 gw_2 ?_
  refine x_aload_n C 0 dX7_init_4 rfl rfl ?_
  refine x_null C dX7_init_5 ?_
  obtain ⟨ht1, h1⟩ := h1
  refine x_putf_r (n := h) C rfl ht1 fd_56 xc_7 (by decide) rfl (xm_nr rfl) dX7_init_6 ?_
  refine x_topS (fun S2 e3 => ?_)
  have h1 := h1 S2 e3
  refine x_aload_n C 0 dX7_init_9 rfl rfl ?_
  refine x_null C dX7_init_10 ?_
  refine x_putf_r (n := h) C rfl (tk_p e3 ht1) fd_61 xc_7 (by decide) rfl (xm_nr rfl) dX7_init_11 ?_
  refine x_topS (fun S4 e5 => ?_)
  have h1 := h1 S4 e5
  refine x_aload_n C 0 dX7_init_14 rfl rfl ?_
  refine x_iconst (v := (0 : Int32)) C dX7_init_15 (by decide) ?_
  refine x_putf_i (n := h) C rfl (tk_p e5 (tk_p e3 ht1)) fd_59 xc_7 (by decide) rfl ⟨rfl, rfl⟩ dX7_init_16 ?_
  refine x_topS (fun S6 e7 => ?_)
  have h1 := h1 S6 e7
  refine x_aload_n C 0 dX7_init_19 rfl rfl ?_
  refine x_iconst (v := (0 : Int32)) C dX7_init_20 (by decide) ?_
  refine x_putf_i (n := h) C rfl (tk_p e7 (tk_p e5 (tk_p e3 ht1))) fd_52 xc_7 (by decide) rfl ⟨rfl, rfl⟩ dX7_init_21 ?_
  refine x_topS (fun S8 e9 => ?_)
  have h1 := h1 S8 e9
  refine x_aload_n C 0 dX7_init_24 rfl rfl ?_
  refine x_bipush (v := (nI 24)) C dX7_init_25 (by decide) ?_
  obtain ⟨n10, hn11, h1⟩ := h1
  refine x_newa_i (n := n10) (len := 24) C gw_11 (by decide) (by decide) hn11 (Nat.le_of_ble_eq_true rfl) (Nat.le_of_ble_eq_true rfl) dX7_init_27 ?_
  refine x_topS (fun S12 e13 => ?_)
  have h1 := h1 S12 e13
  refine x_putfF_r (n := h) C rfl (tk_n e13 hn11 (tk_p e9 (tk_p e7 (tk_p e5 (tk_p e3 ht1))))) fd_68 xc_7 (by decide) rfl hini rfl (xm_nr rfl) dX7_init_29 ?_
  refine x_topS (fun S14 e15 => ?_)
  have h1 := h1 S14 e15
  refine x_aload_n C 0 dX7_init_32 rfl rfl ?_
  refine x_bipush (v := (nI 6)) C dX7_init_33 (by decide) ?_
  obtain ⟨n16, hn17, h1⟩ := h1
  refine x_newa_i (n := n16) (len := 6) C gw_11 (by decide) (by decide) hn17 (Nat.le_of_ble_eq_true rfl) (Nat.le_of_ble_eq_true rfl) dX7_init_35 ?_
  refine x_topS (fun S18 e19 => ?_)
  have h1 := h1 S18 e19
  refine x_putfF_r (n := h) C rfl (tk_n e19 hn17 (tk_p e15 (tk_n e13 hn11 (tk_p e9 (tk_p e7 (tk_p e5 (tk_p e3 ht1))))))) fd_69 xc_7 (by decide) rfl hini rfl (xm_nr rfl) dX7_init_37 ?_
  refine x_topS (fun S20 e21 => ?_)
  have h1 := h1 S20 e21
  refine x_aload_n C 0 dX7_init_40 rfl rfl ?_
  refine x_iconst (v := (0 : Int32)) C dX7_init_41 (by decide) ?_
  refine x_putf_i (n := h) C rfl (tk_p e21 (tk_n e19 hn17 (tk_p e15 (tk_n e13 hn11 (tk_p e9 (tk_p e7 (tk_p e5 (tk_p e3 ht1)))))))) fd_70 xc_7 (by decide) rfl ⟨rfl, rfl⟩ dX7_init_42 ?_
  refine x_topS (fun S22 e23 => ?_)
  have h1 := h1 S22 e23
  refine x_aload_n C 0 dX7_init_45 rfl rfl ?_
  refine x_iconst (v := (0 : Int32)) C dX7_init_46 (by decide) ?_
  refine x_putf_i (n := h) C rfl (tk_p e23 (tk_p e21 (tk_n e19 hn17 (tk_p e15 (tk_n e13 hn11 (tk_p e9 (tk_p e7 (tk_p e5 (tk_p e3 ht1))))))))) fd_60 xc_7 (by decide) rfl ⟨rfl, rfl⟩ dX7_init_47 ?_
  refine x_topS (fun S24 e25 => ?_)
  have h1 := h1 S24 e25
  refine x_aload_n C 0 dX7_init_50 rfl rfl ?_
  refine x_iconst (v := (0 : Int32)) C dX7_init_51 (by decide) ?_
  refine x_putf_i (n := h) C rfl (tk_p e25 (tk_p e23 (tk_p e21 (tk_n e19 hn17 (tk_p e15 (tk_n e13 hn11 (tk_p e9 (tk_p e7 (tk_p e5 (tk_p e3 ht1)))))))))) fd_64 xc_7 (by decide) rfl ⟨rfl, rfl⟩ dX7_init_52 ?_
  refine x_topS (fun S26 e27 => ?_)
  have h1 := h1 S26 e27
  refine x_aload_n C 0 dX7_init_55 rfl rfl ?_
  refine x_bipush (v := (nI 7)) C dX7_init_56 (by decide) ?_
  obtain ⟨n28, hn29, h1⟩ := h1
  refine x_newa_i (n := n28) (len := 7) C gw_11 (by decide) (by decide) hn29 (Nat.le_of_ble_eq_true rfl) (Nat.le_of_ble_eq_true rfl) dX7_init_58 ?_
  refine x_topS (fun S30 e31 => ?_)
  have h1 := h1 S30 e31
  refine x_putfF_r (n := h) C rfl (tk_n e31 hn29 (tk_p e27 (tk_p e25 (tk_p e23 (tk_p e21 (tk_n e19 hn17 (tk_p e15 (tk_n e13 hn11 (tk_p e9 (tk_p e7 (tk_p e5 (tk_p e3 ht1)))))))))))) fd_71 xc_7 (by decide) rfl hini rfl (xm_nr rfl) dX7_init_60 ?_
  refine x_topS (fun S32 e33 => ?_)
  have h1 := h1 S32 e33
  refine x_aload_n C 0 dX7_init_63 rfl rfl ?_
  refine x_bipush (v := (nI 6)) C dX7_init_64 (by decide) ?_
  obtain ⟨n34, hn35, h1⟩ := h1
  refine x_newa_i (n := n34) (len := 6) C gw_11 (by decide) (by decide) hn35 (Nat.le_of_ble_eq_true rfl) (Nat.le_of_ble_eq_true rfl) dX7_init_66 ?_
  refine x_topS (fun S36 e37 => ?_)
  have h1 := h1 S36 e37
  refine x_putfF_r (n := h) C rfl (tk_n e37 hn35 (tk_p e33 (tk_n e31 hn29 (tk_p e27 (tk_p e25 (tk_p e23 (tk_p e21 (tk_n e19 hn17 (tk_p e15 (tk_n e13 hn11 (tk_p e9 (tk_p e7 (tk_p e5 (tk_p e3 ht1)))))))))))))) fd_58 xc_7 (by decide) rfl hini rfl (xm_nr rfl) dX7_init_68 ?_
  refine x_topS (fun S38 e39 => ?_)
  have h1 := h1 S38 e39
  refine x_aload_n C 0 dX7_init_71 rfl rfl ?_
  refine x_iconst (v := (0 : Int32)) C dX7_init_72 (by decide) ?_
  refine x_putf_i (n := h) C rfl (tk_p e39 (tk_n e37 hn35 (tk_p e33 (tk_n e31 hn29 (tk_p e27 (tk_p e25 (tk_p e23 (tk_p e21 (tk_n e19 hn17 (tk_p e15 (tk_n e13 hn11 (tk_p e9 (tk_p e7 (tk_p e5 (tk_p e3 ht1))))))))))))))) fd_72 xc_7 (by decide) rfl ⟨rfl, rfl⟩ dX7_init_73 ?_
  refine x_topS (fun S40 e41 => ?_)
  have h1 := h1 S40 e41
  refine x_aload_n C 0 dX7_init_76 rfl rfl ?_
  refine x_iconst (v := (0 : Int32)) C dX7_init_77 (by decide) ?_
  refine x_putf_i (n := h) C rfl (tk_p e41 (tk_p e39 (tk_n e37 hn35 (tk_p e33 (tk_n e31 hn29 (tk_p e27 (tk_p e25 (tk_p e23 (tk_p e21 (tk_n e19 hn17 (tk_p e15 (tk_n e13 hn11 (tk_p e9 (tk_p e7 (tk_p e5 (tk_p e3 ht1)))))))))))))))) fd_47 xc_7 (by decide) rfl ⟨rfl, rfl⟩ dX7_init_78 ?_
  refine x_topS (fun S42 e43 => ?_)
  have h1 := h1 S42 e43
  refine x_aload_n C 0 dX7_init_81 rfl rfl ?_
  refine x_iconst (v := (0 : Int32)) C dX7_init_82 (by decide) ?_
  refine x_putf_i (n := h) C rfl (tk_p e43 (tk_p e41 (tk_p e39 (tk_n e37 hn35 (tk_p e33 (tk_n e31 hn29 (tk_p e27 (tk_p e25 (tk_p e23 (tk_p e21 (tk_n e19 hn17 (tk_p e15 (tk_n e13 hn11 (tk_p e9 (tk_p e7 (tk_p e5 (tk_p e3 ht1))))))))))))))))) fd_48 xc_7 (by decide) rfl ⟨rfl, rfl⟩ dX7_init_83 ?_
  refine x_topS (fun S44 e45 => ?_)
  have h1 := h1 S44 e45
  refine x_aload_n C 0 dX7_init_86 rfl rfl ?_
  refine x_iconst (v := (0 : Int32)) C dX7_init_87 (by decide) ?_
  refine x_putf_i (n := h) C rfl (tk_p e45 (tk_p e43 (tk_p e41 (tk_p e39 (tk_n e37 hn35 (tk_p e33 (tk_n e31 hn29 (tk_p e27 (tk_p e25 (tk_p e23 (tk_p e21 (tk_n e19 hn17 (tk_p e15 (tk_n e13 hn11 (tk_p e9 (tk_p e7 (tk_p e5 (tk_p e3 ht1)))))))))))))))))) fd_63 xc_7 (by decide) rfl ⟨rfl, rfl⟩ dX7_init_88 ?_
  refine x_topS (fun S46 e47 => ?_)
  have h1 := h1 S46 e47
  refine x_aload_n C 0 dX7_init_91 rfl rfl ?_
  refine x_bipush (v := (nI 6)) C dX7_init_92 (by decide) ?_
  obtain ⟨n48, hn49, h1⟩ := h1
  refine x_newa_i (n := n48) (len := 6) C gw_11 (by decide) (by decide) hn49 (Nat.le_of_ble_eq_true rfl) (Nat.le_of_ble_eq_true rfl) dX7_init_94 ?_
  refine x_topS (fun S50 e51 => ?_)
  have h1 := h1 S50 e51
  refine x_putfF_r (n := h) C rfl (tk_n e51 hn49 (tk_p e47 (tk_p e45 (tk_p e43 (tk_p e41 (tk_p e39 (tk_n e37 hn35 (tk_p e33 (tk_n e31 hn29 (tk_p e27 (tk_p e25 (tk_p e23 (tk_p e21 (tk_n e19 hn17 (tk_p e15 (tk_n e13 hn11 (tk_p e9 (tk_p e7 (tk_p e5 (tk_p e3 ht1)))))))))))))))))))) fd_67 xc_7 (by decide) rfl hini rfl (xm_nr rfl) dX7_init_96 ?_
  refine x_topS (fun S52 e53 => ?_)
  have h1 := h1 S52 e53
  refine x_aload_n C 0 dX7_init_99 rfl rfl ?_
  refine x_iconst (v := (0 : Int32)) C dX7_init_100 (by decide) ?_
  refine x_putf_i (n := h) C rfl (tk_p e53 (tk_n e51 hn49 (tk_p e47 (tk_p e45 (tk_p e43 (tk_p e41 (tk_p e39 (tk_n e37 hn35 (tk_p e33 (tk_n e31 hn29 (tk_p e27 (tk_p e25 (tk_p e23 (tk_p e21 (tk_n e19 hn17 (tk_p e15 (tk_n e13 hn11 (tk_p e9 (tk_p e7 (tk_p e5 (tk_p e3 ht1))))))))))))))))))))) fd_65 xc_7 (by decide) rfl ⟨rfl, rfl⟩ dX7_init_101 ?_
  refine x_topS (fun S54 e55 => ?_)
  have h1 := h1 S54 e55
  refine x_aload_n C 0 dX7_init_104 rfl rfl ?_
  refine x_iconst (v := (0 : Int32)) C dX7_init_105 (by decide) ?_
  refine x_putf_i (n := h) C rfl (tk_p e55 (tk_p e53 (tk_n e51 hn49 (tk_p e47 (tk_p e45 (tk_p e43 (tk_p e41 (tk_p e39 (tk_n e37 hn35 (tk_p e33 (tk_n e31 hn29 (tk_p e27 (tk_p e25 (tk_p e23 (tk_p e21 (tk_n e19 hn17 (tk_p e15 (tk_n e13 hn11 (tk_p e9 (tk_p e7 (tk_p e5 (tk_p e3 ht1)))))))))))))))))))))) fd_66 xc_7 (by decide) rfl ⟨rfl, rfl⟩ dX7_init_106 ?_
  refine x_topS (fun S56 e57 => ?_)
  have h1 := h1 S56 e57
  exact x_vret C (Nat.le_of_ble_eq_true rfl) (Nat.le_of_ble_eq_true rfl) rfl dX7_init_109 (hg _ h1)
theorem kp_X7_init_met {h : Nat}  {S : xm_S} {g : xm_S → Prop}  (h1 : wp_X7_init h  S g) : xm_Met yX7_init cX7_init 1 none rm_X7_init [xm_r (some h)] S (xm_qv g) xm_nox :=
  xm_ofW RX7 (by decide +kernel) rfl (Nat.le_of_ble_eq_true rfl) (fun K C N hq hx hi => kp_X7_init h  S C N (hi rfl) (fun S h => by rw [hq]; exact ⟨rfl, h⟩)  h1)
def rm_X7_isClosure : Room := { frames := 4, cells := 0, slots := 0, locals := 96 }
theorem dX7_isClosure_0 : decode cX7_isClosure 0 = .ok (.aload_n 0, 1) := by decide +kernel
theorem dX7_isClosure_1 : decode cX7_isClosure 1 = .ok (.iload_n 1, 1) := by decide +kernel
theorem dX7_isClosure_2 : decode cX7_isClosure 2 = .ok (.putfield 36, 3) := by decide +kernel
theorem dX7_isClosure_5 : decode cX7_isClosure 5 = .ok (.aload_n 0, 1) := by decide +kernel
theorem dX7_isClosure_6 : decode cX7_isClosure 6 = .ok (.iconst 0, 1) := by decide +kernel
theorem dX7_isClosure_7 : decode cX7_isClosure 7 = .ok (.putfield 48, 3) := by decide +kernel
theorem dX7_isClosure_10 : decode cX7_isClosure 10 = .ok (.iconst 1, 1) := by decide +kernel
theorem dX7_isClosure_11 : decode cX7_isClosure 11 = .ok (.istore_n 3, 1) := by decide +kernel
theorem dX7_isClosure_12 : decode cX7_isClosure 12 = .ok (.iconst 0, 1) := by decide +kernel
theorem dX7_isClosure_13 : decode cX7_isClosure 13 = .ok (.istore 4, 2) := by decide +kernel
theorem dX7_isClosure_15 : decode cX7_isClosure 15 = .ok (.iload 4, 2) := by decide +kernel
theorem dX7_isClosure_17 : decode cX7_isClosure 17 = .ok (.bipush 6, 2) := by decide +kernel
theorem dX7_isClosure_19 : decode cX7_isClosure 19 = .ok (.if_icmp .ge 87, 3) := by decide +kernel
theorem dX7_isClosure_22 : decode cX7_isClosure 22 = .ok (.aload_n 0, 1) := by decide +kernel
theorem dX7_isClosure_23 : decode cX7_isClosure 23 = .ok (.getfield 45, 3) := by decide +kernel
theorem dX7_isClosure_26 : decode cX7_isClosure 26 = .ok (.iload 4, 2) := by decide +kernel
theorem dX7_isClosure_28 : decode cX7_isClosure 28 = .ok (.aload_n 2, 1) := by decide +kernel
theorem dX7_isClosure_29 : decode cX7_isClosure 29 = .ok (.iload 4, 2) := by decide +kernel
theorem dX7_isClosure_31 : decode cX7_isClosure 31 = .ok (.iaload, 1) := by decide +kernel
theorem dX7_isClosure_32 : decode cX7_isClosure 32 = .ok (.iastore, 1) := by decide +kernel
theorem dX7_isClosure_33 : decode cX7_isClosure 33 = .ok (.aload_n 0, 1) := by decide +kernel
theorem dX7_isClosure_34 : decode cX7_isClosure 34 = .ok (.getfield 45, 3) := by decide +kernel
theorem dX7_isClosure_37 : decode cX7_isClosure 37 = .ok (.iload 4, 2) := by decide +kernel
theorem dX7_isClosure_39 : decode cX7_isClosure 39 = .ok (.iaload, 1) := by decide +kernel
theorem dX7_isClosure_40 : decode cX7_isClosure 40 = .ok (.iconst (-1), 1) := by decide +kernel
theorem dX7_isClosure_41 : decode cX7_isClosure 41 = .ok (.if_icmp .eq 59, 3) := by decide +kernel
theorem dX7_isClosure_44 : decode cX7_isClosure 44 = .ok (.iload_n 3, 1) := by decide +kernel
theorem dX7_isClosure_45 : decode cX7_isClosure 45 = .ok (.ifCond .eq 32, 3) := by decide +kernel
theorem dX7_isClosure_48 : decode cX7_isClosure 48 = .ok (.aload_n 0, 1) := by decide +kernel
theorem dX7_isClosure_49 : decode cX7_isClosure 49 = .ok (.getfield 26, 3) := by decide +kernel
theorem dX7_isClosure_52 : decode cX7_isClosure 52 = .ok (.iload 4, 2) := by decide +kernel
theorem dX7_isClosure_54 : decode cX7_isClosure 54 = .ok (.iconst 4, 1) := by decide +kernel
theorem dX7_isClosure_55 : decode cX7_isClosure 55 = .ok (.imul, 1) := by decide +kernel
theorem dX7_isClosure_56 : decode cX7_isClosure 56 = .ok (.aload_n 0, 1) := by decide +kernel
theorem dX7_isClosure_57 : decode cX7_isClosure 57 = .ok (.getfield 45, 3) := by decide +kernel
theorem dX7_isClosure_60 : decode cX7_isClosure 60 = .ok (.iload 4, 2) := by decide +kernel
theorem dX7_isClosure_62 : decode cX7_isClosure 62 = .ok (.iaload, 1) := by decide +kernel
theorem dX7_isClosure_63 : decode cX7_isClosure 63 = .ok (.iadd, 1) := by decide +kernel
theorem dX7_isClosure_64 : decode cX7_isClosure 64 = .ok (.iaload, 1) := by decide +kernel
theorem dX7_isClosure_65 : decode cX7_isClosure 65 = .ok (.aload_n 0, 1) := by decide +kernel
theorem dX7_isClosure_66 : decode cX7_isClosure 66 = .ok (.getfield 48, 3) := by decide +kernel
theorem dX7_isClosure_69 : decode cX7_isClosure 69 = .ok (.iand, 1) := by decide +kernel
theorem dX7_isClosure_70 : decode cX7_isClosure 70 = .ok (.ifCond .ne 7, 3) := by decide +kernel
theorem dX7_isClosure_73 : decode cX7_isClosure 73 = .ok (.iconst 1, 1) := by decide +kernel
theorem dX7_isClosure_74 : decode cX7_isClosure 74 = .ok (.goto 4, 3) := by decide +kernel
theorem dX7_isClosure_77 : decode cX7_isClosure 77 = .ok (.iconst 0, 1) := by decide +kernel
theorem dX7_isClosure_78 : decode cX7_isClosure 78 = .ok (.istore_n 3, 1) := by decide +kernel
theorem dX7_isClosure_79 : decode cX7_isClosure 79 = .ok (.aload_n 0, 1) := by decide +kernel
theorem dX7_isClosure_80 : decode cX7_isClosure 80 = .ok (.dup, 1) := by decide +kernel
theorem dX7_isClosure_81 : decode cX7_isClosure 81 = .ok (.getfield 48, 3) := by decide +kernel
theorem dX7_isClosure_84 : decode cX7_isClosure 84 = .ok (.iload 4, 2) := by decide +kernel
theorem dX7_isClosure_86 : decode cX7_isClosure 86 = .ok (.aload_n 0, 1) := by decide +kernel
theorem dX7_isClosure_87 : decode cX7_isClosure 87 = .ok (.getfield 45, 3) := by decide +kernel
theorem dX7_isClosure_90 : decode cX7_isClosure 90 = .ok (.iload 4, 2) := by decide +kernel
theorem dX7_isClosure_92 : decode cX7_isClosure 92 = .ok (.iaload, 1) := by decide +kernel
theorem dX7_isClosure_93 : decode cX7_isClosure 93 = .ok (.invokestatic 109, 3) := by decide +kernel
theorem dX7_isClosure_96 : decode cX7_isClosure 96 = .ok (.ior, 1) := by decide +kernel
theorem dX7_isClosure_97 : decode cX7_isClosure 97 = .ok (.putfield 48, 3) := by decide +kernel
theorem dX7_isClosure_100 : decode cX7_isClosure 100 = .ok (.iinc 4 1, 3) := by decide +kernel
theorem dX7_isClosure_103 : decode cX7_isClosure 103 = .ok (.goto (-88), 3) := by decide +kernel
theorem dX7_isClosure_106 : decode cX7_isClosure 106 = .ok (.iload_n 3, 1) := by decide +kernel
theorem dX7_isClosure_107 : decode cX7_isClosure 107 = .ok (.ifCond .eq 44, 3) := by decide +kernel
theorem dX7_isClosure_110 : decode cX7_isClosure 110 = .ok (.aload_n 0, 1) := by decide +kernel
theorem dX7_isClosure_111 : decode cX7_isClosure 111 = .ok (.getfield 48, 3) := by decide +kernel
theorem dX7_isClosure_114 : decode cX7_isClosure 114 = .ok (.aload_n 0, 1) := by decide +kernel
theorem dX7_isClosure_115 : decode cX7_isClosure 115 = .ok (.getfield 33, 3) := by decide +kernel
theorem dX7_isClosure_118 : decode cX7_isClosure 118 = .ok (.iconst (-1), 1) := by decide +kernel
theorem dX7_isClosure_119 : decode cX7_isClosure 119 = .ok (.ixor, 1) := by decide +kernel
theorem dX7_isClosure_120 : decode cX7_isClosure 120 = .ok (.iand, 1) := by decide +kernel
theorem dX7_isClosure_121 : decode cX7_isClosure 121 = .ok (.ifCond .ne 30, 3) := by decide +kernel
theorem dX7_isClosure_124 : decode cX7_isClosure 124 = .ok (.aload_n 0, 1) := by decide +kernel
theorem dX7_isClosure_125 : decode cX7_isClosure 125 = .ok (.iconst 0, 1) := by decide +kernel
theorem dX7_isClosure_126 : decode cX7_isClosure 126 = .ok (.aload_n 0, 1) := by decide +kernel
theorem dX7_isClosure_127 : decode cX7_isClosure 127 = .ok (.getfield 48, 3) := by decide +kernel
theorem dX7_isClosure_130 : decode cX7_isClosure 130 = .ok (.invokevirtual 154, 3) := by decide +kernel
theorem dX7_isClosure_133 : decode cX7_isClosure 133 = .ok (.ifCond .eq 18, 3) := by decide +kernel
theorem dX7_isClosure_136 : decode cX7_isClosure 136 = .ok (.aload_n 0, 1) := by decide +kernel
theorem dX7_isClosure_137 : decode cX7_isClosure 137 = .ok (.getfield 51, 3) := by decide +kernel
theorem dX7_isClosure_140 : decode cX7_isClosure 140 = .ok (.aload_n 0, 1) := by decide +kernel
theorem dX7_isClosure_141 : decode cX7_isClosure 141 = .ok (.getfield 48, 3) := by decide +kernel
theorem dX7_isClosure_144 : decode cX7_isClosure 144 = .ok (.if_icmp .ne 7, 3) := by decide +kernel
theorem dX7_isClosure_147 : decode cX7_isClosure 147 = .ok (.iconst 1, 1) := by decide +kernel
theorem dX7_isClosure_148 : decode cX7_isClosure 148 = .ok (.goto 4, 3) := by decide +kernel
theorem dX7_isClosure_151 : decode cX7_isClosure 151 = .ok (.iconst 0, 1) := by decide +kernel
theorem dX7_isClosure_152 : decode cX7_isClosure 152 = .ok (.ireturn, 1) := by decide +kernel
def wp_X7_isClosure_100 (h : Nat) (x2 : Option Nat) (x3 : Int32) (x4 : Int32) (S : xm_S) (g : Int32 → xm_S → Prop) (Z15 : Option Nat → Int32 → Int32 → xm_S → Prop) : Prop :=
  ∀ y1, y1 = (x4 + (1 : Int32)) → Z15 x2 x3 y1 S
set_option maxRecDepth 100000 in
set_option maxHeartbeats 4000000 in
theorem kp_X7_isClosure_100 {K : xm_K} (h : Nat) (x2 : Option Nat) (x3 : Int32) (x4 : Int32) (S : xm_S) {g : Int32 → xm_S → Prop} {Z15 : Option Nat → Int32 → Int32 → xm_S → Prop} (C : xm_Cx K cX7_isClosure RX7 5 (some (FieldType.boolean)) rm_X7_isClosure) (N : xm_Nx K) (hg : ∀ v S, g v S → xm_q K (some (xm_i v)) S) (hZ15 : ∀ x2 x3 x4 S, Z15 x2 x3 x4 S → xm_W K 0 0 15 [(0, xm_r (some h)), (2, xm_r x2), (3, xm_i x3), (4, xm_i x4)] [] S) (h1 : wp_X7_isClosure_100 h x2 x3 x4 S g Z15) : xm_W K 0 0 100 [(0, xm_r (some h)), (2, xm_r x2), (3, xm_i x3), (4, xm_i x4)] [] S := by
  unfold wp_X7_isClosure_100 at h1
  obtain ⟨y1, e2⟩ : ∃ y1, y1 = (x4 + (1 : Int32)) := ⟨_, rfl⟩
  have h1 := h1 y1 e2
  refine x_iinc (v := y1) (L' := [(4, xm_i y1), (0, xm_r (some h)), (2, xm_r x2), (3, xm_i x3)]) C 3 dX7_isClosure_100 rfl (by rw [e2]; rfl) (by decide) rfl ?_
  refine x_goto (tgt := 15) C dX7_isClosure_103 (by decide) ?_
  refine x_keep (L' := [(0, xm_r (some h)), (2, xm_r x2), (3, xm_i x3), (4, xm_i y1)]) C [1, 2, 3, 0] rfl ?_
  exact hZ15 x2 x3 y1 S h1
def wp_X7_isClosure_78 (h : Nat) (x2 : Option Nat) (x4 : Int32) (s0 : Int32) (S : xm_S) (g : Int32 → xm_S → Prop) (Z15 : Option Nat → Int32 → Int32 → xm_S → Prop) : Prop :=
  st_t S h = some (7, 0) ∧ ∃ n4, (st_r S h 10) = some n4 ∧ ∃ z7, st_t S n4 = some (100, z7) ∧ vp_in x4 z7 ∧ wp_X7_bitOf x4 (st_i S n4 (x4).toNatClampNeg) S (fun r10 S9 => st_t S9 h = some (7, 0) ∧ ∀ S12, S12 = st_pi S9 h 11 ((st_i S h 11) ||| r10) → wp_X7_isClosure_100 h x2 s0 x4 S12 g Z15)
set_option maxRecDepth 100000 in
set_option maxHeartbeats 4000000 in
theorem kp_X7_isClosure_78 {K : xm_K} (h : Nat) (x2 : Option Nat) (x4 : Int32) (s0 : Int32) (S : xm_S) {g : Int32 → xm_S → Prop} {Z15 : Option Nat → Int32 → Int32 → xm_S → Prop} (C : xm_Cx K cX7_isClosure RX7 5 (some (FieldType.boolean)) rm_X7_isClosure) (N : xm_Nx K) (hg : ∀ v S, g v S → xm_q K (some (xm_i v)) S) (hZ15 : ∀ x2 x3 x4 S, Z15 x2 x3 x4 S → xm_W K 0 0 15 [(0, xm_r (some h)), (2, xm_r x2), (3, xm_i x3), (4, xm_i x4)] [] S) (h1 : wp_X7_isClosure_78 h x2 x4 s0 S g Z15) : xm_W K 0 0 78 [(0, xm_r (some h)), (2, xm_r x2), (4, xm_i x4)] [xm_i s0] S := by
  unfold wp_X7_isClosure_78 at h1
  refine x_istore_n (L' := [(3, xm_i s0), (0, xm_r (some h)), (2, xm_r x2), (4, xm_i x4)]) C dX7_isClosure_78 rfl (by decide) rfl ?_
  refine x_aload_n C 1 dX7_isClosure_79 rfl rfl ?_
  refine x_dup_r C dX7_isClosure_80 ?_
  obtain ⟨ht3, h1⟩ := h1
  refine x_getf_i (n := h) C rfl ht3 fd_72 (by decide) dX7_isClosure_81 ?_
  refine x_iload C 3 dX7_isClosure_84 rfl ?_
  refine x_aload_n C 1 dX7_isClosure_86 rfl rfl ?_
  refine x_getf_r (n := h) C rfl ht3 fd_58 (by decide) dX7_isClosure_87 ?_
  refine x_iload C 3 dX7_isClosure_90 rfl ?_
  obtain ⟨n4, hr5, h1⟩ := h1
  obtain ⟨z7, ht6, h1⟩ := h1
  obtain ⟨hi8, h1⟩ := h1
  refine x_iald (n := n4) C hr5 ht6 hi8 dX7_isClosure_92 ?_
  refine x_callS (rm' := rm_X7_bitOf) C (kp_X7_bitOf_met h1) lk_14 gw_129 rfl (Nat.le_of_ble_eq_true rfl) ⟨Nat.le_of_ble_eq_true rfl, Nat.le_of_ble_eq_true rfl, (Nat.le_of_ble_eq_true rfl), (Nat.le_of_ble_eq_true rfl)⟩ dX7_isClosure_93 xm_kx (xm_ki (fun r10 S9 h1 => ?_))
  refine x_ior C dX7_isClosure_96 ?_
  obtain ⟨ht11, h1⟩ := h1
  refine x_putf_i (n := h) C rfl ht11 fd_72 xc_7 (by decide) rfl ⟨rfl, rfl⟩ dX7_isClosure_97 ?_
  refine x_topS (fun S12 e13 => ?_)
  have h1 := h1 S12 e13
  refine x_keep (L' := [(0, xm_r (some h)), (2, xm_r x2), (3, xm_i s0), (4, xm_i x4)]) C [1, 2, 0, 3] rfl ?_
  exact kp_X7_isClosure_100 h x2 s0 x4 S12 C N hg hZ15 h1
def wp_X7_isClosure_77 (h : Nat) (x2 : Option Nat) (x4 : Int32) (S : xm_S) (g : Int32 → xm_S → Prop) (Z15 : Option Nat → Int32 → Int32 → xm_S → Prop) : Prop :=
  wp_X7_isClosure_78 h x2 x4 (0 : Int32) S g Z15
set_option maxRecDepth 100000 in
set_option maxHeartbeats 4000000 in
theorem kp_X7_isClosure_77 {K : xm_K} (h : Nat) (x2 : Option Nat) (x4 : Int32) (S : xm_S) {g : Int32 → xm_S → Prop} {Z15 : Option Nat → Int32 → Int32 → xm_S → Prop} (C : xm_Cx K cX7_isClosure RX7 5 (some (FieldType.boolean)) rm_X7_isClosure) (N : xm_Nx K) (hg : ∀ v S, g v S → xm_q K (some (xm_i v)) S) (hZ15 : ∀ x2 x3 x4 S, Z15 x2 x3 x4 S → xm_W K 0 0 15 [(0, xm_r (some h)), (2, xm_r x2), (3, xm_i x3), (4, xm_i x4)] [] S) (h1 : wp_X7_isClosure_77 h x2 x4 S g Z15) : xm_W K 0 0 77 [(0, xm_r (some h)), (2, xm_r x2), (4, xm_i x4)] [] S := by
  unfold wp_X7_isClosure_77 at h1
  refine x_iconst (v := (0 : Int32)) C dX7_isClosure_77 (by decide) ?_
  exact kp_X7_isClosure_78 h x2 x4 (0 : Int32) S C N hg hZ15 h1
def wp_X7_isClosure_152 (h : Nat) (s0 : Int32) (S : xm_S) (g : Int32 → xm_S → Prop) : Prop :=
  (s0 = 0 ∨ s0 = 1) ∧ g s0 S
set_option maxRecDepth 100000 in
set_option maxHeartbeats 4000000 in
theorem kp_X7_isClosure_152 {K : xm_K} (h : Nat) (s0 : Int32) (S : xm_S) {g : Int32 → xm_S → Prop} (C : xm_Cx K cX7_isClosure RX7 5 (some (FieldType.boolean)) rm_X7_isClosure) (N : xm_Nx K) (hg : ∀ v S, g v S → xm_q K (some (xm_i v)) S)  (h1 : wp_X7_isClosure_152 h s0 S g) : xm_W K 0 0 152 [] [xm_i s0] S := by
  unfold wp_X7_isClosure_152 at h1
  exact x_zret C (Nat.le_of_ble_eq_true rfl) (Nat.le_of_ble_eq_true rfl) rfl h1.1 dX7_isClosure_152 (hg _ _ h1.2)
def wp_X7_isClosure_151 (h : Nat)  (S : xm_S) (g : Int32 → xm_S → Prop) : Prop :=
  wp_X7_isClosure_152 h (0 : Int32) S g
set_option maxRecDepth 100000 in
set_option maxHeartbeats 4000000 in
theorem kp_X7_isClosure_151 {K : xm_K} (h : Nat)  (S : xm_S) {g : Int32 → xm_S → Prop} (C : xm_Cx K cX7_isClosure RX7 5 (some (FieldType.boolean)) rm_X7_isClosure) (N : xm_Nx K) (hg : ∀ v S, g v S → xm_q K (some (xm_i v)) S)  (h1 : wp_X7_isClosure_151 h  S g) : xm_W K 0 0 151 [] [] S := by
  unfold wp_X7_isClosure_151 at h1
  refine x_iconst (v := (0 : Int32)) C dX7_isClosure_151 (by decide) ?_
  exact kp_X7_isClosure_152 h (0 : Int32) S C N hg  h1
def wp_X7_isClosure_15B (h : Nat) (x2 : Option Nat) (x3 : Int32) (x4 : Int32) (S : xm_S) (g : Int32 → xm_S → Prop) (Z15 : Option Nat → Int32 → Int32 → xm_S → Prop) : Prop :=
  ((nI 6) ≤ x4 → (x3 = 0 → wp_X7_isClosure_151 h S g) ∧ (¬ x3 = 0 → st_t S h = some (7, 0) ∧ (¬ ((st_i S h 11) &&& ((st_i S h 6) ^^^ (-1 : Int32))) = 0 → wp_X7_isClosure_151 h S g) ∧ (((st_i S h 11) &&& ((st_i S h 6) ^^^ (-1 : Int32))) = 0 → wp_X7_areMet h (0 : Int32) (st_i S h 11) S (fun r16 S15 => (r16 = 0 → wp_X7_isClosure_151 h S15 g) ∧ (¬ r16 = 0 → st_t S15 h = some (7, 0) ∧ (¬ (st_i S15 h 12) = (st_i S15 h 11) → wp_X7_isClosure_151 h S15 g) ∧ ((st_i S15 h 12) = (st_i S15 h 11) → wp_X7_isClosure_152 h (1 : Int32) S15 g)))))) ∧ (¬ (nI 6) ≤ x4 → st_t S h = some (7, 0) ∧ ∃ n19, x2 = some n19 ∧ ∃ z22, st_t S n19 = some (100, z22) ∧ vp_in x4 z22 ∧ ∃ n24, (st_r S h 10) = some n24 ∧ ∃ z27, st_t S n24 = some (100, z27) ∧ vp_in x4 z27 ∧ ∀ S29, S29 = st_pi S n24 (x4).toNatClampNeg (st_i S n19 (x4).toNatClampNeg) → ∃ n31, (st_r S29 h 10) = some n31 ∧ ∃ z34, st_t S29 n31 = some (100, z34) ∧ vp_in x4 z34 ∧ ((st_i S29 n31 (x4).toNatClampNeg) = (-1 : Int32) → wp_X7_isClosure_100 h x2 x3 x4 S29 g Z15) ∧ (¬ (st_i S29 n31 (x4).toNatClampNeg) = (-1 : Int32) → (x3 = 0 → wp_X7_isClosure_77 h x2 x4 S29 g Z15) ∧ (¬ x3 = 0 → ∃ n36, (st_r S29 h 10) = some n36 ∧ ∃ z39, st_t S29 n36 = some (100, z39) ∧ vp_in x4 z39 ∧ ∃ n41, (st_r S29 h 4) = some n41 ∧ ∃ z44, st_t S29 n41 = some (100, z44) ∧ vp_in ((x4 * (nI 4)) + (st_i S29 n36 (x4).toNatClampNeg)) z44 ∧ (¬ ((st_i S29 n41 (((x4 * (nI 4)) + (st_i S29 n36 (x4).toNatClampNeg))).toNatClampNeg) &&& (st_i S29 h 11)) = 0 → wp_X7_isClosure_77 h x2 x4 S29 g Z15) ∧ (((st_i S29 n41 (((x4 * (nI 4)) + (st_i S29 n36 (x4).toNatClampNeg))).toNatClampNeg) &&& (st_i S29 h 11)) = 0 → wp_X7_isClosure_78 h x2 x4 (1 : Int32) S29 g Z15))))
def wp_X7_isClosure_15 (h : Nat) (x2 : Option Nat) (x3 : Int32) (x4 : Int32) (S : xm_S) (g : Int32 → xm_S → Prop) : Prop :=
  ∀ Z15 : Option Nat → Int32 → Int32 → xm_S → Prop, (∀ x2 x3 x4 S, wp_X7_isClosure_15B h x2 x3 x4 S g Z15 → Z15 x2 x3 x4 S) → Z15 x2 x3 x4 S
set_option maxRecDepth 100000 in
set_option maxHeartbeats 4000000 in
theorem kp_X7_isClosure_15B {K : xm_K} (h : Nat) (x2 : Option Nat) (x3 : Int32) (x4 : Int32) (S : xm_S) {g : Int32 → xm_S → Prop} {Z15 : Option Nat → Int32 → Int32 → xm_S → Prop} (C : xm_Cx K cX7_isClosure RX7 5 (some (FieldType.boolean)) rm_X7_isClosure) (N : xm_Nx K) (hg : ∀ v S, g v S → xm_q K (some (xm_i v)) S) (hZ15 : ∀ x2 x3 x4 S, Z15 x2 x3 x4 S → xm_W K 0 0 15 [(0, xm_r (some h)), (2, xm_r x2), (3, xm_i x3), (4, xm_i x4)] [] S) (h1 : wp_X7_isClosure_15B h x2 x3 x4 S g Z15) : xm_W K 0 0 15 [(0, xm_r (some h)), (2, xm_r x2), (3, xm_i x3), (4, xm_i x4)] [] S := by
  unfold wp_X7_isClosure_15B at h1
  refine x_iload C 3 dX7_isClosure_15 rfl ?_
  refine x_bipush (v := (nI 6)) C dX7_isClosure_17 (by decide) ?_
  refine x_icmp_ge (tgt := 106) C dX7_isClosure_19 (by decide) (fun z9 => ?_) (fun z9 => ?_)
  · have h1 := h1.1 z9
    refine x_iload_n C 2 dX7_isClosure_106 rfl rfl ?_
    refine x_if_eq (tgt := 151) C dX7_isClosure_107 (by decide) (fun z9 => ?_) (fun z9 => ?_)
    · have h1 := h1.1 z9
      refine x_keep (L' := []) C [] rfl ?_
      exact kp_X7_isClosure_151 h S C N hg  h1
    · have h1 := h1.2 z9
      refine x_aload_n C 0 dX7_isClosure_110 rfl rfl ?_
      obtain ⟨ht14, h1⟩ := h1
      refine x_getf_i (n := h) C rfl ht14 fd_72 (by decide) dX7_isClosure_111 ?_
      refine x_aload_n C 0 dX7_isClosure_114 rfl rfl ?_
      refine x_getf_i (n := h) C rfl ht14 fd_70 (by decide) dX7_isClosure_115 ?_
      refine x_iconst (v := (-1 : Int32)) C dX7_isClosure_118 (by decide) ?_
      refine x_ixor C dX7_isClosure_119 ?_
      refine x_iand C dX7_isClosure_120 ?_
      refine x_if_ne (tgt := 151) C dX7_isClosure_121 (by decide) (fun z9 => ?_) (fun z9 => ?_)
      · have h1 := h1.1 z9
        refine x_keep (L' := []) C [] rfl ?_
        exact kp_X7_isClosure_151 h S C N hg  h1
      · have h1 := h1.2 z9
        refine x_aload_n C 0 dX7_isClosure_124 rfl rfl ?_
        refine x_iconst (v := (0 : Int32)) C dX7_isClosure_125 (by decide) ?_
        refine x_aload_n C 0 dX7_isClosure_126 rfl rfl ?_
        refine x_getf_i (n := h) C rfl ht14 fd_72 (by decide) dX7_isClosure_127 ?_
        refine x_callV (rm' := rm_X7_areMet) (n := h) C (kp_X7_areMet_met h1) lk_18 gw_160 gw_161 xv_7 rfl rfl ht14 rfl (Nat.le_of_ble_eq_true rfl) ⟨Nat.le_of_ble_eq_true rfl, Nat.le_of_ble_eq_true rfl, (Nat.le_of_ble_eq_true rfl), (Nat.le_of_ble_eq_true rfl)⟩ dX7_isClosure_130 xm_kx (xm_ki (fun r16 S15 h1 => ?_))
        refine x_if_eq (tgt := 151) C dX7_isClosure_133 (by decide) (fun z9 => ?_) (fun z9 => ?_)
        · have h1 := h1.1 z9
          refine x_keep (L' := []) C [] rfl ?_
          exact kp_X7_isClosure_151 h S15 C N hg  h1
        · have h1 := h1.2 z9
          refine x_aload_n C 0 dX7_isClosure_136 rfl rfl ?_
          obtain ⟨ht17, h1⟩ := h1
          refine x_getf_i (n := h) C rfl ht17 fd_47 (by decide) dX7_isClosure_137 ?_
          refine x_aload_n C 0 dX7_isClosure_140 rfl rfl ?_
          refine x_getf_i (n := h) C rfl ht17 fd_72 (by decide) dX7_isClosure_141 ?_
          refine x_icmp_ne (tgt := 151) C dX7_isClosure_144 (by decide) (fun z9 => ?_) (fun z9 => ?_)
          · have h1 := h1.1 z9
            refine x_keep (L' := []) C [] rfl ?_
            exact kp_X7_isClosure_151 h S15 C N hg  h1
          · have h1 := h1.2 z9
            refine x_iconst (v := (1 : Int32)) C dX7_isClosure_147 (by decide) ?_
            refine x_goto (tgt := 152) C dX7_isClosure_148 (by decide) ?_
            refine x_keep (L' := []) C [] rfl ?_
            exact kp_X7_isClosure_152 h (1 : Int32) S15 C N hg  h1
  · have h1 := h1.2 z9
    refine x_aload_n C 0 dX7_isClosure_22 rfl rfl ?_
    obtain ⟨ht18, h1⟩ := h1
    refine x_getf_r (n := h) C rfl ht18 fd_58 (by decide) dX7_isClosure_23 ?_
    refine x_iload C 3 dX7_isClosure_26 rfl ?_
    refine x_aload_n C 1 dX7_isClosure_28 rfl rfl ?_
    refine x_iload C 3 dX7_isClosure_29 rfl ?_
    obtain ⟨n19, hr20, h1⟩ := h1
    obtain ⟨z22, ht21, h1⟩ := h1
    obtain ⟨hi23, h1⟩ := h1
    refine x_iald (n := n19) C hr20 ht21 hi23 dX7_isClosure_31 ?_
    obtain ⟨n24, hr25, h1⟩ := h1
    obtain ⟨z27, ht26, h1⟩ := h1
    obtain ⟨hi28, h1⟩ := h1
    refine x_iast (n := n24) C hr25 ht26 hi28 dX7_isClosure_32 ?_
    refine x_topS (fun S29 e30 => ?_)
    have h1 := h1 S29 e30
    refine x_aload_n C 0 dX7_isClosure_33 rfl rfl ?_
    refine x_getf_r (n := h) C rfl (tk_p e30 ht18) fd_58 (by decide) dX7_isClosure_34 ?_
    refine x_iload C 3 dX7_isClosure_37 rfl ?_
    obtain ⟨n31, hr32, h1⟩ := h1
    obtain ⟨z34, ht33, h1⟩ := h1
    obtain ⟨hi35, h1⟩ := h1
    refine x_iald (n := n31) C hr32 ht33 hi35 dX7_isClosure_39 ?_
    refine x_iconst (v := (-1 : Int32)) C dX7_isClosure_40 (by decide) ?_
    refine x_icmp_eq (tgt := 100) C dX7_isClosure_41 (by decide) (fun z9 => ?_) (fun z9 => ?_)
    · have h1 := h1.1 z9
      exact kp_X7_isClosure_100 h x2 x3 x4 S29 C N hg hZ15 h1
    · have h1 := h1.2 z9
      refine x_iload_n C 2 dX7_isClosure_44 rfl rfl ?_
      refine x_if_eq (tgt := 77) C dX7_isClosure_45 (by decide) (fun z9 => ?_) (fun z9 => ?_)
      · have h1 := h1.1 z9
        refine x_keep (L' := [(0, xm_r (some h)), (2, xm_r x2), (4, xm_i x4)]) C [0, 1, 3] rfl ?_
        exact kp_X7_isClosure_77 h x2 x4 S29 C N hg hZ15 h1
      · have h1 := h1.2 z9
        refine x_aload_n C 0 dX7_isClosure_48 rfl rfl ?_
        refine x_getf_r (n := h) C rfl (tk_p e30 ht18) fd_68 (by decide) dX7_isClosure_49 ?_
        refine x_iload C 3 dX7_isClosure_52 rfl ?_
        refine x_iconst (v := (nI 4)) C dX7_isClosure_54 (by decide) ?_
        refine x_imul C dX7_isClosure_55 ?_
        refine x_aload_n C 0 dX7_isClosure_56 rfl rfl ?_
        refine x_getf_r (n := h) C rfl (tk_p e30 ht18) fd_58 (by decide) dX7_isClosure_57 ?_
        refine x_iload C 3 dX7_isClosure_60 rfl ?_
        obtain ⟨n36, hr37, h1⟩ := h1
        obtain ⟨z39, ht38, h1⟩ := h1
        obtain ⟨hi40, h1⟩ := h1
        refine x_iald (n := n36) C hr37 ht38 hi40 dX7_isClosure_62 ?_
        refine x_iadd C dX7_isClosure_63 ?_
        obtain ⟨n41, hr42, h1⟩ := h1
        obtain ⟨z44, ht43, h1⟩ := h1
        obtain ⟨hi45, h1⟩ := h1
        refine x_iald (n := n41) C hr42 ht43 hi45 dX7_isClosure_64 ?_
        refine x_aload_n C 0 dX7_isClosure_65 rfl rfl ?_
        refine x_getf_i (n := h) C rfl (tk_p e30 ht18) fd_72 (by decide) dX7_isClosure_66 ?_
        refine x_iand C dX7_isClosure_69 ?_
        refine x_if_ne (tgt := 77) C dX7_isClosure_70 (by decide) (fun z9 => ?_) (fun z9 => ?_)
        · have h1 := h1.1 z9
          refine x_keep (L' := [(0, xm_r (some h)), (2, xm_r x2), (4, xm_i x4)]) C [0, 1, 3] rfl ?_
          exact kp_X7_isClosure_77 h x2 x4 S29 C N hg hZ15 h1
        · have h1 := h1.2 z9
          refine x_iconst (v := (1 : Int32)) C dX7_isClosure_73 (by decide) ?_
          refine x_goto (tgt := 78) C dX7_isClosure_74 (by decide) ?_
          refine x_keep (L' := [(0, xm_r (some h)), (2, xm_r x2), (4, xm_i x4)]) C [0, 1, 3] rfl ?_
          exact kp_X7_isClosure_78 h x2 x4 (1 : Int32) S29 C N hg hZ15 h1
theorem kp_X7_isClosure_15 {K : xm_K} (h : Nat) (x2 : Option Nat) (x3 : Int32) (x4 : Int32) (S : xm_S) {g : Int32 → xm_S → Prop} (C : xm_Cx K cX7_isClosure RX7 5 (some (FieldType.boolean)) rm_X7_isClosure) (N : xm_Nx K) (hg : ∀ v S, g v S → xm_q K (some (xm_i v)) S)  (h1 : wp_X7_isClosure_15 h x2 x3 x4 S g) : xm_W K 0 0 15 [(0, xm_r (some h)), (2, xm_r x2), (3, xm_i x3), (4, xm_i x4)] [] S :=
  h1 (fun x2 x3 x4 S => xm_W K 0 0 15 [(0, xm_r (some h)), (2, xm_r x2), (3, xm_i x3), (4, xm_i x4)] [] S) (fun x2 x3 x4 S hb => kp_X7_isClosure_15B h x2 x3 x4 S C N hg (fun x2 x3 x4 S hz => hz) hb)
def wp_X7_isClosure (h : Nat) (x1 : Int32) (x2 : Option Nat) (S : xm_S) (g : Int32 → xm_S → Prop) : Prop :=
  st_t S h = some (7, 0) ∧ ∀ S47, S47 = st_pi S h 7 x1 → ∀ S49, S49 = st_pi S47 h 11 (0 : Int32) → wp_X7_isClosure_15 h x2 (1 : Int32) (0 : Int32) S49 g
set_option maxRecDepth 100000 in
set_option maxHeartbeats 4000000 in
theorem kp_X7_isClosure {K : xm_K} (h : Nat) (x1 : Int32) (x2 : Option Nat) (S : xm_S) {g : Int32 → xm_S → Prop} (C : xm_Cx K cX7_isClosure RX7 5 (some (FieldType.boolean)) rm_X7_isClosure) (N : xm_Nx K) (hg : ∀ v S, g v S → xm_q K (some (xm_i v)) S)  (h1 : wp_X7_isClosure h x1 x2 S g) : xm_W K 0 0 0 [(0, xm_r (some h)), (1, xm_i x1), (2, xm_r x2)] [] S := by
  unfold wp_X7_isClosure at h1
  refine x_aload_n C 0 dX7_isClosure_0 rfl rfl ?_
  refine x_iload_n C 1 dX7_isClosure_1 rfl rfl ?_
  obtain ⟨ht46, h1⟩ := h1
  refine x_putf_i (n := h) C rfl ht46 fd_60 xc_7 (by decide) rfl ⟨rfl, rfl⟩ dX7_isClosure_2 ?_
  refine x_topS (fun S47 e48 => ?_)
  have h1 := h1 S47 e48
  refine x_aload_n C 0 dX7_isClosure_5 rfl rfl ?_
  refine x_iconst (v := (0 : Int32)) C dX7_isClosure_6 (by decide) ?_
  refine x_putf_i (n := h) C rfl (tk_p e48 ht46) fd_72 xc_7 (by decide) rfl ⟨rfl, rfl⟩ dX7_isClosure_7 ?_
  refine x_topS (fun S49 e50 => ?_)
  have h1 := h1 S49 e50
  refine x_iconst (v := (1 : Int32)) C dX7_isClosure_10 (by decide) ?_
  refine x_istore_n (L' := [(3, xm_i (1 : Int32)), (0, xm_r (some h)), (1, xm_i x1), (2, xm_r x2)]) C dX7_isClosure_11 rfl (by decide) rfl ?_
  refine x_iconst (v := (0 : Int32)) C dX7_isClosure_12 (by decide) ?_
  refine x_istore (L' := [(4, xm_i (0 : Int32)), (3, xm_i (1 : Int32)), (0, xm_r (some h)), (1, xm_i x1), (2, xm_r x2)]) C dX7_isClosure_13 (by decide) rfl ?_
  refine x_keep (L' := [(0, xm_r (some h)), (2, xm_r x2), (3, xm_i (1 : Int32)), (4, xm_i (0 : Int32))]) C [2, 4, 1, 0] rfl ?_
  exact kp_X7_isClosure_15 h x2 (1 : Int32) (0 : Int32) S49 C N hg  h1
theorem kp_X7_isClosure_met {h : Nat} {x1 : Int32} {x2 : Option Nat} {S : xm_S} {g : Int32 → xm_S → Prop}  (h1 : wp_X7_isClosure h x1 x2 S g) : xm_Met yX7_isClosure cX7_isClosure 5 (some (FieldType.boolean)) rm_X7_isClosure [xm_r (some h), xm_i x1, xm_r x2] S (xm_qi g) xm_nox :=
  xm_ofW RX7 (by decide +kernel) rfl (Nat.le_of_ble_eq_true rfl) (fun K C N hq hx hi => kp_X7_isClosure h x1 x2 S C N (fun v S h => by rw [hq]; exact ⟨v, rfl, h⟩)  h1)
def rm_X7_leadingTo : Room := { frames := 1, cells := 0, slots := 0, locals := 20 }
theorem dX7_leadingTo_0 : decode cX7_leadingTo 0 = .ok (.iconst 0, 1) := by decide +kernel
theorem dX7_leadingTo_1 : decode cX7_leadingTo 1 = .ok (.istore_n 2, 1) := by decide +kernel
theorem dX7_leadingTo_2 : decode cX7_leadingTo 2 = .ok (.iconst 0, 1) := by decide +kernel
theorem dX7_leadingTo_3 : decode cX7_leadingTo 3 = .ok (.istore_n 3, 1) := by decide +kernel
theorem dX7_leadingTo_4 : decode cX7_leadingTo 4 = .ok (.iload_n 3, 1) := by decide +kernel
theorem dX7_leadingTo_5 : decode cX7_leadingTo 5 = .ok (.aload_n 1, 1) := by decide +kernel
theorem dX7_leadingTo_6 : decode cX7_leadingTo 6 = .ok (.getfield 87, 3) := by decide +kernel
theorem dX7_leadingTo_9 : decode cX7_leadingTo 9 = .ok (.if_icmp .ge 38, 3) := by decide +kernel
theorem dX7_leadingTo_12 : decode cX7_leadingTo 12 = .ok (.aload_n 1, 1) := by decide +kernel
theorem dX7_leadingTo_13 : decode cX7_leadingTo 13 = .ok (.getfield 92, 3) := by decide +kernel
theorem dX7_leadingTo_16 : decode cX7_leadingTo 16 = .ok (.iload_n 3, 1) := by decide +kernel
theorem dX7_leadingTo_17 : decode cX7_leadingTo 17 = .ok (.aaload, 1) := by decide +kernel
theorem dX7_leadingTo_18 : decode cX7_leadingTo 18 = .ok (.getfield 161, 3) := by decide +kernel
theorem dX7_leadingTo_21 : decode cX7_leadingTo 21 = .ok (.aload_n 0, 1) := by decide +kernel
theorem dX7_leadingTo_22 : decode cX7_leadingTo 22 = .ok (.getfield 23, 3) := by decide +kernel
theorem dX7_leadingTo_25 : decode cX7_leadingTo 25 = .ok (.iand, 1) := by decide +kernel
theorem dX7_leadingTo_26 : decode cX7_leadingTo 26 = .ok (.ifCond .eq 15, 3) := by decide +kernel
theorem dX7_leadingTo_29 : decode cX7_leadingTo 29 = .ok (.iload_n 2, 1) := by decide +kernel
theorem dX7_leadingTo_30 : decode cX7_leadingTo 30 = .ok (.aload_n 1, 1) := by decide +kernel
theorem dX7_leadingTo_31 : decode cX7_leadingTo 31 = .ok (.getfield 92, 3) := by decide +kernel
theorem dX7_leadingTo_34 : decode cX7_leadingTo 34 = .ok (.iload_n 3, 1) := by decide +kernel
theorem dX7_leadingTo_35 : decode cX7_leadingTo 35 = .ok (.aaload, 1) := by decide +kernel
theorem dX7_leadingTo_36 : decode cX7_leadingTo 36 = .ok (.getfield 73, 3) := by decide +kernel
theorem dX7_leadingTo_39 : decode cX7_leadingTo 39 = .ok (.ior, 1) := by decide +kernel
theorem dX7_leadingTo_40 : decode cX7_leadingTo 40 = .ok (.istore_n 2, 1) := by decide +kernel
theorem dX7_leadingTo_41 : decode cX7_leadingTo 41 = .ok (.iinc 3 1, 3) := by decide +kernel
theorem dX7_leadingTo_44 : decode cX7_leadingTo 44 = .ok (.goto (-40), 3) := by decide +kernel
theorem dX7_leadingTo_47 : decode cX7_leadingTo 47 = .ok (.iload_n 2, 1) := by decide +kernel
theorem dX7_leadingTo_48 : decode cX7_leadingTo 48 = .ok (.ireturn, 1) := by decide +kernel
def wp_X7_leadingTo_41 (h : Nat) (x1 : Option Nat) (x2 : Int32) (x3 : Int32) (S : xm_S) (g : Int32 → xm_S → Prop) (Z4 : Option Nat → Int32 → Int32 → xm_S → Prop) : Prop :=
  ∀ y1, y1 = (x3 + (1 : Int32)) → Z4 x1 x2 y1 S
set_option maxRecDepth 100000 in
set_option maxHeartbeats 4000000 in
theorem kp_X7_leadingTo_41 {K : xm_K} (h : Nat) (x1 : Option Nat) (x2 : Int32) (x3 : Int32) (S : xm_S) {g : Int32 → xm_S → Prop} {Z4 : Option Nat → Int32 → Int32 → xm_S → Prop} (C : xm_Cx K cX7_leadingTo RX7 4 (some (FieldType.int)) rm_X7_leadingTo) (N : xm_Nx K) (hg : ∀ v S, g v S → xm_q K (some (xm_i v)) S) (hZ4 : ∀ x1 x2 x3 S, Z4 x1 x2 x3 S → xm_W K 0 0 4 [(0, xm_r (some h)), (1, xm_r x1), (2, xm_i x2), (3, xm_i x3)] [] S) (h1 : wp_X7_leadingTo_41 h x1 x2 x3 S g Z4) : xm_W K 0 0 41 [(0, xm_r (some h)), (1, xm_r x1), (2, xm_i x2), (3, xm_i x3)] [] S := by
  unfold wp_X7_leadingTo_41 at h1
  obtain ⟨y1, e2⟩ : ∃ y1, y1 = (x3 + (1 : Int32)) := ⟨_, rfl⟩
  have h1 := h1 y1 e2
  refine x_iinc (v := y1) (L' := [(3, xm_i y1), (0, xm_r (some h)), (1, xm_r x1), (2, xm_i x2)]) C 3 dX7_leadingTo_41 rfl (by rw [e2]; rfl) (by decide) rfl ?_
  refine x_goto (tgt := 4) C dX7_leadingTo_44 (by decide) ?_
  refine x_keep (L' := [(0, xm_r (some h)), (1, xm_r x1), (2, xm_i x2), (3, xm_i y1)]) C [1, 2, 3, 0] rfl ?_
  exact hZ4 x1 x2 y1 S h1
def wp_X7_leadingTo_4B (h : Nat) (x1 : Option Nat) (x2 : Int32) (x3 : Int32) (S : xm_S) (g : Int32 → xm_S → Prop) (Z4 : Option Nat → Int32 → Int32 → xm_S → Prop) : Prop :=
  ∃ n3, x1 = some n3 ∧ st_t S n3 = some (10, 0) ∧ ((st_i S n3 7) ≤ x3 → g x2 S) ∧ (¬ (st_i S n3 7) ≤ x3 → ∃ n6, x1 = some n6 ∧ st_t S n6 = some (10, 0) ∧ ∃ n9, (st_r S n6 6) = some n9 ∧ ∃ z12, st_t S n9 = some (114, z12) ∧ vp_in x3 z12 ∧ ∃ n14, (st_r S n9 (x3).toNatClampNeg) = some n14 ∧ st_t S n14 = some (4, 0) ∧ st_t S h = some (7, 0) ∧ (((st_i S n14 3) &&& (st_i S h 3)) = 0 → wp_X7_leadingTo_41 h x1 x2 x3 S g Z4) ∧ (¬ ((st_i S n14 3) &&& (st_i S h 3)) = 0 → ∃ n18, x1 = some n18 ∧ st_t S n18 = some (10, 0) ∧ ∃ n21, (st_r S n18 6) = some n21 ∧ ∃ z24, st_t S n21 = some (114, z24) ∧ vp_in x3 z24 ∧ ∃ n26, (st_r S n21 (x3).toNatClampNeg) = some n26 ∧ st_t S n26 = some (4, 0) ∧ ∀ y29, y29 = (x2 ||| (st_i S n26 5)) → wp_X7_leadingTo_41 h x1 y29 x3 S g Z4))
def wp_X7_leadingTo_4 (h : Nat) (x1 : Option Nat) (x2 : Int32) (x3 : Int32) (S : xm_S) (g : Int32 → xm_S → Prop) : Prop :=
  ∀ Z4 : Option Nat → Int32 → Int32 → xm_S → Prop, (∀ x1 x2 x3 S, wp_X7_leadingTo_4B h x1 x2 x3 S g Z4 → Z4 x1 x2 x3 S) → Z4 x1 x2 x3 S
set_option maxRecDepth 100000 in
set_option maxHeartbeats 4000000 in
theorem kp_X7_leadingTo_4B {K : xm_K} (h : Nat) (x1 : Option Nat) (x2 : Int32) (x3 : Int32) (S : xm_S) {g : Int32 → xm_S → Prop} {Z4 : Option Nat → Int32 → Int32 → xm_S → Prop} (C : xm_Cx K cX7_leadingTo RX7 4 (some (FieldType.int)) rm_X7_leadingTo) (N : xm_Nx K) (hg : ∀ v S, g v S → xm_q K (some (xm_i v)) S) (hZ4 : ∀ x1 x2 x3 S, Z4 x1 x2 x3 S → xm_W K 0 0 4 [(0, xm_r (some h)), (1, xm_r x1), (2, xm_i x2), (3, xm_i x3)] [] S) (h1 : wp_X7_leadingTo_4B h x1 x2 x3 S g Z4) : xm_W K 0 0 4 [(0, xm_r (some h)), (1, xm_r x1), (2, xm_i x2), (3, xm_i x3)] [] S := by
  unfold wp_X7_leadingTo_4B at h1
  refine x_iload_n C 3 dX7_leadingTo_4 rfl rfl ?_
  refine x_aload_n C 1 dX7_leadingTo_5 rfl rfl ?_
  obtain ⟨n3, hr4, h1⟩ := h1
  obtain ⟨ht5, h1⟩ := h1
  refine x_getf_i (n := n3) C hr4 ht5 fd_53 (by decide) dX7_leadingTo_6 ?_
  refine x_icmp_ge (tgt := 47) C dX7_leadingTo_9 (by decide) (fun z9 => ?_) (fun z9 => ?_)
  · have h1 := h1.1 z9
    refine x_iload_n C 2 dX7_leadingTo_47 rfl rfl ?_
    exact x_iret C (Nat.le_of_ble_eq_true rfl) (Nat.le_of_ble_eq_true rfl) rfl dX7_leadingTo_48 (hg _ _ h1)
  · have h1 := h1.2 z9
    refine x_aload_n C 1 dX7_leadingTo_12 rfl rfl ?_
    obtain ⟨n6, hr7, h1⟩ := h1
    obtain ⟨ht8, h1⟩ := h1
    refine x_getf_r (n := n6) C hr7 ht8 fd_54 (by decide) dX7_leadingTo_13 ?_
    refine x_iload_n C 3 dX7_leadingTo_16 rfl rfl ?_
    obtain ⟨n9, hr10, h1⟩ := h1
    obtain ⟨z12, ht11, h1⟩ := h1
    obtain ⟨hi13, h1⟩ := h1
    refine x_aald (n := n9) C hr10 (by decide) rfl ht11 hi13 dX7_leadingTo_17 ?_
    obtain ⟨n14, hr15, h1⟩ := h1
    obtain ⟨ht16, h1⟩ := h1
    refine x_getf_i (n := n14) C hr15 ht16 fd_51 (by decide) dX7_leadingTo_18 ?_
    refine x_aload_n C 0 dX7_leadingTo_21 rfl rfl ?_
    obtain ⟨ht17, h1⟩ := h1
    refine x_getf_i (n := h) C rfl ht17 fd_52 (by decide) dX7_leadingTo_22 ?_
    refine x_iand C dX7_leadingTo_25 ?_
    refine x_if_eq (tgt := 41) C dX7_leadingTo_26 (by decide) (fun z9 => ?_) (fun z9 => ?_)
    · have h1 := h1.1 z9
      exact kp_X7_leadingTo_41 h x1 x2 x3 S C N hg hZ4 h1
    · have h1 := h1.2 z9
      refine x_iload_n C 2 dX7_leadingTo_29 rfl rfl ?_
      refine x_aload_n C 1 dX7_leadingTo_30 rfl rfl ?_
      obtain ⟨n18, hr19, h1⟩ := h1
      obtain ⟨ht20, h1⟩ := h1
      refine x_getf_r (n := n18) C hr19 ht20 fd_54 (by decide) dX7_leadingTo_31 ?_
      refine x_iload_n C 3 dX7_leadingTo_34 rfl rfl ?_
      obtain ⟨n21, hr22, h1⟩ := h1
      obtain ⟨z24, ht23, h1⟩ := h1
      obtain ⟨hi25, h1⟩ := h1
      refine x_aald (n := n21) C hr22 (by decide) rfl ht23 hi25 dX7_leadingTo_35 ?_
      obtain ⟨n26, hr27, h1⟩ := h1
      obtain ⟨ht28, h1⟩ := h1
      refine x_getf_i (n := n26) C hr27 ht28 fd_46 (by decide) dX7_leadingTo_36 ?_
      refine x_ior C dX7_leadingTo_39 ?_
      refine x_topi (fun y29 e30 => ?_)
      have h1 := h1 y29 e30
      refine x_istore_n (L' := [(2, xm_i y29), (0, xm_r (some h)), (1, xm_r x1), (3, xm_i x3)]) C dX7_leadingTo_40 rfl (by decide) rfl ?_
      refine x_keep (L' := [(0, xm_r (some h)), (1, xm_r x1), (2, xm_i y29), (3, xm_i x3)]) C [1, 2, 0, 3] rfl ?_
      exact kp_X7_leadingTo_41 h x1 y29 x3 S C N hg hZ4 h1
theorem kp_X7_leadingTo_4 {K : xm_K} (h : Nat) (x1 : Option Nat) (x2 : Int32) (x3 : Int32) (S : xm_S) {g : Int32 → xm_S → Prop} (C : xm_Cx K cX7_leadingTo RX7 4 (some (FieldType.int)) rm_X7_leadingTo) (N : xm_Nx K) (hg : ∀ v S, g v S → xm_q K (some (xm_i v)) S)  (h1 : wp_X7_leadingTo_4 h x1 x2 x3 S g) : xm_W K 0 0 4 [(0, xm_r (some h)), (1, xm_r x1), (2, xm_i x2), (3, xm_i x3)] [] S :=
  h1 (fun x1 x2 x3 S => xm_W K 0 0 4 [(0, xm_r (some h)), (1, xm_r x1), (2, xm_i x2), (3, xm_i x3)] [] S) (fun x1 x2 x3 S hb => kp_X7_leadingTo_4B h x1 x2 x3 S C N hg (fun x1 x2 x3 S hz => hz) hb)
def wp_X7_leadingTo (h : Nat) (x1 : Option Nat) (S : xm_S) (g : Int32 → xm_S → Prop) : Prop :=
  wp_X7_leadingTo_4 h x1 (0 : Int32) (0 : Int32) S g
set_option maxRecDepth 100000 in
set_option maxHeartbeats 4000000 in
theorem kp_X7_leadingTo {K : xm_K} (h : Nat) (x1 : Option Nat) (S : xm_S) {g : Int32 → xm_S → Prop} (C : xm_Cx K cX7_leadingTo RX7 4 (some (FieldType.int)) rm_X7_leadingTo) (N : xm_Nx K) (hg : ∀ v S, g v S → xm_q K (some (xm_i v)) S)  (h1 : wp_X7_leadingTo h x1 S g) : xm_W K 0 0 0 [(0, xm_r (some h)), (1, xm_r x1)] [] S := by
  unfold wp_X7_leadingTo at h1
  refine x_iconst (v := (0 : Int32)) C dX7_leadingTo_0 (by decide) ?_
  refine x_istore_n (L' := [(2, xm_i (0 : Int32)), (0, xm_r (some h)), (1, xm_r x1)]) C dX7_leadingTo_1 rfl (by decide) rfl ?_
  refine x_iconst (v := (0 : Int32)) C dX7_leadingTo_2 (by decide) ?_
  refine x_istore_n (L' := [(3, xm_i (0 : Int32)), (2, xm_i (0 : Int32)), (0, xm_r (some h)), (1, xm_r x1)]) C dX7_leadingTo_3 rfl (by decide) rfl ?_
  refine x_keep (L' := [(0, xm_r (some h)), (1, xm_r x1), (2, xm_i (0 : Int32)), (3, xm_i (0 : Int32))]) C [2, 3, 1, 0] rfl ?_
  exact kp_X7_leadingTo_4 h x1 (0 : Int32) (0 : Int32) S C N hg  h1
theorem kp_X7_leadingTo_met {h : Nat} {x1 : Option Nat} {S : xm_S} {g : Int32 → xm_S → Prop}  (h1 : wp_X7_leadingTo h x1 S g) : xm_Met yX7_leadingTo cX7_leadingTo 4 (some (FieldType.int)) rm_X7_leadingTo [xm_r (some h), xm_r x1] S (xm_qi g) xm_nox :=
  xm_ofW RX7 (by decide +kernel) rfl (Nat.le_of_ble_eq_true rfl) (fun K C N hq hx hi => kp_X7_leadingTo h x1 S C N (fun v S h => by rw [hq]; exact ⟨v, rfl, h⟩)  h1)
def rm_X10_provides : Room := { frames := 3, cells := 0, slots := 0, locals := 69 }
theorem dX10_provides_0 : decode cX10_provides 0 = .ok (.iconst 0, 1) := by decide +kernel
theorem dX10_provides_1 : decode cX10_provides 1 = .ok (.istore 4, 2) := by decide +kernel
theorem dX10_provides_3 : decode cX10_provides 3 = .ok (.iload 4, 2) := by decide +kernel
theorem dX10_provides_5 : decode cX10_provides 5 = .ok (.aload_n 0, 1) := by decide +kernel
theorem dX10_provides_6 : decode cX10_provides 6 = .ok (.getfield 41, 3) := by decide +kernel
theorem dX10_provides_9 : decode cX10_provides 9 = .ok (.if_icmp .ge 37, 3) := by decide +kernel
theorem dX10_provides_12 : decode cX10_provides 12 = .ok (.aload_n 0, 1) := by decide +kernel
theorem dX10_provides_13 : decode cX10_provides 13 = .ok (.getfield 34, 3) := by decide +kernel
theorem dX10_provides_16 : decode cX10_provides 16 = .ok (.iload 4, 2) := by decide +kernel
theorem dX10_provides_18 : decode cX10_provides 18 = .ok (.iaload, 1) := by decide +kernel
theorem dX10_provides_19 : decode cX10_provides 19 = .ok (.iload_n 1, 1) := by decide +kernel
theorem dX10_provides_20 : decode cX10_provides 20 = .ok (.if_icmp .ne 20, 3) := by decide +kernel
theorem dX10_provides_23 : decode cX10_provides 23 = .ok (.aload_n 2, 1) := by decide +kernel
theorem dX10_provides_24 : decode cX10_provides 24 = .ok (.aload_n 0, 1) := by decide +kernel
theorem dX10_provides_25 : decode cX10_provides 25 = .ok (.getfield 38, 3) := by decide +kernel
theorem dX10_provides_28 : decode cX10_provides 28 = .ok (.iload 4, 2) := by decide +kernel
theorem dX10_provides_30 : decode cX10_provides 30 = .ok (.iaload, 1) := by decide +kernel
theorem dX10_provides_31 : decode cX10_provides 31 = .ok (.iload_n 3, 1) := by decide +kernel
theorem dX10_provides_32 : decode cX10_provides 32 = .ok (.invokevirtual 78, 3) := by decide +kernel
theorem dX10_provides_35 : decode cX10_provides 35 = .ok (.ifCond .eq 5, 3) := by decide +kernel
theorem dX10_provides_38 : decode cX10_provides 38 = .ok (.iconst 1, 1) := by decide +kernel
theorem dX10_provides_39 : decode cX10_provides 39 = .ok (.ireturn, 1) := by decide +kernel
theorem dX10_provides_40 : decode cX10_provides 40 = .ok (.iinc 4 1, 3) := by decide +kernel
theorem dX10_provides_43 : decode cX10_provides 43 = .ok (.goto (-40), 3) := by decide +kernel
theorem dX10_provides_46 : decode cX10_provides 46 = .ok (.iconst 0, 1) := by decide +kernel
theorem dX10_provides_47 : decode cX10_provides 47 = .ok (.ireturn, 1) := by decide +kernel
def wp_X10_provides_40 (h : Nat) (x1 : Int32) (x2 : Option Nat) (x3 : Int32) (x4 : Int32) (S : xm_S) (g : Int32 → xm_S → Prop) (Z3 : Int32 → Option Nat → Int32 → Int32 → xm_S → Prop) : Prop :=
  ∀ y1, y1 = (x4 + (1 : Int32)) → Z3 x1 x2 x3 y1 S
set_option maxRecDepth 100000 in
set_option maxHeartbeats 4000000 in
theorem kp_X10_provides_40 {K : xm_K} (h : Nat) (x1 : Int32) (x2 : Option Nat) (x3 : Int32) (x4 : Int32) (S : xm_S) {g : Int32 → xm_S → Prop} {Z3 : Int32 → Option Nat → Int32 → Int32 → xm_S → Prop} (C : xm_Cx K cX10_provides RX10 5 (some (FieldType.boolean)) rm_X10_provides) (N : xm_Nx K) (hg : ∀ v S, g v S → xm_q K (some (xm_i v)) S) (hZ3 : ∀ x1 x2 x3 x4 S, Z3 x1 x2 x3 x4 S → xm_W K 0 0 3 [(0, xm_r (some h)), (1, xm_i x1), (2, xm_r x2), (3, xm_i x3), (4, xm_i x4)] [] S) (h1 : wp_X10_provides_40 h x1 x2 x3 x4 S g Z3) : xm_W K 0 0 40 [(0, xm_r (some h)), (1, xm_i x1), (2, xm_r x2), (3, xm_i x3), (4, xm_i x4)] [] S := by
  unfold wp_X10_provides_40 at h1
  obtain ⟨y1, e2⟩ : ∃ y1, y1 = (x4 + (1 : Int32)) := ⟨_, rfl⟩
  have h1 := h1 y1 e2
  refine x_iinc (v := y1) (L' := [(4, xm_i y1), (0, xm_r (some h)), (1, xm_i x1), (2, xm_r x2), (3, xm_i x3)]) C 4 dX10_provides_40 rfl (by rw [e2]; rfl) (by decide) rfl ?_
  refine x_goto (tgt := 3) C dX10_provides_43 (by decide) ?_
  refine x_keep (L' := [(0, xm_r (some h)), (1, xm_i x1), (2, xm_r x2), (3, xm_i x3), (4, xm_i y1)]) C [1, 2, 3, 4, 0] rfl ?_
  exact hZ3 x1 x2 x3 y1 S h1
def wp_X10_provides_3B (h : Nat) (x1 : Int32) (x2 : Option Nat) (x3 : Int32) (x4 : Int32) (S : xm_S) (g : Int32 → xm_S → Prop) (Z3 : Int32 → Option Nat → Int32 → Int32 → xm_S → Prop) : Prop :=
  st_t S h = some (10, 0) ∧ ((st_i S h 12) ≤ x4 → g (0 : Int32) S) ∧ (¬ (st_i S h 12) ≤ x4 → ∃ n4, (st_r S h 10) = some n4 ∧ ∃ z7, st_t S n4 = some (100, z7) ∧ vp_in x4 z7 ∧ (¬ (st_i S n4 (x4).toNatClampNeg) = x1 → wp_X10_provides_40 h x1 x2 x3 x4 S g Z3) ∧ ((st_i S n4 (x4).toNatClampNeg) = x1 → ∃ n9, (st_r S h 11) = some n9 ∧ ∃ z12, st_t S n9 = some (100, z12) ∧ vp_in x4 z12 ∧ ∃ n14, x2 = some n14 ∧ st_t S n14 = some (6, 0) ∧ wp_X6_includes n14 (st_i S n9 (x4).toNatClampNeg) x3 S (fun r18 S17 => (r18 = 0 → wp_X10_provides_40 h x1 x2 x3 x4 S17 g Z3) ∧ (¬ r18 = 0 → g (1 : Int32) S17))))
def wp_X10_provides_3 (h : Nat) (x1 : Int32) (x2 : Option Nat) (x3 : Int32) (x4 : Int32) (S : xm_S) (g : Int32 → xm_S → Prop) : Prop :=
  ∀ Z3 : Int32 → Option Nat → Int32 → Int32 → xm_S → Prop, (∀ x1 x2 x3 x4 S, wp_X10_provides_3B h x1 x2 x3 x4 S g Z3 → Z3 x1 x2 x3 x4 S) → Z3 x1 x2 x3 x4 S
set_option maxRecDepth 100000 in
set_option maxHeartbeats 4000000 in
theorem kp_X10_provides_3B {K : xm_K} (h : Nat) (x1 : Int32) (x2 : Option Nat) (x3 : Int32) (x4 : Int32) (S : xm_S) {g : Int32 → xm_S → Prop} {Z3 : Int32 → Option Nat → Int32 → Int32 → xm_S → Prop} (C : xm_Cx K cX10_provides RX10 5 (some (FieldType.boolean)) rm_X10_provides) (N : xm_Nx K) (hg : ∀ v S, g v S → xm_q K (some (xm_i v)) S) (hZ3 : ∀ x1 x2 x3 x4 S, Z3 x1 x2 x3 x4 S → xm_W K 0 0 3 [(0, xm_r (some h)), (1, xm_i x1), (2, xm_r x2), (3, xm_i x3), (4, xm_i x4)] [] S) (h1 : wp_X10_provides_3B h x1 x2 x3 x4 S g Z3) : xm_W K 0 0 3 [(0, xm_r (some h)), (1, xm_i x1), (2, xm_r x2), (3, xm_i x3), (4, xm_i x4)] [] S := by
  unfold wp_X10_provides_3B at h1
  refine x_iload C 4 dX10_provides_3 rfl ?_
  refine x_aload_n C 0 dX10_provides_5 rfl rfl ?_
  obtain ⟨ht3, h1⟩ := h1
  refine x_getf_i (n := h) C rfl ht3 fd_73 (by decide) dX10_provides_6 ?_
  refine x_icmp_ge (tgt := 46) C dX10_provides_9 (by decide) (fun z9 => ?_) (fun z9 => ?_)
  · have h1 := h1.1 z9
    refine x_iconst (v := (0 : Int32)) C dX10_provides_46 (by decide) ?_
    exact x_zret C (Nat.le_of_ble_eq_true rfl) (Nat.le_of_ble_eq_true rfl) rfl (by decide) dX10_provides_47 (hg _ _ h1)
  · have h1 := h1.2 z9
    refine x_aload_n C 0 dX10_provides_12 rfl rfl ?_
    refine x_getf_r (n := h) C rfl ht3 fd_74 (by decide) dX10_provides_13 ?_
    refine x_iload C 4 dX10_provides_16 rfl ?_
    obtain ⟨n4, hr5, h1⟩ := h1
    obtain ⟨z7, ht6, h1⟩ := h1
    obtain ⟨hi8, h1⟩ := h1
    refine x_iald (n := n4) C hr5 ht6 hi8 dX10_provides_18 ?_
    refine x_iload_n C 1 dX10_provides_19 rfl rfl ?_
    refine x_icmp_ne (tgt := 40) C dX10_provides_20 (by decide) (fun z9 => ?_) (fun z9 => ?_)
    · have h1 := h1.1 z9
      exact kp_X10_provides_40 h x1 x2 x3 x4 S C N hg hZ3 h1
    · have h1 := h1.2 z9
      refine x_aload_n C 2 dX10_provides_23 rfl rfl ?_
      refine x_aload_n C 0 dX10_provides_24 rfl rfl ?_
      refine x_getf_r (n := h) C rfl ht3 fd_75 (by decide) dX10_provides_25 ?_
      refine x_iload C 4 dX10_provides_28 rfl ?_
      obtain ⟨n9, hr10, h1⟩ := h1
      obtain ⟨z12, ht11, h1⟩ := h1
      obtain ⟨hi13, h1⟩ := h1
      refine x_iald (n := n9) C hr10 ht11 hi13 dX10_provides_30 ?_
      refine x_iload_n C 3 dX10_provides_31 rfl rfl ?_
      obtain ⟨n14, hr15, h1⟩ := h1
      obtain ⟨ht16, h1⟩ := h1
      refine x_callV (rm' := rm_X6_includes) (n := n14) C (kp_X6_includes_met h1) lk_19 gw_168 gw_169 xv_6 rfl hr15 ht16 rfl (Nat.le_of_ble_eq_true rfl) ⟨Nat.le_of_ble_eq_true rfl, Nat.le_of_ble_eq_true rfl, (Nat.le_of_ble_eq_true rfl), (Nat.le_of_ble_eq_true rfl)⟩ dX10_provides_32 xm_kx (xm_ki (fun r18 S17 h1 => ?_))
      refine x_if_eq (tgt := 40) C dX10_provides_35 (by decide) (fun z9 => ?_) (fun z9 => ?_)
      · have h1 := h1.1 z9
        exact kp_X10_provides_40 h x1 x2 x3 x4 S17 C N hg hZ3 h1
      · have h1 := h1.2 z9
        refine x_iconst (v := (1 : Int32)) C dX10_provides_38 (by decide) ?_
        exact x_zret C (Nat.le_of_ble_eq_true rfl) (Nat.le_of_ble_eq_true rfl) rfl (by decide) dX10_provides_39 (hg _ _ h1)
theorem kp_X10_provides_3 {K : xm_K} (h : Nat) (x1 : Int32) (x2 : Option Nat) (x3 : Int32) (x4 : Int32) (S : xm_S) {g : Int32 → xm_S → Prop} (C : xm_Cx K cX10_provides RX10 5 (some (FieldType.boolean)) rm_X10_provides) (N : xm_Nx K) (hg : ∀ v S, g v S → xm_q K (some (xm_i v)) S)  (h1 : wp_X10_provides_3 h x1 x2 x3 x4 S g) : xm_W K 0 0 3 [(0, xm_r (some h)), (1, xm_i x1), (2, xm_r x2), (3, xm_i x3), (4, xm_i x4)] [] S :=
  h1 (fun x1 x2 x3 x4 S => xm_W K 0 0 3 [(0, xm_r (some h)), (1, xm_i x1), (2, xm_r x2), (3, xm_i x3), (4, xm_i x4)] [] S) (fun x1 x2 x3 x4 S hb => kp_X10_provides_3B h x1 x2 x3 x4 S C N hg (fun x1 x2 x3 x4 S hz => hz) hb)
def wp_X10_provides (h : Nat) (x1 : Int32) (x2 : Option Nat) (x3 : Int32) (S : xm_S) (g : Int32 → xm_S → Prop) : Prop :=
  wp_X10_provides_3 h x1 x2 x3 (0 : Int32) S g
set_option maxRecDepth 100000 in
set_option maxHeartbeats 4000000 in
theorem kp_X10_provides {K : xm_K} (h : Nat) (x1 : Int32) (x2 : Option Nat) (x3 : Int32) (S : xm_S) {g : Int32 → xm_S → Prop} (C : xm_Cx K cX10_provides RX10 5 (some (FieldType.boolean)) rm_X10_provides) (N : xm_Nx K) (hg : ∀ v S, g v S → xm_q K (some (xm_i v)) S)  (h1 : wp_X10_provides h x1 x2 x3 S g) : xm_W K 0 0 0 [(0, xm_r (some h)), (1, xm_i x1), (2, xm_r x2), (3, xm_i x3)] [] S := by
  unfold wp_X10_provides at h1
  refine x_iconst (v := (0 : Int32)) C dX10_provides_0 (by decide) ?_
  refine x_istore (L' := [(4, xm_i (0 : Int32)), (0, xm_r (some h)), (1, xm_i x1), (2, xm_r x2), (3, xm_i x3)]) C dX10_provides_1 (by decide) rfl ?_
  refine x_keep (L' := [(0, xm_r (some h)), (1, xm_i x1), (2, xm_r x2), (3, xm_i x3), (4, xm_i (0 : Int32))]) C [1, 2, 3, 4, 0] rfl ?_
  exact kp_X10_provides_3 h x1 x2 x3 (0 : Int32) S C N hg  h1
theorem kp_X10_provides_met {h : Nat} {x1 : Int32} {x2 : Option Nat} {x3 : Int32} {S : xm_S} {g : Int32 → xm_S → Prop}  (h1 : wp_X10_provides h x1 x2 x3 S g) : xm_Met yX10_provides cX10_provides 5 (some (FieldType.boolean)) rm_X10_provides [xm_r (some h), xm_i x1, xm_r x2, xm_i x3] S (xm_qi g) xm_nox :=
  xm_ofW RX10 (by decide +kernel) rfl (Nat.le_of_ble_eq_true rfl) (fun K C N hq hx hi => kp_X10_provides h x1 x2 x3 S C N (fun v S h => by rw [hq]; exact ⟨v, rfl, h⟩)  h1)
def rm_X7_meeting : Room := { frames := 4, cells := 0, slots := 0, locals := 93 }
theorem dX7_meeting_0 : decode cX7_meeting 0 = .ok (.aload_n 0, 1) := by decide +kernel
theorem dX7_meeting_1 : decode cX7_meeting 1 = .ok (.getfield 9, 3) := by decide +kernel
theorem dX7_meeting_4 : decode cX7_meeting 4 = .ok (.aload_n 1, 1) := by decide +kernel
theorem dX7_meeting_5 : decode cX7_meeting 5 = .ok (.getfield 113, 3) := by decide +kernel
theorem dX7_meeting_8 : decode cX7_meeting 8 = .ok (.aaload, 1) := by decide +kernel
theorem dX7_meeting_9 : decode cX7_meeting 9 = .ok (.getfield 116, 3) := by decide +kernel
theorem dX7_meeting_12 : decode cX7_meeting 12 = .ok (.istore_n 2, 1) := by decide +kernel
theorem dX7_meeting_13 : decode cX7_meeting 13 = .ok (.iconst 0, 1) := by decide +kernel
theorem dX7_meeting_14 : decode cX7_meeting 14 = .ok (.istore_n 3, 1) := by decide +kernel
theorem dX7_meeting_15 : decode cX7_meeting 15 = .ok (.iconst 0, 1) := by decide +kernel
theorem dX7_meeting_16 : decode cX7_meeting 16 = .ok (.istore 4, 2) := by decide +kernel
theorem dX7_meeting_18 : decode cX7_meeting 18 = .ok (.iload 4, 2) := by decide +kernel
theorem dX7_meeting_20 : decode cX7_meeting 20 = .ok (.bipush 6, 2) := by decide +kernel
theorem dX7_meeting_22 : decode cX7_meeting 22 = .ok (.if_icmp .ge 146, 3) := by decide +kernel
theorem dX7_meeting_25 : decode cX7_meeting 25 = .ok (.iconst 0, 1) := by decide +kernel
theorem dX7_meeting_26 : decode cX7_meeting 26 = .ok (.istore 5, 2) := by decide +kernel
theorem dX7_meeting_28 : decode cX7_meeting 28 = .ok (.iload 5, 2) := by decide +kernel
theorem dX7_meeting_30 : decode cX7_meeting 30 = .ok (.aload_n 0, 1) := by decide +kernel
theorem dX7_meeting_31 : decode cX7_meeting 31 = .ok (.getfield 9, 3) := by decide +kernel
theorem dX7_meeting_34 : decode cX7_meeting 34 = .ok (.iload 4, 2) := by decide +kernel
theorem dX7_meeting_36 : decode cX7_meeting 36 = .ok (.aaload, 1) := by decide +kernel
theorem dX7_meeting_37 : decode cX7_meeting 37 = .ok (.getfield 78, 3) := by decide +kernel
theorem dX7_meeting_40 : decode cX7_meeting 40 = .ok (.if_icmp .ge 122, 3) := by decide +kernel
theorem dX7_meeting_43 : decode cX7_meeting 43 = .ok (.aload_n 0, 1) := by decide +kernel
theorem dX7_meeting_44 : decode cX7_meeting 44 = .ok (.getfield 9, 3) := by decide +kernel
theorem dX7_meeting_47 : decode cX7_meeting 47 = .ok (.iload 4, 2) := by decide +kernel
theorem dX7_meeting_49 : decode cX7_meeting 49 = .ok (.aaload, 1) := by decide +kernel
theorem dX7_meeting_50 : decode cX7_meeting 50 = .ok (.getfield 83, 3) := by decide +kernel
theorem dX7_meeting_53 : decode cX7_meeting 53 = .ok (.iload 5, 2) := by decide +kernel
theorem dX7_meeting_55 : decode cX7_meeting 55 = .ok (.aaload, 1) := by decide +kernel
theorem dX7_meeting_56 : decode cX7_meeting 56 = .ok (.astore 6, 2) := by decide +kernel
theorem dX7_meeting_58 : decode cX7_meeting 58 = .ok (.iload 4, 2) := by decide +kernel
theorem dX7_meeting_60 : decode cX7_meeting 60 = .ok (.aload_n 1, 1) := by decide +kernel
theorem dX7_meeting_61 : decode cX7_meeting 61 = .ok (.getfield 113, 3) := by decide +kernel
theorem dX7_meeting_64 : decode cX7_meeting 64 = .ok (.if_icmp .ne 42, 3) := by decide +kernel
theorem dX7_meeting_67 : decode cX7_meeting 67 = .ok (.aload_n 1, 1) := by decide +kernel
theorem dX7_meeting_68 : decode cX7_meeting 68 = .ok (.getfield 119, 3) := by decide +kernel
theorem dX7_meeting_71 : decode cX7_meeting 71 = .ok (.aload 6, 2) := by decide +kernel
theorem dX7_meeting_73 : decode cX7_meeting 73 = .ok (.getfield 122, 3) := by decide +kernel
theorem dX7_meeting_76 : decode cX7_meeting 76 = .ok (.iconst (-1), 1) := by decide +kernel
theorem dX7_meeting_77 : decode cX7_meeting 77 = .ok (.ixor, 1) := by decide +kernel
theorem dX7_meeting_78 : decode cX7_meeting 78 = .ok (.iand, 1) := by decide +kernel
theorem dX7_meeting_79 : decode cX7_meeting 79 = .ok (.ifCond .ne 23, 3) := by decide +kernel
theorem dX7_meeting_82 : decode cX7_meeting 82 = .ok (.aload_n 1, 1) := by decide +kernel
theorem dX7_meeting_83 : decode cX7_meeting 83 = .ok (.getfield 123, 3) := by decide +kernel
theorem dX7_meeting_86 : decode cX7_meeting 86 = .ok (.aload 6, 2) := by decide +kernel
theorem dX7_meeting_88 : decode cX7_meeting 88 = .ok (.getfield 127, 3) := by decide +kernel
theorem dX7_meeting_91 : decode cX7_meeting 91 = .ok (.iload_n 2, 1) := by decide +kernel
theorem dX7_meeting_92 : decode cX7_meeting 92 = .ok (.invokevirtual 130, 3) := by decide +kernel
theorem dX7_meeting_95 : decode cX7_meeting 95 = .ok (.ifCond .eq 7, 3) := by decide +kernel
theorem dX7_meeting_98 : decode cX7_meeting 98 = .ok (.iconst 1, 1) := by decide +kernel
theorem dX7_meeting_99 : decode cX7_meeting 99 = .ok (.goto 36, 3) := by decide +kernel
theorem dX7_meeting_102 : decode cX7_meeting 102 = .ok (.iconst 0, 1) := by decide +kernel
theorem dX7_meeting_103 : decode cX7_meeting 103 = .ok (.goto 32, 3) := by decide +kernel
theorem dX7_meeting_106 : decode cX7_meeting 106 = .ok (.aload_n 1, 1) := by decide +kernel
theorem dX7_meeting_107 : decode cX7_meeting 107 = .ok (.getfield 119, 3) := by decide +kernel
theorem dX7_meeting_110 : decode cX7_meeting 110 = .ok (.ifCond .ne 24, 3) := by decide +kernel
theorem dX7_meeting_113 : decode cX7_meeting 113 = .ok (.aload 6, 2) := by decide +kernel
theorem dX7_meeting_115 : decode cX7_meeting 115 = .ok (.aload_n 1, 1) := by decide +kernel
theorem dX7_meeting_116 : decode cX7_meeting 116 = .ok (.getfield 113, 3) := by decide +kernel
theorem dX7_meeting_119 : decode cX7_meeting 119 = .ok (.aload_n 1, 1) := by decide +kernel
theorem dX7_meeting_120 : decode cX7_meeting 120 = .ok (.getfield 123, 3) := by decide +kernel
theorem dX7_meeting_123 : decode cX7_meeting 123 = .ok (.iload_n 2, 1) := by decide +kernel
theorem dX7_meeting_124 : decode cX7_meeting 124 = .ok (.invokevirtual 136, 3) := by decide +kernel
theorem dX7_meeting_127 : decode cX7_meeting 127 = .ok (.ifCond .eq 7, 3) := by decide +kernel
theorem dX7_meeting_130 : decode cX7_meeting 130 = .ok (.iconst 1, 1) := by decide +kernel
theorem dX7_meeting_131 : decode cX7_meeting 131 = .ok (.goto 4, 3) := by decide +kernel
theorem dX7_meeting_134 : decode cX7_meeting 134 = .ok (.iconst 0, 1) := by decide +kernel
theorem dX7_meeting_135 : decode cX7_meeting 135 = .ok (.istore 7, 2) := by decide +kernel
theorem dX7_meeting_137 : decode cX7_meeting 137 = .ok (.iload_n 3, 1) := by decide +kernel
theorem dX7_meeting_138 : decode cX7_meeting 138 = .ok (.iload 7, 2) := by decide +kernel
theorem dX7_meeting_140 : decode cX7_meeting 140 = .ok (.ifCond .eq 13, 3) := by decide +kernel
theorem dX7_meeting_143 : decode cX7_meeting 143 = .ok (.iload 4, 2) := by decide +kernel
theorem dX7_meeting_145 : decode cX7_meeting 145 = .ok (.iload 5, 2) := by decide +kernel
theorem dX7_meeting_147 : decode cX7_meeting 147 = .ok (.invokestatic 109, 3) := by decide +kernel
theorem dX7_meeting_150 : decode cX7_meeting 150 = .ok (.goto 4, 3) := by decide +kernel
theorem dX7_meeting_153 : decode cX7_meeting 153 = .ok (.iconst 0, 1) := by decide +kernel
theorem dX7_meeting_154 : decode cX7_meeting 154 = .ok (.ior, 1) := by decide +kernel
theorem dX7_meeting_155 : decode cX7_meeting 155 = .ok (.istore_n 3, 1) := by decide +kernel
theorem dX7_meeting_156 : decode cX7_meeting 156 = .ok (.iinc 5 1, 3) := by decide +kernel
theorem dX7_meeting_159 : decode cX7_meeting 159 = .ok (.goto (-131), 3) := by decide +kernel
theorem dX7_meeting_162 : decode cX7_meeting 162 = .ok (.iinc 4 1, 3) := by decide +kernel
theorem dX7_meeting_165 : decode cX7_meeting 165 = .ok (.goto (-147), 3) := by decide +kernel
theorem dX7_meeting_168 : decode cX7_meeting 168 = .ok (.iload_n 3, 1) := by decide +kernel
theorem dX7_meeting_169 : decode cX7_meeting 169 = .ok (.ireturn, 1) := by decide +kernel
def wp_X7_meeting_154 (h : Nat) (x1 : Option Nat) (x2 : Int32) (x4 : Int32) (x5 : Int32) (s0 : Int32) (s1 : Int32) (S : xm_S) (g : Int32 → xm_S → Prop) (Z18 : Option Nat → Int32 → Int32 → Int32 → xm_S → Prop) (Z28 : Option Nat → Int32 → Int32 → Int32 → Int32 → xm_S → Prop) : Prop :=
  ∀ y1, y1 = (s1 ||| s0) → ∀ y3, y3 = (x5 + (1 : Int32)) → Z28 x1 x2 y1 x4 y3 S
set_option maxRecDepth 100000 in
set_option maxHeartbeats 4000000 in
theorem kp_X7_meeting_154 {K : xm_K} (h : Nat) (x1 : Option Nat) (x2 : Int32) (x4 : Int32) (x5 : Int32) (s0 : Int32) (s1 : Int32) (S : xm_S) {g : Int32 → xm_S → Prop} {Z18 : Option Nat → Int32 → Int32 → Int32 → xm_S → Prop} {Z28 : Option Nat → Int32 → Int32 → Int32 → Int32 → xm_S → Prop} (C : xm_Cx K cX7_meeting RX7 8 (some (FieldType.int)) rm_X7_meeting) (N : xm_Nx K) (hg : ∀ v S, g v S → xm_q K (some (xm_i v)) S) (hZ18 : ∀ x1 x2 x3 x4 S, Z18 x1 x2 x3 x4 S → xm_W K 0 0 18 [(0, xm_r (some h)), (1, xm_r x1), (2, xm_i x2), (3, xm_i x3), (4, xm_i x4)] [] S) (hZ28 : ∀ x1 x2 x3 x4 x5 S, Z28 x1 x2 x3 x4 x5 S → xm_W K 0 0 28 [(0, xm_r (some h)), (1, xm_r x1), (2, xm_i x2), (3, xm_i x3), (4, xm_i x4), (5, xm_i x5)] [] S) (h1 : wp_X7_meeting_154 h x1 x2 x4 x5 s0 s1 S g Z18 Z28) : xm_W K 0 0 154 [(0, xm_r (some h)), (1, xm_r x1), (2, xm_i x2), (4, xm_i x4), (5, xm_i x5)] [xm_i s0, xm_i s1] S := by
  unfold wp_X7_meeting_154 at h1
  refine x_ior C dX7_meeting_154 ?_
  refine x_topi (fun y1 e2 => ?_)
  have h1 := h1 y1 e2
  refine x_istore_n (L' := [(3, xm_i y1), (0, xm_r (some h)), (1, xm_r x1), (2, xm_i x2), (4, xm_i x4), (5, xm_i x5)]) C dX7_meeting_155 rfl (by decide) rfl ?_
  obtain ⟨y3, e4⟩ : ∃ y3, y3 = (x5 + (1 : Int32)) := ⟨_, rfl⟩
  have h1 := h1 y3 e4
  refine x_iinc (v := y3) (L' := [(5, xm_i y3), (3, xm_i y1), (0, xm_r (some h)), (1, xm_r x1), (2, xm_i x2), (4, xm_i x4)]) C 5 dX7_meeting_156 rfl (by rw [e4]; rfl) (by decide) rfl ?_
  refine x_goto (tgt := 28) C dX7_meeting_159 (by decide) ?_
  refine x_keep (L' := [(0, xm_r (some h)), (1, xm_r x1), (2, xm_i x2), (3, xm_i y1), (4, xm_i x4), (5, xm_i y3)]) C [2, 3, 4, 1, 5, 0] rfl ?_
  exact hZ28 x1 x2 y1 x4 y3 S h1
def wp_X7_meeting_135 (h : Nat) (x1 : Option Nat) (x2 : Int32) (x3 : Int32) (x4 : Int32) (x5 : Int32) (s0 : Int32) (S : xm_S) (g : Int32 → xm_S → Prop) (Z18 : Option Nat → Int32 → Int32 → Int32 → xm_S → Prop) (Z28 : Option Nat → Int32 → Int32 → Int32 → Int32 → xm_S → Prop) : Prop :=
  (s0 = 0 → wp_X7_meeting_154 h x1 x2 x4 x5 (0 : Int32) x3 S g Z18 Z28) ∧ (¬ s0 = 0 → wp_X7_bitOf x4 x5 S (fun r6 S5 => wp_X7_meeting_154 h x1 x2 x4 x5 r6 x3 S5 g Z18 Z28))
set_option maxRecDepth 100000 in
set_option maxHeartbeats 4000000 in
theorem kp_X7_meeting_135 {K : xm_K} (h : Nat) (x1 : Option Nat) (x2 : Int32) (x3 : Int32) (x4 : Int32) (x5 : Int32) (s0 : Int32) (S : xm_S) {g : Int32 → xm_S → Prop} {Z18 : Option Nat → Int32 → Int32 → Int32 → xm_S → Prop} {Z28 : Option Nat → Int32 → Int32 → Int32 → Int32 → xm_S → Prop} (C : xm_Cx K cX7_meeting RX7 8 (some (FieldType.int)) rm_X7_meeting) (N : xm_Nx K) (hg : ∀ v S, g v S → xm_q K (some (xm_i v)) S) (hZ18 : ∀ x1 x2 x3 x4 S, Z18 x1 x2 x3 x4 S → xm_W K 0 0 18 [(0, xm_r (some h)), (1, xm_r x1), (2, xm_i x2), (3, xm_i x3), (4, xm_i x4)] [] S) (hZ28 : ∀ x1 x2 x3 x4 x5 S, Z28 x1 x2 x3 x4 x5 S → xm_W K 0 0 28 [(0, xm_r (some h)), (1, xm_r x1), (2, xm_i x2), (3, xm_i x3), (4, xm_i x4), (5, xm_i x5)] [] S) (h1 : wp_X7_meeting_135 h x1 x2 x3 x4 x5 s0 S g Z18 Z28) : xm_W K 0 0 135 [(0, xm_r (some h)), (1, xm_r x1), (2, xm_i x2), (3, xm_i x3), (4, xm_i x4), (5, xm_i x5)] [xm_i s0] S := by
  unfold wp_X7_meeting_135 at h1
  refine x_istore (L' := [(7, xm_i s0), (0, xm_r (some h)), (1, xm_r x1), (2, xm_i x2), (3, xm_i x3), (4, xm_i x4), (5, xm_i x5)]) C dX7_meeting_135 (by decide) rfl ?_
  refine x_iload_n C 4 dX7_meeting_137 rfl rfl ?_
  refine x_iload C 0 dX7_meeting_138 rfl ?_
  refine x_if_eq (tgt := 153) C dX7_meeting_140 (by decide) (fun z9 => ?_) (fun z9 => ?_)
  · have h1 := h1.1 z9
    refine x_iconst (v := (0 : Int32)) C dX7_meeting_153 (by decide) ?_
    refine x_keep (L' := [(0, xm_r (some h)), (1, xm_r x1), (2, xm_i x2), (4, xm_i x4), (5, xm_i x5)]) C [1, 2, 3, 5, 6] rfl ?_
    exact kp_X7_meeting_154 h x1 x2 x4 x5 (0 : Int32) x3 S C N hg hZ18 hZ28 h1
  · have h1 := h1.2 z9
    refine x_iload C 5 dX7_meeting_143 rfl ?_
    refine x_iload C 6 dX7_meeting_145 rfl ?_
    refine x_callS (rm' := rm_X7_bitOf) C (kp_X7_bitOf_met h1) lk_14 gw_129 rfl (Nat.le_of_ble_eq_true rfl) ⟨Nat.le_of_ble_eq_true rfl, Nat.le_of_ble_eq_true rfl, (Nat.le_of_ble_eq_true rfl), (Nat.le_of_ble_eq_true rfl)⟩ dX7_meeting_147 xm_kx (xm_ki (fun r6 S5 h1 => ?_))
    refine x_goto (tgt := 154) C dX7_meeting_150 (by decide) ?_
    refine x_keep (L' := [(0, xm_r (some h)), (1, xm_r x1), (2, xm_i x2), (4, xm_i x4), (5, xm_i x5)]) C [1, 2, 3, 5, 6] rfl ?_
    exact kp_X7_meeting_154 h x1 x2 x4 x5 r6 x3 S5 C N hg hZ18 hZ28 h1
def wp_X7_meeting_102 (h : Nat) (x1 : Option Nat) (x2 : Int32) (x3 : Int32) (x4 : Int32) (x5 : Int32) (S : xm_S) (g : Int32 → xm_S → Prop) (Z18 : Option Nat → Int32 → Int32 → Int32 → xm_S → Prop) (Z28 : Option Nat → Int32 → Int32 → Int32 → Int32 → xm_S → Prop) : Prop :=
  wp_X7_meeting_135 h x1 x2 x3 x4 x5 (0 : Int32) S g Z18 Z28
set_option maxRecDepth 100000 in
set_option maxHeartbeats 4000000 in
theorem kp_X7_meeting_102 {K : xm_K} (h : Nat) (x1 : Option Nat) (x2 : Int32) (x3 : Int32) (x4 : Int32) (x5 : Int32) (S : xm_S) {g : Int32 → xm_S → Prop} {Z18 : Option Nat → Int32 → Int32 → Int32 → xm_S → Prop} {Z28 : Option Nat → Int32 → Int32 → Int32 → Int32 → xm_S → Prop} (C : xm_Cx K cX7_meeting RX7 8 (some (FieldType.int)) rm_X7_meeting) (N : xm_Nx K) (hg : ∀ v S, g v S → xm_q K (some (xm_i v)) S) (hZ18 : ∀ x1 x2 x3 x4 S, Z18 x1 x2 x3 x4 S → xm_W K 0 0 18 [(0, xm_r (some h)), (1, xm_r x1), (2, xm_i x2), (3, xm_i x3), (4, xm_i x4)] [] S) (hZ28 : ∀ x1 x2 x3 x4 x5 S, Z28 x1 x2 x3 x4 x5 S → xm_W K 0 0 28 [(0, xm_r (some h)), (1, xm_r x1), (2, xm_i x2), (3, xm_i x3), (4, xm_i x4), (5, xm_i x5)] [] S) (h1 : wp_X7_meeting_102 h x1 x2 x3 x4 x5 S g Z18 Z28) : xm_W K 0 0 102 [(0, xm_r (some h)), (1, xm_r x1), (2, xm_i x2), (3, xm_i x3), (4, xm_i x4), (5, xm_i x5)] [] S := by
  unfold wp_X7_meeting_102 at h1
  refine x_iconst (v := (0 : Int32)) C dX7_meeting_102 (by decide) ?_
  refine x_goto (tgt := 135) C dX7_meeting_103 (by decide) ?_
  exact kp_X7_meeting_135 h x1 x2 x3 x4 x5 (0 : Int32) S C N hg hZ18 hZ28 h1
def wp_X7_meeting_134 (h : Nat) (x1 : Option Nat) (x2 : Int32) (x3 : Int32) (x4 : Int32) (x5 : Int32) (S : xm_S) (g : Int32 → xm_S → Prop) (Z18 : Option Nat → Int32 → Int32 → Int32 → xm_S → Prop) (Z28 : Option Nat → Int32 → Int32 → Int32 → Int32 → xm_S → Prop) : Prop :=
  wp_X7_meeting_135 h x1 x2 x3 x4 x5 (0 : Int32) S g Z18 Z28
set_option maxRecDepth 100000 in
set_option maxHeartbeats 4000000 in
theorem kp_X7_meeting_134 {K : xm_K} (h : Nat) (x1 : Option Nat) (x2 : Int32) (x3 : Int32) (x4 : Int32) (x5 : Int32) (S : xm_S) {g : Int32 → xm_S → Prop} {Z18 : Option Nat → Int32 → Int32 → Int32 → xm_S → Prop} {Z28 : Option Nat → Int32 → Int32 → Int32 → Int32 → xm_S → Prop} (C : xm_Cx K cX7_meeting RX7 8 (some (FieldType.int)) rm_X7_meeting) (N : xm_Nx K) (hg : ∀ v S, g v S → xm_q K (some (xm_i v)) S) (hZ18 : ∀ x1 x2 x3 x4 S, Z18 x1 x2 x3 x4 S → xm_W K 0 0 18 [(0, xm_r (some h)), (1, xm_r x1), (2, xm_i x2), (3, xm_i x3), (4, xm_i x4)] [] S) (hZ28 : ∀ x1 x2 x3 x4 x5 S, Z28 x1 x2 x3 x4 x5 S → xm_W K 0 0 28 [(0, xm_r (some h)), (1, xm_r x1), (2, xm_i x2), (3, xm_i x3), (4, xm_i x4), (5, xm_i x5)] [] S) (h1 : wp_X7_meeting_134 h x1 x2 x3 x4 x5 S g Z18 Z28) : xm_W K 0 0 134 [(0, xm_r (some h)), (1, xm_r x1), (2, xm_i x2), (3, xm_i x3), (4, xm_i x4), (5, xm_i x5)] [] S := by
  unfold wp_X7_meeting_134 at h1
  refine x_iconst (v := (0 : Int32)) C dX7_meeting_134 (by decide) ?_
  exact kp_X7_meeting_135 h x1 x2 x3 x4 x5 (0 : Int32) S C N hg hZ18 hZ28 h1
def wp_X7_meeting_28B (h : Nat) (x1 : Option Nat) (x2 : Int32) (x3 : Int32) (x4 : Int32) (x5 : Int32) (S : xm_S) (g : Int32 → xm_S → Prop) (Z18 : Option Nat → Int32 → Int32 → Int32 → xm_S → Prop) (Z28 : Option Nat → Int32 → Int32 → Int32 → Int32 → xm_S → Prop) : Prop :=
  st_t S h = some (7, 0) ∧ ∃ n8, (st_r S h 0) = some n8 ∧ ∃ z11, st_t S n8 = some (115, z11) ∧ vp_in x4 z11 ∧ ∃ n13, (st_r S n8 (x4).toNatClampNeg) = some n13 ∧ st_t S n13 = some (5, 0) ∧ ((st_i S n13 2) ≤ x5 → ∀ y16, y16 = (x4 + (1 : Int32)) → Z18 x1 x2 x3 y16 S) ∧ (¬ (st_i S n13 2) ≤ x5 → ∃ n18, (st_r S h 0) = some n18 ∧ ∃ z21, st_t S n18 = some (115, z21) ∧ vp_in x4 z21 ∧ ∃ n23, (st_r S n18 (x4).toNatClampNeg) = some n23 ∧ st_t S n23 = some (5, 0) ∧ ∃ n26, (st_r S n23 1) = some n26 ∧ ∃ z29, st_t S n26 = some (120, z29) ∧ vp_in x5 z29 ∧ ∃ n31, x1 = some n31 ∧ st_t S n31 = some (4, 0) ∧ (¬ x4 = (st_i S n31 0) → ∃ n34, x1 = some n34 ∧ st_t S n34 = some (4, 0) ∧ (¬ (st_i S n34 2) = 0 → wp_X7_meeting_134 h x1 x2 x3 x4 x5 S g Z18 Z28) ∧ ((st_i S n34 2) = 0 → ∃ n37, x1 = some n37 ∧ st_t S n37 = some (4, 0) ∧ ∃ n40, x1 = some n40 ∧ st_t S n40 = some (4, 0) ∧ ∃ n43, (st_r S n26 (x5).toNatClampNeg) = some n43 ∧ st_t S n43 = some (10, 0) ∧ wp_X10_provides n43 (st_i S n37 0) (st_r S n40 1) x2 S (fun r47 S46 => (r47 = 0 → wp_X7_meeting_134 h x1 x2 x3 x4 x5 S46 g Z18 Z28) ∧ (¬ r47 = 0 → wp_X7_meeting_135 h x1 x2 x3 x4 x5 (1 : Int32) S46 g Z18 Z28)))) ∧ (x4 = (st_i S n31 0) → ∃ n48, x1 = some n48 ∧ st_t S n48 = some (4, 0) ∧ ∃ n51, (st_r S n26 (x5).toNatClampNeg) = some n51 ∧ st_t S n51 = some (10, 0) ∧ (¬ ((st_i S n48 2) &&& ((st_i S n51 1) ^^^ (-1 : Int32))) = 0 → wp_X7_meeting_102 h x1 x2 x3 x4 x5 S g Z18 Z28) ∧ (((st_i S n48 2) &&& ((st_i S n51 1) ^^^ (-1 : Int32))) = 0 → ∃ n54, x1 = some n54 ∧ st_t S n54 = some (4, 0) ∧ ∃ n57, (st_r S n26 (x5).toNatClampNeg) = some n57 ∧ st_t S n57 = some (10, 0) ∧ ∃ n60, (st_r S n54 1) = some n60 ∧ st_t S n60 = some (6, 0) ∧ wp_X6_includes n60 (st_i S n57 0) x2 S (fun r64 S63 => (r64 = 0 → wp_X7_meeting_102 h x1 x2 x3 x4 x5 S63 g Z18 Z28) ∧ (¬ r64 = 0 → wp_X7_meeting_135 h x1 x2 x3 x4 x5 (1 : Int32) S63 g Z18 Z28)))))
def wp_X7_meeting_28 (h : Nat) (x1 : Option Nat) (x2 : Int32) (x3 : Int32) (x4 : Int32) (x5 : Int32) (S : xm_S) (g : Int32 → xm_S → Prop) (Z18 : Option Nat → Int32 → Int32 → Int32 → xm_S → Prop) : Prop :=
  ∀ Z28 : Option Nat → Int32 → Int32 → Int32 → Int32 → xm_S → Prop, (∀ x1 x2 x3 x4 x5 S, wp_X7_meeting_28B h x1 x2 x3 x4 x5 S g Z18 Z28 → Z28 x1 x2 x3 x4 x5 S) → Z28 x1 x2 x3 x4 x5 S
set_option maxRecDepth 100000 in
set_option maxHeartbeats 4000000 in
theorem kp_X7_meeting_28B {K : xm_K} (h : Nat) (x1 : Option Nat) (x2 : Int32) (x3 : Int32) (x4 : Int32) (x5 : Int32) (S : xm_S) {g : Int32 → xm_S → Prop} {Z18 : Option Nat → Int32 → Int32 → Int32 → xm_S → Prop} {Z28 : Option Nat → Int32 → Int32 → Int32 → Int32 → xm_S → Prop} (C : xm_Cx K cX7_meeting RX7 8 (some (FieldType.int)) rm_X7_meeting) (N : xm_Nx K) (hg : ∀ v S, g v S → xm_q K (some (xm_i v)) S) (hZ18 : ∀ x1 x2 x3 x4 S, Z18 x1 x2 x3 x4 S → xm_W K 0 0 18 [(0, xm_r (some h)), (1, xm_r x1), (2, xm_i x2), (3, xm_i x3), (4, xm_i x4)] [] S) (hZ28 : ∀ x1 x2 x3 x4 x5 S, Z28 x1 x2 x3 x4 x5 S → xm_W K 0 0 28 [(0, xm_r (some h)), (1, xm_r x1), (2, xm_i x2), (3, xm_i x3), (4, xm_i x4), (5, xm_i x5)] [] S) (h1 : wp_X7_meeting_28B h x1 x2 x3 x4 x5 S g Z18 Z28) : xm_W K 0 0 28 [(0, xm_r (some h)), (1, xm_r x1), (2, xm_i x2), (3, xm_i x3), (4, xm_i x4), (5, xm_i x5)] [] S := by
  unfold wp_X7_meeting_28B at h1
  refine x_iload C 5 dX7_meeting_28 rfl ?_
  refine x_aload_n C 0 dX7_meeting_30 rfl rfl ?_
  obtain ⟨ht7, h1⟩ := h1
  refine x_getf_r (n := h) C rfl ht7 fd_56 (by decide) dX7_meeting_31 ?_
  refine x_iload C 4 dX7_meeting_34 rfl ?_
  obtain ⟨n8, hr9, h1⟩ := h1
  obtain ⟨z11, ht10, h1⟩ := h1
  obtain ⟨hi12, h1⟩ := h1
  refine x_aald (n := n8) C hr9 (by decide) rfl ht10 hi12 dX7_meeting_36 ?_
  obtain ⟨n13, hr14, h1⟩ := h1
  obtain ⟨ht15, h1⟩ := h1
  refine x_getf_i (n := n13) C hr14 ht15 fd_62 (by decide) dX7_meeting_37 ?_
  refine x_icmp_ge (tgt := 162) C dX7_meeting_40 (by decide) (fun z9 => ?_) (fun z9 => ?_)
  · have h1 := h1.1 z9
    obtain ⟨y16, e17⟩ : ∃ y16, y16 = (x4 + (1 : Int32)) := ⟨_, rfl⟩
    have h1 := h1 y16 e17
    refine x_iinc (v := y16) (L' := [(4, xm_i y16), (0, xm_r (some h)), (1, xm_r x1), (2, xm_i x2), (3, xm_i x3), (5, xm_i x5)]) C 4 dX7_meeting_162 rfl (by rw [e17]; rfl) (by decide) rfl ?_
    refine x_goto (tgt := 18) C dX7_meeting_165 (by decide) ?_
    refine x_keep (L' := [(0, xm_r (some h)), (1, xm_r x1), (2, xm_i x2), (3, xm_i x3), (4, xm_i y16)]) C [1, 2, 3, 4, 0] rfl ?_
    exact hZ18 x1 x2 x3 y16 S h1
  · have h1 := h1.2 z9
    refine x_aload_n C 0 dX7_meeting_43 rfl rfl ?_
    refine x_getf_r (n := h) C rfl ht7 fd_56 (by decide) dX7_meeting_44 ?_
    refine x_iload C 4 dX7_meeting_47 rfl ?_
    obtain ⟨n18, hr19, h1⟩ := h1
    obtain ⟨z21, ht20, h1⟩ := h1
    obtain ⟨hi22, h1⟩ := h1
    refine x_aald (n := n18) C hr19 (by decide) rfl ht20 hi22 dX7_meeting_49 ?_
    obtain ⟨n23, hr24, h1⟩ := h1
    obtain ⟨ht25, h1⟩ := h1
    refine x_getf_r (n := n23) C hr24 ht25 fd_57 (by decide) dX7_meeting_50 ?_
    refine x_iload C 5 dX7_meeting_53 rfl ?_
    obtain ⟨n26, hr27, h1⟩ := h1
    obtain ⟨z29, ht28, h1⟩ := h1
    obtain ⟨hi30, h1⟩ := h1
    refine x_aald (n := n26) C hr27 (by decide) rfl ht28 hi30 dX7_meeting_55 ?_
    refine x_astore (L' := [(6, xm_r (st_r S n26 (x5).toNatClampNeg)), (0, xm_r (some h)), (1, xm_r x1), (2, xm_i x2), (3, xm_i x3), (4, xm_i x4), (5, xm_i x5)]) C dX7_meeting_56 (by decide) rfl ?_
    refine x_iload C 5 dX7_meeting_58 rfl ?_
    refine x_aload_n C 2 dX7_meeting_60 rfl rfl ?_
    obtain ⟨n31, hr32, h1⟩ := h1
    obtain ⟨ht33, h1⟩ := h1
    refine x_getf_i (n := n31) C hr32 ht33 fd_50 (by decide) dX7_meeting_61 ?_
    refine x_icmp_ne (tgt := 106) C dX7_meeting_64 (by decide) (fun z9 => ?_) (fun z9 => ?_)
    · have h1 := h1.1 z9
      refine x_aload_n C 2 dX7_meeting_106 rfl rfl ?_
      obtain ⟨n34, hr35, h1⟩ := h1
      obtain ⟨ht36, h1⟩ := h1
      refine x_getf_i (n := n34) C hr35 ht36 fd_49 (by decide) dX7_meeting_107 ?_
      refine x_if_ne (tgt := 134) C dX7_meeting_110 (by decide) (fun z9 => ?_) (fun z9 => ?_)
      · have h1 := h1.1 z9
        refine x_keep (L' := [(0, xm_r (some h)), (1, xm_r x1), (2, xm_i x2), (3, xm_i x3), (4, xm_i x4), (5, xm_i x5)]) C [1, 2, 3, 4, 5, 6] rfl ?_
        exact kp_X7_meeting_134 h x1 x2 x3 x4 x5 S C N hg hZ18 hZ28 h1
      · have h1 := h1.2 z9
        refine x_aload C 0 dX7_meeting_113 rfl ?_
        refine x_aload_n C 2 dX7_meeting_115 rfl rfl ?_
        obtain ⟨n37, hr38, h1⟩ := h1
        obtain ⟨ht39, h1⟩ := h1
        refine x_getf_i (n := n37) C hr38 ht39 fd_50 (by decide) dX7_meeting_116 ?_
        refine x_aload_n C 2 dX7_meeting_119 rfl rfl ?_
        obtain ⟨n40, hr41, h1⟩ := h1
        obtain ⟨ht42, h1⟩ := h1
        refine x_getf_r (n := n40) C hr41 ht42 fd_76 (by decide) dX7_meeting_120 ?_
        refine x_iload_n C 3 dX7_meeting_123 rfl rfl ?_
        obtain ⟨n43, hr44, h1⟩ := h1
        obtain ⟨ht45, h1⟩ := h1
        refine x_callV (rm' := rm_X10_provides) (n := n43) C (kp_X10_provides_met h1) lk_20 gw_174 gw_175 xv_10 rfl hr44 ht45 rfl (Nat.le_of_ble_eq_true rfl) ⟨Nat.le_of_ble_eq_true rfl, Nat.le_of_ble_eq_true rfl, (Nat.le_of_ble_eq_true rfl), (Nat.le_of_ble_eq_true rfl)⟩ dX7_meeting_124 xm_kx (xm_ki (fun r47 S46 h1 => ?_))
        refine x_if_eq (tgt := 134) C dX7_meeting_127 (by decide) (fun z9 => ?_) (fun z9 => ?_)
        · have h1 := h1.1 z9
          refine x_keep (L' := [(0, xm_r (some h)), (1, xm_r x1), (2, xm_i x2), (3, xm_i x3), (4, xm_i x4), (5, xm_i x5)]) C [1, 2, 3, 4, 5, 6] rfl ?_
          exact kp_X7_meeting_134 h x1 x2 x3 x4 x5 S46 C N hg hZ18 hZ28 h1
        · have h1 := h1.2 z9
          refine x_iconst (v := (1 : Int32)) C dX7_meeting_130 (by decide) ?_
          refine x_goto (tgt := 135) C dX7_meeting_131 (by decide) ?_
          refine x_keep (L' := [(0, xm_r (some h)), (1, xm_r x1), (2, xm_i x2), (3, xm_i x3), (4, xm_i x4), (5, xm_i x5)]) C [1, 2, 3, 4, 5, 6] rfl ?_
          exact kp_X7_meeting_135 h x1 x2 x3 x4 x5 (1 : Int32) S46 C N hg hZ18 hZ28 h1
    · have h1 := h1.2 z9
      refine x_aload_n C 2 dX7_meeting_67 rfl rfl ?_
      obtain ⟨n48, hr49, h1⟩ := h1
      obtain ⟨ht50, h1⟩ := h1
      refine x_getf_i (n := n48) C hr49 ht50 fd_49 (by decide) dX7_meeting_68 ?_
      refine x_aload C 0 dX7_meeting_71 rfl ?_
      obtain ⟨n51, hr52, h1⟩ := h1
      obtain ⟨ht53, h1⟩ := h1
      refine x_getf_i (n := n51) C hr52 ht53 fd_77 (by decide) dX7_meeting_73 ?_
      refine x_iconst (v := (-1 : Int32)) C dX7_meeting_76 (by decide) ?_
      refine x_ixor C dX7_meeting_77 ?_
      refine x_iand C dX7_meeting_78 ?_
      refine x_if_ne (tgt := 102) C dX7_meeting_79 (by decide) (fun z9 => ?_) (fun z9 => ?_)
      · have h1 := h1.1 z9
        refine x_keep (L' := [(0, xm_r (some h)), (1, xm_r x1), (2, xm_i x2), (3, xm_i x3), (4, xm_i x4), (5, xm_i x5)]) C [1, 2, 3, 4, 5, 6] rfl ?_
        exact kp_X7_meeting_102 h x1 x2 x3 x4 x5 S C N hg hZ18 hZ28 h1
      · have h1 := h1.2 z9
        refine x_aload_n C 2 dX7_meeting_82 rfl rfl ?_
        obtain ⟨n54, hr55, h1⟩ := h1
        obtain ⟨ht56, h1⟩ := h1
        refine x_getf_r (n := n54) C hr55 ht56 fd_76 (by decide) dX7_meeting_83 ?_
        refine x_aload C 0 dX7_meeting_86 rfl ?_
        obtain ⟨n57, hr58, h1⟩ := h1
        obtain ⟨ht59, h1⟩ := h1
        refine x_getf_i (n := n57) C hr58 ht59 fd_78 (by decide) dX7_meeting_88 ?_
        refine x_iload_n C 3 dX7_meeting_91 rfl rfl ?_
        obtain ⟨n60, hr61, h1⟩ := h1
        obtain ⟨ht62, h1⟩ := h1
        refine x_callV (rm' := rm_X6_includes) (n := n60) C (kp_X6_includes_met h1) lk_21 gw_168 gw_169 xv_6 rfl hr61 ht62 rfl (Nat.le_of_ble_eq_true rfl) ⟨Nat.le_of_ble_eq_true rfl, Nat.le_of_ble_eq_true rfl, (Nat.le_of_ble_eq_true rfl), (Nat.le_of_ble_eq_true rfl)⟩ dX7_meeting_92 xm_kx (xm_ki (fun r64 S63 h1 => ?_))
        refine x_if_eq (tgt := 102) C dX7_meeting_95 (by decide) (fun z9 => ?_) (fun z9 => ?_)
        · have h1 := h1.1 z9
          refine x_keep (L' := [(0, xm_r (some h)), (1, xm_r x1), (2, xm_i x2), (3, xm_i x3), (4, xm_i x4), (5, xm_i x5)]) C [1, 2, 3, 4, 5, 6] rfl ?_
          exact kp_X7_meeting_102 h x1 x2 x3 x4 x5 S63 C N hg hZ18 hZ28 h1
        · have h1 := h1.2 z9
          refine x_iconst (v := (1 : Int32)) C dX7_meeting_98 (by decide) ?_
          refine x_goto (tgt := 135) C dX7_meeting_99 (by decide) ?_
          refine x_keep (L' := [(0, xm_r (some h)), (1, xm_r x1), (2, xm_i x2), (3, xm_i x3), (4, xm_i x4), (5, xm_i x5)]) C [1, 2, 3, 4, 5, 6] rfl ?_
          exact kp_X7_meeting_135 h x1 x2 x3 x4 x5 (1 : Int32) S63 C N hg hZ18 hZ28 h1
theorem kp_X7_meeting_28 {K : xm_K} (h : Nat) (x1 : Option Nat) (x2 : Int32) (x3 : Int32) (x4 : Int32) (x5 : Int32) (S : xm_S) {g : Int32 → xm_S → Prop} {Z18 : Option Nat → Int32 → Int32 → Int32 → xm_S → Prop} (C : xm_Cx K cX7_meeting RX7 8 (some (FieldType.int)) rm_X7_meeting) (N : xm_Nx K) (hg : ∀ v S, g v S → xm_q K (some (xm_i v)) S) (hZ18 : ∀ x1 x2 x3 x4 S, Z18 x1 x2 x3 x4 S → xm_W K 0 0 18 [(0, xm_r (some h)), (1, xm_r x1), (2, xm_i x2), (3, xm_i x3), (4, xm_i x4)] [] S) (h1 : wp_X7_meeting_28 h x1 x2 x3 x4 x5 S g Z18) : xm_W K 0 0 28 [(0, xm_r (some h)), (1, xm_r x1), (2, xm_i x2), (3, xm_i x3), (4, xm_i x4), (5, xm_i x5)] [] S :=
  h1 (fun x1 x2 x3 x4 x5 S => xm_W K 0 0 28 [(0, xm_r (some h)), (1, xm_r x1), (2, xm_i x2), (3, xm_i x3), (4, xm_i x4), (5, xm_i x5)] [] S) (fun x1 x2 x3 x4 x5 S hb => kp_X7_meeting_28B h x1 x2 x3 x4 x5 S C N hg hZ18 (fun x1 x2 x3 x4 x5 S hz => hz) hb)
def wp_X7_meeting_18B (h : Nat) (x1 : Option Nat) (x2 : Int32) (x3 : Int32) (x4 : Int32) (S : xm_S) (g : Int32 → xm_S → Prop) (Z18 : Option Nat → Int32 → Int32 → Int32 → xm_S → Prop) : Prop :=
  ((nI 6) ≤ x4 → g x3 S) ∧ (¬ (nI 6) ≤ x4 → wp_X7_meeting_28 h x1 x2 x3 x4 (0 : Int32) S g Z18)
def wp_X7_meeting_18 (h : Nat) (x1 : Option Nat) (x2 : Int32) (x3 : Int32) (x4 : Int32) (S : xm_S) (g : Int32 → xm_S → Prop) : Prop :=
  ∀ Z18 : Option Nat → Int32 → Int32 → Int32 → xm_S → Prop, (∀ x1 x2 x3 x4 S, wp_X7_meeting_18B h x1 x2 x3 x4 S g Z18 → Z18 x1 x2 x3 x4 S) → Z18 x1 x2 x3 x4 S
set_option maxRecDepth 100000 in
set_option maxHeartbeats 4000000 in
theorem kp_X7_meeting_18B {K : xm_K} (h : Nat) (x1 : Option Nat) (x2 : Int32) (x3 : Int32) (x4 : Int32) (S : xm_S) {g : Int32 → xm_S → Prop} {Z18 : Option Nat → Int32 → Int32 → Int32 → xm_S → Prop} (C : xm_Cx K cX7_meeting RX7 8 (some (FieldType.int)) rm_X7_meeting) (N : xm_Nx K) (hg : ∀ v S, g v S → xm_q K (some (xm_i v)) S) (hZ18 : ∀ x1 x2 x3 x4 S, Z18 x1 x2 x3 x4 S → xm_W K 0 0 18 [(0, xm_r (some h)), (1, xm_r x1), (2, xm_i x2), (3, xm_i x3), (4, xm_i x4)] [] S) (h1 : wp_X7_meeting_18B h x1 x2 x3 x4 S g Z18) : xm_W K 0 0 18 [(0, xm_r (some h)), (1, xm_r x1), (2, xm_i x2), (3, xm_i x3), (4, xm_i x4)] [] S := by
  unfold wp_X7_meeting_18B at h1
  refine x_iload C 4 dX7_meeting_18 rfl ?_
  refine x_bipush (v := (nI 6)) C dX7_meeting_20 (by decide) ?_
  refine x_icmp_ge (tgt := 168) C dX7_meeting_22 (by decide) (fun z9 => ?_) (fun z9 => ?_)
  · have h1 := h1.1 z9
    refine x_iload_n C 3 dX7_meeting_168 rfl rfl ?_
    exact x_iret C (Nat.le_of_ble_eq_true rfl) (Nat.le_of_ble_eq_true rfl) rfl dX7_meeting_169 (hg _ _ h1)
  · have h1 := h1.2 z9
    refine x_iconst (v := (0 : Int32)) C dX7_meeting_25 (by decide) ?_
    refine x_istore (L' := [(5, xm_i (0 : Int32)), (0, xm_r (some h)), (1, xm_r x1), (2, xm_i x2), (3, xm_i x3), (4, xm_i x4)]) C dX7_meeting_26 (by decide) rfl ?_
    refine x_keep (L' := [(0, xm_r (some h)), (1, xm_r x1), (2, xm_i x2), (3, xm_i x3), (4, xm_i x4), (5, xm_i (0 : Int32))]) C [1, 2, 3, 4, 5, 0] rfl ?_
    exact kp_X7_meeting_28 h x1 x2 x3 x4 (0 : Int32) S C N hg hZ18 h1
theorem kp_X7_meeting_18 {K : xm_K} (h : Nat) (x1 : Option Nat) (x2 : Int32) (x3 : Int32) (x4 : Int32) (S : xm_S) {g : Int32 → xm_S → Prop} (C : xm_Cx K cX7_meeting RX7 8 (some (FieldType.int)) rm_X7_meeting) (N : xm_Nx K) (hg : ∀ v S, g v S → xm_q K (some (xm_i v)) S)  (h1 : wp_X7_meeting_18 h x1 x2 x3 x4 S g) : xm_W K 0 0 18 [(0, xm_r (some h)), (1, xm_r x1), (2, xm_i x2), (3, xm_i x3), (4, xm_i x4)] [] S :=
  h1 (fun x1 x2 x3 x4 S => xm_W K 0 0 18 [(0, xm_r (some h)), (1, xm_r x1), (2, xm_i x2), (3, xm_i x3), (4, xm_i x4)] [] S) (fun x1 x2 x3 x4 S hb => kp_X7_meeting_18B h x1 x2 x3 x4 S C N hg (fun x1 x2 x3 x4 S hz => hz) hb)
def wp_X7_meeting (h : Nat) (x1 : Option Nat) (S : xm_S) (g : Int32 → xm_S → Prop) : Prop :=
  st_t S h = some (7, 0) ∧ ∃ n66, x1 = some n66 ∧ st_t S n66 = some (4, 0) ∧ ∃ n69, (st_r S h 0) = some n69 ∧ ∃ z72, st_t S n69 = some (115, z72) ∧ vp_in (st_i S n66 0) z72 ∧ ∃ n74, (st_r S n69 ((st_i S n66 0)).toNatClampNeg) = some n74 ∧ st_t S n74 = some (5, 0) ∧ wp_X7_meeting_18 h x1 (st_i S n74 0) (0 : Int32) (0 : Int32) S g
set_option maxRecDepth 100000 in
set_option maxHeartbeats 4000000 in
theorem kp_X7_meeting {K : xm_K} (h : Nat) (x1 : Option Nat) (S : xm_S) {g : Int32 → xm_S → Prop} (C : xm_Cx K cX7_meeting RX7 8 (some (FieldType.int)) rm_X7_meeting) (N : xm_Nx K) (hg : ∀ v S, g v S → xm_q K (some (xm_i v)) S)  (h1 : wp_X7_meeting h x1 S g) : xm_W K 0 0 0 [(0, xm_r (some h)), (1, xm_r x1)] [] S := by
  unfold wp_X7_meeting at h1
  refine x_aload_n C 0 dX7_meeting_0 rfl rfl ?_
  obtain ⟨ht65, h1⟩ := h1
  refine x_getf_r (n := h) C rfl ht65 fd_56 (by decide) dX7_meeting_1 ?_
  refine x_aload_n C 1 dX7_meeting_4 rfl rfl ?_
  obtain ⟨n66, hr67, h1⟩ := h1
  obtain ⟨ht68, h1⟩ := h1
  refine x_getf_i (n := n66) C hr67 ht68 fd_50 (by decide) dX7_meeting_5 ?_
  obtain ⟨n69, hr70, h1⟩ := h1
  obtain ⟨z72, ht71, h1⟩ := h1
  obtain ⟨hi73, h1⟩ := h1
  refine x_aald (n := n69) C hr70 (by decide) rfl ht71 hi73 dX7_meeting_8 ?_
  obtain ⟨n74, hr75, h1⟩ := h1
  obtain ⟨ht76, h1⟩ := h1
  refine x_getf_i (n := n74) C hr75 ht76 fd_79 (by decide) dX7_meeting_9 ?_
  refine x_istore_n (L' := [(2, xm_i (st_i S n74 0)), (0, xm_r (some h)), (1, xm_r x1)]) C dX7_meeting_12 rfl (by decide) rfl ?_
  refine x_iconst (v := (0 : Int32)) C dX7_meeting_13 (by decide) ?_
  refine x_istore_n (L' := [(3, xm_i (0 : Int32)), (2, xm_i (st_i S n74 0)), (0, xm_r (some h)), (1, xm_r x1)]) C dX7_meeting_14 rfl (by decide) rfl ?_
  refine x_iconst (v := (0 : Int32)) C dX7_meeting_15 (by decide) ?_
  refine x_istore (L' := [(4, xm_i (0 : Int32)), (3, xm_i (0 : Int32)), (2, xm_i (st_i S n74 0)), (0, xm_r (some h)), (1, xm_r x1)]) C dX7_meeting_16 (by decide) rfl ?_
  refine x_keep (L' := [(0, xm_r (some h)), (1, xm_r x1), (2, xm_i (st_i S n74 0)), (3, xm_i (0 : Int32)), (4, xm_i (0 : Int32))]) C [3, 4, 2, 1, 0] rfl ?_
  exact kp_X7_meeting_18 h x1 (st_i S n74 0) (0 : Int32) (0 : Int32) S C N hg  h1
theorem kp_X7_meeting_met {h : Nat} {x1 : Option Nat} {S : xm_S} {g : Int32 → xm_S → Prop}  (h1 : wp_X7_meeting h x1 S g) : xm_Met yX7_meeting cX7_meeting 8 (some (FieldType.int)) rm_X7_meeting [xm_r (some h), xm_r x1] S (xm_qi g) xm_nox :=
  xm_ofW RX7 (by decide +kernel) rfl (Nat.le_of_ble_eq_true rfl) (fun K C N hq hx hi => kp_X7_meeting h x1 S C N (fun v S h => by rw [hq]; exact ⟨v, rfl, h⟩)  h1)
