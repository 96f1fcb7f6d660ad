def rm_X11_pass : Room := { frames := 7, cells := 2, slots := 12, locals := 122 }
theorem dX11_pass_0 : decode cX11_pass 0 = .ok (.iload_n 1, 1) := by decide +kernel
theorem dX11_pass_1 : decode cX11_pass 1 = .ok (.iconst 0, 1) := by decide +kernel
theorem dX11_pass_2 : decode cX11_pass 2 = .ok (.sipush 1000, 3) := by decide +kernel
theorem dX11_pass_5 : decode cX11_pass 5 = .ok (.invokestatic 132, 3) := by decide +kernel
theorem dX11_pass_8 : decode cX11_pass 8 = .ok (.aload_n 0, 1) := by decide +kernel
theorem dX11_pass_9 : decode cX11_pass 9 = .ok (.getfield 63, 3) := by decide +kernel
theorem dX11_pass_12 : decode cX11_pass 12 = .ok (.iload_n 1, 1) := by decide +kernel
theorem dX11_pass_13 : decode cX11_pass 13 = .ok (.iadd, 1) := by decide +kernel
theorem dX11_pass_14 : decode cX11_pass 14 = .ok (.ldc_w 258, 3) := by decide +kernel
theorem dX11_pass_17 : decode cX11_pass 17 = .ok (.if_icmp .le 14, 3) := by decide +kernel
theorem dX11_pass_20 : decode cX11_pass 20 = .ok (.new 106, 3) := by decide +kernel
theorem dX11_pass_23 : decode cX11_pass 23 = .ok (.dup, 1) := by decide +kernel
theorem dX11_pass_24 : decode cX11_pass 24 = .ok (.ldc_w 259, 3) := by decide +kernel
theorem dX11_pass_27 : decode cX11_pass 27 = .ok (.invokespecial 110, 3) := by decide +kernel
theorem dX11_pass_30 : decode cX11_pass 30 = .ok (.athrow, 1) := by decide +kernel
theorem dX11_pass_31 : decode cX11_pass 31 = .ok (.aload_n 0, 1) := by decide +kernel
theorem dX11_pass_32 : decode cX11_pass 32 = .ok (.dup, 1) := by decide +kernel
theorem dX11_pass_33 : decode cX11_pass 33 = .ok (.getfield 63, 3) := by decide +kernel
theorem dX11_pass_36 : decode cX11_pass 36 = .ok (.iload_n 1, 1) := by decide +kernel
theorem dX11_pass_37 : decode cX11_pass 37 = .ok (.iadd, 1) := by decide +kernel
theorem dX11_pass_38 : decode cX11_pass 38 = .ok (.putfield 63, 3) := by decide +kernel
theorem dX11_pass_41 : decode cX11_pass 41 = .ok (.aload_n 0, 1) := by decide +kernel
theorem dX11_pass_42 : decode cX11_pass 42 = .ok (.getfield 63, 3) := by decide +kernel
theorem dX11_pass_45 : decode cX11_pass 45 = .ok (.ireturn, 1) := by decide +kernel
def wp_X11_pass (h : Nat) (x1 : Int32) (S : xm_S) (g : Int32 → xm_S → Prop) (Ex : String → xm_S → Prop) : Prop :=
  wp_X11_checkRange x1 (0 : Int32) (nI 1000) S (fun S1 => st_t S1 h = some (11, 0) ∧ (((st_i S1 h 11) + x1) ≤ (nI 100000) → ∀ S4, S4 = st_pi S1 h 11 ((st_i S1 h 11) + x1) → g (st_i S4 h 11) S4) ∧ (¬ ((st_i S1 h 11) + x1) ≤ (nI 100000) → Ex xm_eS S1)) Ex
set_option maxRecDepth 100000 in
set_option maxHeartbeats 4000000 in
theorem kp_X11_pass {K : xm_K} (h : Nat) (x1 : Int32) (S : xm_S) {g : Int32 → xm_S → Prop} {Ex : String → xm_S → Prop} (C : xm_Cx K cX11_pass RX11 2 (some (FieldType.int)) rm_X11_pass) (N : xm_Nx K) (hg : ∀ v S, g v S → xm_q K (some (xm_i v)) S) (hEx : ∀ X S, Ex X S → xm_x K X S)  (h1 : wp_X11_pass h x1 S g Ex) : xm_W K 0 0 0 [(0, xm_r (some h)), (1, xm_i x1)] [] S := by
  unfold wp_X11_pass at h1
  refine x_iload_n C 1 dX11_pass_0 rfl rfl ?_
  refine x_iconst (v := (0 : Int32)) C dX11_pass_1 (by decide) ?_
  refine x_sipush (v := (nI 1000)) C dX11_pass_2 (by decide) ?_
  refine x_callS (rm' := rm_X11_checkRange) C (kp_X11_checkRange_met h1) lk_51 gw_339 rfl (Nat.le_of_ble_eq_true rfl) ⟨Nat.le_of_ble_eq_true rfl, Nat.le_of_ble_eq_true rfl, (Nat.le_of_ble_eq_true rfl), (Nat.le_of_ble_eq_true rfl)⟩ dX11_pass_5 (fun X9 S9 hx9 => x_thru C N (Nat.le_of_ble_eq_true rfl) (Nat.le_of_ble_eq_true rfl) (hEx _ _ hx9)) (xm_kv (fun S1 h1 => ?_))
  refine x_aload_n C 0 dX11_pass_8 rfl rfl ?_
  obtain ⟨ht3, h1⟩ := h1
  refine x_getf_i (n := h) C rfl ht3 fd_140 (by decide) dX11_pass_9 ?_
  refine x_iload_n C 1 dX11_pass_12 rfl rfl ?_
  refine x_iadd C dX11_pass_13 ?_
  refine x_ldcw (v := nI 100000) C gw_496 dX11_pass_14 ?_
  refine x_icmp_le (tgt := 31) C dX11_pass_17 (by decide) (fun z9 => ?_) (fun z9 => ?_)
  · have h1 := h1.1 z9
    refine x_aload_n C 0 dX11_pass_31 rfl rfl ?_
    refine x_dup_r C dX11_pass_32 ?_
    refine x_getf_i (n := h) C rfl ht3 fd_140 (by decide) dX11_pass_33 ?_
    refine x_iload_n C 1 dX11_pass_36 rfl rfl ?_
    refine x_iadd C dX11_pass_37 ?_
    refine x_putf_i (n := h) C rfl ht3 fd_140 xc_11 (by decide) rfl ⟨rfl, rfl⟩ dX11_pass_38 ?_
    refine x_topS (fun S4 e5 => ?_)
    have h1 := h1 S4 e5
    refine x_aload_n C 0 dX11_pass_41 rfl rfl ?_
    refine x_getf_i (n := h) C rfl (tk_p e5 ht3) fd_140 (by decide) dX11_pass_42 ?_
    exact x_iret C (Nat.le_of_ble_eq_true rfl) (Nat.le_of_ble_eq_true rfl) rfl dX11_pass_45 (hg _ _ h1)
  · have h1 := h1.2 z9
    exact x_throw (text := "the last minute is 100000") C N th_S_in th_S_fit gw_329 gw_330 (by decide +kernel) th_S_at th_S_no th_S_ot (Nat.le_of_ble_eq_true rfl) ⟨Nat.le_of_ble_eq_true rfl, Nat.le_of_ble_eq_true rfl, (Nat.le_of_ble_eq_true rfl), (Nat.le_of_ble_eq_true rfl)⟩ dX11_pass_20 dX11_pass_23 (Or.inr ⟨dX11_pass_24, dX11_pass_27, dX11_pass_30⟩) (hEx _ _ h1)
theorem kp_X11_pass_met {h : Nat} {x1 : Int32} {S : xm_S} {g : Int32 → xm_S → Prop} {Ex : String → xm_S → Prop}  (h1 : wp_X11_pass h x1 S g Ex) : xm_Met yX11_pass cX11_pass 2 (some (FieldType.int)) rm_X11_pass [xm_r (some h), xm_i x1] S (xm_qi g) Ex :=
  xm_ofW RX11 (by decide +kernel) rfl (Nat.le_of_ble_eq_true rfl) (fun K C N hq hx hi => kp_X11_pass h x1 S C N (fun v S h => by rw [hq]; exact ⟨v, rfl, h⟩) (fun X S h => by rw [hx]; exact h)  h1)
def rm_X11_path : Room := { frames := 7, cells := 2, slots := 12, locals := 122 }
theorem dX11_path_0 : decode cX11_path 0 = .ok (.iload_n 1, 1) := by decide +kernel
theorem dX11_path_1 : decode cX11_path 1 = .ok (.iconst 0, 1) := by decide +kernel
theorem dX11_path_2 : decode cX11_path 2 = .ok (.bipush 15, 2) := by decide +kernel
theorem dX11_path_4 : decode cX11_path 4 = .ok (.invokestatic 132, 3) := by decide +kernel
theorem dX11_path_7 : decode cX11_path 7 = .ok (.iload_n 2, 1) := by decide +kernel
theorem dX11_path_8 : decode cX11_path 8 = .ok (.iconst 0, 1) := by decide +kernel
theorem dX11_path_9 : decode cX11_path 9 = .ok (.iconst 2, 1) := by decide +kernel
theorem dX11_path_10 : decode cX11_path 10 = .ok (.invokestatic 132, 3) := by decide +kernel
theorem dX11_path_13 : decode cX11_path 13 = .ok (.aload_n 0, 1) := by decide +kernel
theorem dX11_path_14 : decode cX11_path 14 = .ok (.getfield 85, 3) := by decide +kernel
theorem dX11_path_17 : decode cX11_path 17 = .ok (.getfield 303, 3) := by decide +kernel
theorem dX11_path_20 : decode cX11_path 20 = .ok (.astore_n 3, 1) := by decide +kernel
theorem dX11_path_21 : decode cX11_path 21 = .ok (.iload_n 2, 1) := by decide +kernel
theorem dX11_path_22 : decode cX11_path 22 = .ok (.ifCond .ne 10, 3) := by decide +kernel
theorem dX11_path_25 : decode cX11_path 25 = .ok (.aload_n 3, 1) := by decide +kernel
theorem dX11_path_26 : decode cX11_path 26 = .ok (.getfield 307, 3) := by decide +kernel
theorem dX11_path_29 : decode cX11_path 29 = .ok (.iload_n 1, 1) := by decide +kernel
theorem dX11_path_30 : decode cX11_path 30 = .ok (.iaload, 1) := by decide +kernel
theorem dX11_path_31 : decode cX11_path 31 = .ok (.ireturn, 1) := by decide +kernel
theorem dX11_path_32 : decode cX11_path 32 = .ok (.iload_n 2, 1) := by decide +kernel
theorem dX11_path_33 : decode cX11_path 33 = .ok (.iconst 1, 1) := by decide +kernel
theorem dX11_path_34 : decode cX11_path 34 = .ok (.if_icmp .ne 12, 3) := by decide +kernel
theorem dX11_path_37 : decode cX11_path 37 = .ok (.aload_n 3, 1) := by decide +kernel
theorem dX11_path_38 : decode cX11_path 38 = .ok (.getfield 314, 3) := by decide +kernel
theorem dX11_path_41 : decode cX11_path 41 = .ok (.iload_n 1, 1) := by decide +kernel
theorem dX11_path_42 : decode cX11_path 42 = .ok (.iaload, 1) := by decide +kernel
theorem dX11_path_43 : decode cX11_path 43 = .ok (.goto 9, 3) := by decide +kernel
theorem dX11_path_46 : decode cX11_path 46 = .ok (.aload_n 3, 1) := by decide +kernel
theorem dX11_path_47 : decode cX11_path 47 = .ok (.getfield 317, 3) := by decide +kernel
theorem dX11_path_50 : decode cX11_path 50 = .ok (.iload_n 1, 1) := by decide +kernel
theorem dX11_path_51 : decode cX11_path 51 = .ok (.iaload, 1) := by decide +kernel
theorem dX11_path_52 : decode cX11_path 52 = .ok (.ireturn, 1) := by decide +kernel
def wp_X11_path_52 (h : Nat) (s0 : Int32) (S : xm_S) (g : Int32 → xm_S → Prop) (Ex : String → xm_S → Prop) : Prop :=
  g s0 S
set_option maxRecDepth 100000 in
set_option maxHeartbeats 4000000 in
theorem kp_X11_path_52 {K : xm_K} (h : Nat) (s0 : Int32) (S : xm_S) {g : Int32 → xm_S → Prop} {Ex : String → xm_S → Prop} (C : xm_Cx K cX11_path RX11 4 (some (FieldType.int)) rm_X11_path) (N : xm_Nx K) (hg : ∀ v S, g v S → xm_q K (some (xm_i v)) S) (hEx : ∀ X S, Ex X S → xm_x K X S)  (h1 : wp_X11_path_52 h s0 S g Ex) : xm_W K 2 12 52 [] [xm_i s0] S := by
  unfold wp_X11_path_52 at h1
  exact x_iret C (Nat.le_of_ble_eq_true rfl) (Nat.le_of_ble_eq_true rfl) rfl dX11_path_52 (hg _ _ h1)
def wp_X11_path (h : Nat) (x1 : Int32) (x2 : Int32) (S : xm_S) (g : Int32 → xm_S → Prop) (Ex : String → xm_S → Prop) : Prop :=
  wp_X11_checkRange x1 (0 : Int32) (nI 15) S (fun S1 => wp_X11_checkRange x2 (0 : Int32) (nI 2) S1 (fun S3 => st_t S3 h = some (11, 0) ∧ ∃ n6, (st_r S3 h 17) = some n6 ∧ st_t S3 n6 = some (2, 0) ∧ (¬ x2 = 0 → (¬ x2 = (1 : Int32) → ∃ n9, (st_r S3 n6 0) = some n9 ∧ st_t S3 n9 = some (3, 0) ∧ ∃ n12, (st_r S3 n9 3) = some n12 ∧ ∃ z15, st_t S3 n12 = some (100, z15) ∧ vp_in x1 z15 ∧ wp_X11_path_52 h (st_i S3 n12 (x1).toNatClampNeg) S3 g Ex) ∧ (x2 = (1 : Int32) → ∃ n17, (st_r S3 n6 0) = some n17 ∧ st_t S3 n17 = some (3, 0) ∧ ∃ n20, (st_r S3 n17 2) = some n20 ∧ ∃ z23, st_t S3 n20 = some (100, z23) ∧ vp_in x1 z23 ∧ wp_X11_path_52 h (st_i S3 n20 (x1).toNatClampNeg) S3 g Ex)) ∧ (x2 = 0 → ∃ n25, (st_r S3 n6 0) = some n25 ∧ st_t S3 n25 = some (3, 0) ∧ ∃ n28, (st_r S3 n25 1) = some n28 ∧ ∃ z31, st_t S3 n28 = some (100, z31) ∧ vp_in x1 z31 ∧ g (st_i S3 n28 (x1).toNatClampNeg) S3)) Ex) Ex
set_option maxRecDepth 100000 in
set_option maxHeartbeats 4000000 in
theorem kp_X11_path {K : xm_K} (h : Nat) (x1 : Int32) (x2 : Int32) (S : xm_S) {g : Int32 → xm_S → Prop} {Ex : String → xm_S → Prop} (C : xm_Cx K cX11_path RX11 4 (some (FieldType.int)) rm_X11_path) (N : xm_Nx K) (hg : ∀ v S, g v S → xm_q K (some (xm_i v)) S) (hEx : ∀ X S, Ex X S → xm_x K X S)  (h1 : wp_X11_path h x1 x2 S g Ex) : xm_W K 0 0 0 [(0, xm_r (some h)), (1, xm_i x1), (2, xm_i x2)] [] S := by
  unfold wp_X11_path at h1
  refine x_iload_n C 1 dX11_path_0 rfl rfl ?_
  refine x_iconst (v := (0 : Int32)) C dX11_path_1 (by decide) ?_
  refine x_bipush (v := (nI 15)) C dX11_path_2 (by decide) ?_
  refine x_callS (rm' := rm_X11_checkRange) C (kp_X11_checkRange_met h1) lk_51 gw_339 rfl (Nat.le_of_ble_eq_true rfl) ⟨Nat.le_of_ble_eq_true rfl, Nat.le_of_ble_eq_true rfl, (Nat.le_of_ble_eq_true rfl), (Nat.le_of_ble_eq_true rfl)⟩ dX11_path_4 (fun X9 S9 hx9 => x_thru C N (Nat.le_of_ble_eq_true rfl) (Nat.le_of_ble_eq_true rfl) (hEx _ _ hx9)) (xm_kv (fun S1 h1 => ?_))
  refine x_iload_n C 2 dX11_path_7 rfl rfl ?_
  refine x_iconst (v := (0 : Int32)) C dX11_path_8 (by decide) ?_
  refine x_iconst (v := (nI 2)) C dX11_path_9 (by decide) ?_
  refine x_callS (rm' := rm_X11_checkRange) C (kp_X11_checkRange_met h1) lk_51 gw_339 rfl (Nat.le_of_ble_eq_true rfl) ⟨Nat.le_of_ble_eq_true rfl, Nat.le_of_ble_eq_true rfl, (Nat.le_of_ble_eq_true rfl), (Nat.le_of_ble_eq_true rfl)⟩ dX11_path_10 (fun X9 S9 hx9 => x_thru C N (Nat.le_of_ble_eq_true rfl) (Nat.le_of_ble_eq_true rfl) (hEx _ _ hx9)) (xm_kv (fun S3 h1 => ?_))
  refine x_aload_n C 0 dX11_path_13 rfl rfl ?_
  obtain ⟨ht5, h1⟩ := h1
  refine x_getf_r (n := h) C rfl ht5 fd_120 (by decide) dX11_path_14 ?_
  obtain ⟨n6, hr7, h1⟩ := h1
  obtain ⟨ht8, h1⟩ := h1
  refine x_getf_r (n := n6) C hr7 ht8 fd_128 (by decide) dX11_path_17 ?_
  refine x_astore_n (L' := [(3, xm_r (st_r S3 n6 0)), (0, xm_r (some h)), (1, xm_i x1), (2, xm_i x2)]) C dX11_path_20 rfl (by decide) rfl ?_
  refine x_iload_n C 3 dX11_path_21 rfl rfl ?_
  refine x_if_ne (tgt := 32) C dX11_path_22 (by decide) (fun z9 => ?_) (fun z9 => ?_)
  · have h1 := h1.1 z9
    refine x_iload_n C 3 dX11_path_32 rfl rfl ?_
    refine x_iconst (v := (1 : Int32)) C dX11_path_33 (by decide) ?_
    refine x_icmp_ne (tgt := 46) C dX11_path_34 (by decide) (fun z9 => ?_) (fun z9 => ?_)
    · have h1 := h1.1 z9
      refine x_aload_n C 0 dX11_path_46 rfl rfl ?_
      obtain ⟨n9, hr10, h1⟩ := h1
      obtain ⟨ht11, h1⟩ := h1
      refine x_getf_r (n := n9) C hr10 ht11 fd_147 (by decide) dX11_path_47 ?_
      refine x_iload_n C 2 dX11_path_50 rfl rfl ?_
      obtain ⟨n12, hr13, h1⟩ := h1
      obtain ⟨z15, ht14, h1⟩ := h1
      obtain ⟨hi16, h1⟩ := h1
      refine x_iald (n := n12) C hr13 ht14 hi16 dX11_path_51 ?_
      refine x_keep (L' := []) C [] rfl ?_
      exact kp_X11_path_52 h (st_i S3 n12 (x1).toNatClampNeg) S3 C N hg hEx  h1
    · have h1 := h1.2 z9
      refine x_aload_n C 0 dX11_path_37 rfl rfl ?_
      obtain ⟨n17, hr18, h1⟩ := h1
      obtain ⟨ht19, h1⟩ := h1
      refine x_getf_r (n := n17) C hr18 ht19 fd_148 (by decide) dX11_path_38 ?_
      refine x_iload_n C 2 dX11_path_41 rfl rfl ?_
      obtain ⟨n20, hr21, h1⟩ := h1
      obtain ⟨z23, ht22, h1⟩ := h1
      obtain ⟨hi24, h1⟩ := h1
      refine x_iald (n := n20) C hr21 ht22 hi24 dX11_path_42 ?_
      refine x_goto (tgt := 52) C dX11_path_43 (by decide) ?_
      refine x_keep (L' := []) C [] rfl ?_
      exact kp_X11_path_52 h (st_i S3 n20 (x1).toNatClampNeg) S3 C N hg hEx  h1
  · have h1 := h1.2 z9
    refine x_aload_n C 0 dX11_path_25 rfl rfl ?_
    obtain ⟨n25, hr26, h1⟩ := h1
    obtain ⟨ht27, h1⟩ := h1
    refine x_getf_r (n := n25) C hr26 ht27 fd_129 (by decide) dX11_path_26 ?_
    refine x_iload_n C 2 dX11_path_29 rfl rfl ?_
    obtain ⟨n28, hr29, h1⟩ := h1
    obtain ⟨z31, ht30, h1⟩ := h1
    obtain ⟨hi32, h1⟩ := h1
    refine x_iald (n := n28) C hr29 ht30 hi32 dX11_path_30 ?_
    exact x_iret C (Nat.le_of_ble_eq_true rfl) (Nat.le_of_ble_eq_true rfl) rfl dX11_path_31 (hg _ _ h1)
theorem kp_X11_path_met {h : Nat} {x1 : Int32} {x2 : Int32} {S : xm_S} {g : Int32 → xm_S → Prop} {Ex : String → xm_S → Prop}  (h1 : wp_X11_path h x1 x2 S g Ex) : xm_Met yX11_path cX11_path 4 (some (FieldType.int)) rm_X11_path [xm_r (some h), xm_i x1, xm_i x2] S (xm_qi g) Ex :=
  xm_ofW RX11 (by decide +kernel) rfl (Nat.le_of_ble_eq_true rfl) (fun K C N hq hx hi => kp_X11_path h x1 x2 S C N (fun v S h => by rw [hq]; exact ⟨v, rfl, h⟩) (fun X S h => by rw [hx]; exact h)  h1)
def rm_X11_policy : Room := { frames := 7, cells := 1, slots := 6, locals := 122 }
theorem dX11_policy_0 : decode cX11_policy 0 = .ok (.iload_n 1, 1) := by decide +kernel
theorem dX11_policy_1 : decode cX11_policy 1 = .ok (.iconst 0, 1) := by decide +kernel
theorem dX11_policy_2 : decode cX11_policy 2 = .ok (.bipush 15, 2) := by decide +kernel
theorem dX11_policy_4 : decode cX11_policy 4 = .ok (.invokestatic 132, 3) := by decide +kernel
theorem dX11_policy_7 : decode cX11_policy 7 = .ok (.aload_n 0, 1) := by decide +kernel
theorem dX11_policy_8 : decode cX11_policy 8 = .ok (.getfield 32, 3) := by decide +kernel
theorem dX11_policy_11 : decode cX11_policy 11 = .ok (.istore_n 2, 1) := by decide +kernel
theorem dX11_policy_12 : decode cX11_policy 12 = .ok (.aload_n 0, 1) := by decide +kernel
theorem dX11_policy_13 : decode cX11_policy 13 = .ok (.iload_n 1, 1) := by decide +kernel
theorem dX11_policy_14 : decode cX11_policy 14 = .ok (.putfield 32, 3) := by decide +kernel
theorem dX11_policy_17 : decode cX11_policy 17 = .ok (.iload_n 2, 1) := by decide +kernel
theorem dX11_policy_18 : decode cX11_policy 18 = .ok (.ireturn, 1) := by decide +kernel
def wp_X11_policy (h : Nat) (x1 : Int32) (S : xm_S) (g : Int32 → xm_S → Prop) (Ex : String → xm_S → Prop) : Prop :=
  wp_X11_checkRange x1 (0 : Int32) (nI 15) S (fun S1 => st_t S1 h = some (11, 0) ∧ ∀ S4, S4 = st_pi S1 h 4 x1 → g (st_i S1 h 4) S4) Ex
set_option maxRecDepth 100000 in
set_option maxHeartbeats 4000000 in
theorem kp_X11_policy {K : xm_K} (h : Nat) (x1 : Int32) (S : xm_S) {g : Int32 → xm_S → Prop} {Ex : String → xm_S → Prop} (C : xm_Cx K cX11_policy RX11 3 (some (FieldType.int)) rm_X11_policy) (N : xm_Nx K) (hg : ∀ v S, g v S → xm_q K (some (xm_i v)) S) (hEx : ∀ X S, Ex X S → xm_x K X S)  (h1 : wp_X11_policy h x1 S g Ex) : xm_W K 0 0 0 [(0, xm_r (some h)), (1, xm_i x1)] [] S := by
  unfold wp_X11_policy at h1
  refine x_iload_n C 1 dX11_policy_0 rfl rfl ?_
  refine x_iconst (v := (0 : Int32)) C dX11_policy_1 (by decide) ?_
  refine x_bipush (v := (nI 15)) C dX11_policy_2 (by decide) ?_
  refine x_callS (rm' := rm_X11_checkRange) C (kp_X11_checkRange_met h1) lk_51 gw_339 rfl (Nat.le_of_ble_eq_true rfl) ⟨Nat.le_of_ble_eq_true rfl, Nat.le_of_ble_eq_true rfl, (Nat.le_of_ble_eq_true rfl), (Nat.le_of_ble_eq_true rfl)⟩ dX11_policy_4 (fun X9 S9 hx9 => x_thru C N (Nat.le_of_ble_eq_true rfl) (Nat.le_of_ble_eq_true rfl) (hEx _ _ hx9)) (xm_kv (fun S1 h1 => ?_))
  refine x_aload_n C 0 dX11_policy_7 rfl rfl ?_
  obtain ⟨ht3, h1⟩ := h1
  refine x_getf_i (n := h) C rfl ht3 fd_125 (by decide) dX11_policy_8 ?_
  refine x_istore_n (L' := [(2, xm_i (st_i S1 h 4)), (0, xm_r (some h)), (1, xm_i x1)]) C dX11_policy_11 rfl (by decide) rfl ?_
  refine x_aload_n C 1 dX11_policy_12 rfl rfl ?_
  refine x_iload_n C 2 dX11_policy_13 rfl rfl ?_
  refine x_putf_i (n := h) C rfl ht3 fd_125 xc_11 (by decide) rfl ⟨rfl, rfl⟩ dX11_policy_14 ?_
  refine x_topS (fun S4 e5 => ?_)
  have h1 := h1 S4 e5
  refine x_iload_n C 0 dX11_policy_17 rfl rfl ?_
  exact x_iret C (Nat.le_of_ble_eq_true rfl) (Nat.le_of_ble_eq_true rfl) rfl dX11_policy_18 (hg _ _ h1)
theorem kp_X11_policy_met {h : Nat} {x1 : Int32} {S : xm_S} {g : Int32 → xm_S → Prop} {Ex : String → xm_S → Prop}  (h1 : wp_X11_policy h x1 S g Ex) : xm_Met yX11_policy cX11_policy 3 (some (FieldType.int)) rm_X11_policy [xm_r (some h), xm_i x1] S (xm_qi g) Ex :=
  xm_ofW RX11 (by decide +kernel) rfl (Nat.le_of_ble_eq_true rfl) (fun K C N hq hx hi => kp_X11_policy h x1 S C N (fun v S h => by rw [hq]; exact ⟨v, rfl, h⟩) (fun X S h => by rw [hx]; exact h)  h1)
def rm_X11_proposed : Room := { frames := 7, cells := 2, slots := 12, locals := 120 }
theorem dX11_proposed_0 : decode cX11_proposed 0 = .ok (.iload_n 1, 1) := by decide +kernel
theorem dX11_proposed_1 : decode cX11_proposed 1 = .ok (.invokestatic 212, 3) := by decide +kernel
theorem dX11_proposed_4 : decode cX11_proposed 4 = .ok (.iload_n 2, 1) := by decide +kernel
theorem dX11_proposed_5 : decode cX11_proposed 5 = .ok (.invokestatic 122, 3) := by decide +kernel
theorem dX11_proposed_8 : decode cX11_proposed 8 = .ok (.aload_n 0, 1) := by decide +kernel
theorem dX11_proposed_9 : decode cX11_proposed 9 = .ok (.getfield 49, 3) := by decide +kernel
theorem dX11_proposed_12 : decode cX11_proposed 12 = .ok (.iload_n 1, 1) := by decide +kernel
theorem dX11_proposed_13 : decode cX11_proposed 13 = .ok (.aaload, 1) := by decide +kernel
theorem dX11_proposed_14 : decode cX11_proposed 14 = .ok (.iload_n 2, 1) := by decide +kernel
theorem dX11_proposed_15 : decode cX11_proposed 15 = .ok (.iaload, 1) := by decide +kernel
theorem dX11_proposed_16 : decode cX11_proposed 16 = .ok (.ireturn, 1) := by decide +kernel
def wp_X11_proposed (h : Nat) (x1 : Int32) (x2 : Int32) (S : xm_S) (g : Int32 → xm_S → Prop) (Ex : String → xm_S → Prop) : Prop :=
  wp_X11_checkPlatform x1 S (fun S1 => wp_X11_checkPack x2 S1 (fun S3 => st_t S3 h = some (11, 0) ∧ ∃ n6, (st_r S3 h 8) = some n6 ∧ ∃ z9, st_t S3 n6 = some (104, z9) ∧ vp_in x1 z9 ∧ ∃ n11, (st_r S3 n6 (x1).toNatClampNeg) = some n11 ∧ ∃ z14, st_t S3 n11 = some (100, z14) ∧ vp_in x2 z14 ∧ g (st_i S3 n11 (x2).toNatClampNeg) S3) Ex) Ex
set_option maxRecDepth 100000 in
set_option maxHeartbeats 4000000 in
theorem kp_X11_proposed {K : xm_K} (h : Nat) (x1 : Int32) (x2 : Int32) (S : xm_S) {g : Int32 → xm_S → Prop} {Ex : String → xm_S → Prop} (C : xm_Cx K cX11_proposed RX11 3 (some (FieldType.int)) rm_X11_proposed) (N : xm_Nx K) (hg : ∀ v S, g v S → xm_q K (some (xm_i v)) S) (hEx : ∀ X S, Ex X S → xm_x K X S)  (h1 : wp_X11_proposed h x1 x2 S g Ex) : xm_W K 0 0 0 [(0, xm_r (some h)), (1, xm_i x1), (2, xm_i x2)] [] S := by
  unfold wp_X11_proposed at h1
  refine x_iload_n C 1 dX11_proposed_0 rfl rfl ?_
  refine x_callS (rm' := rm_X11_checkPlatform) C (kp_X11_checkPlatform_met h1) lk_58 gw_373 rfl (Nat.le_of_ble_eq_true rfl) ⟨Nat.le_of_ble_eq_true rfl, Nat.le_of_ble_eq_true rfl, (Nat.le_of_ble_eq_true rfl), (Nat.le_of_ble_eq_true rfl)⟩ dX11_proposed_1 (fun X9 S9 hx9 => x_thru C N (Nat.le_of_ble_eq_true rfl) (Nat.le_of_ble_eq_true rfl) (hEx _ _ hx9)) (xm_kv (fun S1 h1 => ?_))
  refine x_iload_n C 2 dX11_proposed_4 rfl rfl ?_
  refine x_callS (rm' := rm_X11_checkPack) C (kp_X11_checkPack_met h1) lk_50 gw_336 rfl (Nat.le_of_ble_eq_true rfl) ⟨Nat.le_of_ble_eq_true rfl, Nat.le_of_ble_eq_true rfl, (Nat.le_of_ble_eq_true rfl), (Nat.le_of_ble_eq_true rfl)⟩ dX11_proposed_5 (fun X9 S9 hx9 => x_thru C N (Nat.le_of_ble_eq_true rfl) (Nat.le_of_ble_eq_true rfl) (hEx _ _ hx9)) (xm_kv (fun S3 h1 => ?_))
  refine x_aload_n C 0 dX11_proposed_8 rfl rfl ?_
  obtain ⟨ht5, h1⟩ := h1
  refine x_getf_r (n := h) C rfl ht5 fd_141 (by decide) dX11_proposed_9 ?_
  refine x_iload_n C 1 dX11_proposed_12 rfl rfl ?_
  obtain ⟨n6, hr7, h1⟩ := h1
  obtain ⟨z9, ht8, h1⟩ := h1
  obtain ⟨hi10, h1⟩ := h1
  refine x_aald (n := n6) C hr7 (by decide) rfl ht8 hi10 dX11_proposed_13 ?_
  refine x_iload_n C 2 dX11_proposed_14 rfl rfl ?_
  obtain ⟨n11, hr12, h1⟩ := h1
  obtain ⟨z14, ht13, h1⟩ := h1
  obtain ⟨hi15, h1⟩ := h1
  refine x_iald (n := n11) C hr12 ht13 hi15 dX11_proposed_15 ?_
  exact x_iret C (Nat.le_of_ble_eq_true rfl) (Nat.le_of_ble_eq_true rfl) rfl dX11_proposed_16 (hg _ _ h1)
theorem kp_X11_proposed_met {h : Nat} {x1 : Int32} {x2 : Int32} {S : xm_S} {g : Int32 → xm_S → Prop} {Ex : String → xm_S → Prop}  (h1 : wp_X11_proposed h x1 x2 S g Ex) : xm_Met yX11_proposed cX11_proposed 3 (some (FieldType.int)) rm_X11_proposed [xm_r (some h), xm_i x1, xm_i x2] S (xm_qi g) Ex :=
  xm_ofW RX11 (by decide +kernel) rfl (Nat.le_of_ble_eq_true rfl) (fun K C N hq hx hi => kp_X11_proposed h x1 x2 S C N (fun v S h => by rw [hq]; exact ⟨v, rfl, h⟩) (fun X S h => by rw [hx]; exact h)  h1)
def rm_X11_provide : Room := { frames := 8, cells := 6, slots := 36, locals := 142 }
theorem dX11_provide_0 : decode cX11_provide 0 = .ok (.aload_n 0, 1) := by decide +kernel
theorem dX11_provide_1 : decode cX11_provide 1 = .ok (.iload_n 1, 1) := by decide +kernel
theorem dX11_provide_2 : decode cX11_provide 2 = .ok (.iload_n 2, 1) := by decide +kernel
theorem dX11_provide_3 : decode cX11_provide 3 = .ok (.invokevirtual 152, 3) := by decide +kernel
theorem dX11_provide_6 : decode cX11_provide 6 = .ok (.iload_n 3, 1) := by decide +kernel
theorem dX11_provide_7 : decode cX11_provide 7 = .ok (.invokestatic 122, 3) := by decide +kernel
theorem dX11_provide_10 : decode cX11_provide 10 = .ok (.iload_n 1, 1) := by decide +kernel
theorem dX11_provide_11 : decode cX11_provide 11 = .ok (.iload_n 3, 1) := by decide +kernel
theorem dX11_provide_12 : decode cX11_provide 12 = .ok (.invokestatic 158, 3) := by decide +kernel
theorem dX11_provide_15 : decode cX11_provide 15 = .ok (.iload 4, 2) := by decide +kernel
theorem dX11_provide_17 : decode cX11_provide 17 = .ok (.iconst 0, 1) := by decide +kernel
theorem dX11_provide_18 : decode cX11_provide 18 = .ok (.ldc 131, 2) := by decide +kernel
theorem dX11_provide_20 : decode cX11_provide 20 = .ok (.invokestatic 132, 3) := by decide +kernel
theorem dX11_provide_23 : decode cX11_provide 23 = .ok (.aload_n 0, 1) := by decide +kernel
theorem dX11_provide_24 : decode cX11_provide 24 = .ok (.getfield 18, 3) := by decide +kernel
theorem dX11_provide_27 : decode cX11_provide 27 = .ok (.iload_n 1, 1) := by decide +kernel
theorem dX11_provide_28 : decode cX11_provide 28 = .ok (.aaload, 1) := by decide +kernel
theorem dX11_provide_29 : decode cX11_provide 29 = .ok (.getfield 143, 3) := by decide +kernel
theorem dX11_provide_32 : decode cX11_provide 32 = .ok (.iload_n 2, 1) := by decide +kernel
theorem dX11_provide_33 : decode cX11_provide 33 = .ok (.aaload, 1) := by decide +kernel
theorem dX11_provide_34 : decode cX11_provide 34 = .ok (.astore 5, 2) := by decide +kernel
theorem dX11_provide_36 : decode cX11_provide 36 = .ok (.aload 5, 2) := by decide +kernel
theorem dX11_provide_38 : decode cX11_provide 38 = .ok (.getfield 180, 3) := by decide +kernel
theorem dX11_provide_41 : decode cX11_provide 41 = .ok (.iconst 2, 1) := by decide +kernel
theorem dX11_provide_42 : decode cX11_provide 42 = .ok (.invokestatic 139, 3) := by decide +kernel
theorem dX11_provide_45 : decode cX11_provide 45 = .ok (.aload 5, 2) := by decide +kernel
theorem dX11_provide_47 : decode cX11_provide 47 = .ok (.getfield 183, 3) := by decide +kernel
theorem dX11_provide_50 : decode cX11_provide 50 = .ok (.aload 5, 2) := by decide +kernel
theorem dX11_provide_52 : decode cX11_provide 52 = .ok (.getfield 180, 3) := by decide +kernel
theorem dX11_provide_55 : decode cX11_provide 55 = .ok (.iload_n 3, 1) := by decide +kernel
theorem dX11_provide_56 : decode cX11_provide 56 = .ok (.iastore, 1) := by decide +kernel
theorem dX11_provide_57 : decode cX11_provide 57 = .ok (.aload 5, 2) := by decide +kernel
theorem dX11_provide_59 : decode cX11_provide 59 = .ok (.getfield 186, 3) := by decide +kernel
theorem dX11_provide_62 : decode cX11_provide 62 = .ok (.aload 5, 2) := by decide +kernel
theorem dX11_provide_64 : decode cX11_provide 64 = .ok (.getfield 180, 3) := by decide +kernel
theorem dX11_provide_67 : decode cX11_provide 67 = .ok (.iload 4, 2) := by decide +kernel
theorem dX11_provide_69 : decode cX11_provide 69 = .ok (.invokestatic 189, 3) := by decide +kernel
theorem dX11_provide_72 : decode cX11_provide 72 = .ok (.iastore, 1) := by decide +kernel
theorem dX11_provide_73 : decode cX11_provide 73 = .ok (.aload 5, 2) := by decide +kernel
theorem dX11_provide_75 : decode cX11_provide 75 = .ok (.dup, 1) := by decide +kernel
theorem dX11_provide_76 : decode cX11_provide 76 = .ok (.getfield 180, 3) := by decide +kernel
theorem dX11_provide_79 : decode cX11_provide 79 = .ok (.iconst 1, 1) := by decide +kernel
theorem dX11_provide_80 : decode cX11_provide 80 = .ok (.iadd, 1) := by decide +kernel
theorem dX11_provide_81 : decode cX11_provide 81 = .ok (.putfield 180, 3) := by decide +kernel
theorem dX11_provide_84 : decode cX11_provide 84 = .ok (.aload 5, 2) := by decide +kernel
theorem dX11_provide_86 : decode cX11_provide 86 = .ok (.getfield 180, 3) := by decide +kernel
theorem dX11_provide_89 : decode cX11_provide 89 = .ok (.ireturn, 1) := by decide +kernel
def wp_X11_provide (h : Nat) (x1 : Int32) (x2 : Int32) (x3 : Int32) (x4 : Int32) (S : xm_S) (g : Int32 → xm_S → Prop) (Ex : String → xm_S → Prop) : Prop :=
  st_t S h = some (11, 0) ∧ wp_X11_checkVersion h x1 x2 S (fun S2 => wp_X11_checkPack x3 S2 (fun S4 => wp_X11_checkOther x1 x3 S4 (fun S6 => wp_X11_checkRange x4 (0 : Int32) (nI 99999) S6 (fun S8 => st_t S8 h = some (11, 0) ∧ ∃ n11, (st_r S8 h 1) = some n11 ∧ ∃ z14, st_t S8 n11 = some (115, z14) ∧ vp_in x1 z14 ∧ ∃ n16, (st_r S8 n11 (x1).toNatClampNeg) = some n16 ∧ st_t S8 n16 = some (5, 0) ∧ ∃ n19, (st_r S8 n16 1) = some n19 ∧ ∃ z22, st_t S8 n19 = some (120, z22) ∧ vp_in x2 z22 ∧ ∃ n24, (st_r S8 n19 (x2).toNatClampNeg) = some n24 ∧ st_t S8 n24 = some (10, 0) ∧ wp_X11_checkRoom (st_i S8 n24 12) (nI 2) S8 (fun S27 => ∃ n29, (st_r S8 n19 (x2).toNatClampNeg) = some n29 ∧ st_t S27 n29 = some (10, 0) ∧ ∃ n32, (st_r S8 n19 (x2).toNatClampNeg) = some n32 ∧ st_t S27 n32 = some (10, 0) ∧ ∃ n35, (st_r S27 n29 10) = some n35 ∧ ∃ z38, st_t S27 n35 = some (100, z38) ∧ vp_in (st_i S27 n32 12) z38 ∧ ∀ S40, S40 = st_pi S27 n35 ((st_i S27 n32 12)).toNatClampNeg x3 → ∃ n42, (st_r S8 n19 (x2).toNatClampNeg) = some n42 ∧ st_t S40 n42 = some (10, 0) ∧ ∃ n45, (st_r S8 n19 (x2).toNatClampNeg) = some n45 ∧ st_t S40 n45 = some (10, 0) ∧ wp_X9_digitsOf x4 S40 (fun r49 S48 => ∃ n50, (st_r S40 n42 11) = some n50 ∧ ∃ z53, st_t S48 n50 = some (100, z53) ∧ vp_in (st_i S40 n45 12) z53 ∧ ∀ S55, S55 = st_pi S48 n50 ((st_i S40 n45 12)).toNatClampNeg r49 → ∃ n57, (st_r S8 n19 (x2).toNatClampNeg) = some n57 ∧ st_t S55 n57 = some (10, 0) ∧ ∃ n60, (st_r S8 n19 (x2).toNatClampNeg) = some n60 ∧ st_t S55 n60 = some (10, 0) ∧ ∀ S63, S63 = st_pi S55 n60 12 ((st_i S55 n57 12) + (1 : Int32)) → ∃ n65, (st_r S8 n19 (x2).toNatClampNeg) = some n65 ∧ st_t S63 n65 = some (10, 0) ∧ g (st_i S63 n65 12) S63)) Ex) Ex) Ex) Ex) Ex
set_option maxRecDepth 100000 in
set_option maxHeartbeats 4000000 in
theorem kp_X11_provide {K : xm_K} (h : Nat) (x1 : Int32) (x2 : Int32) (x3 : Int32) (x4 : Int32) (S : xm_S) {g : Int32 → xm_S → Prop} {Ex : String → xm_S → Prop} (C : xm_Cx K cX11_provide RX11 6 (some (FieldType.int)) rm_X11_provide) (N : xm_Nx K) (hg : ∀ v S, g v S → xm_q K (some (xm_i v)) S) (hEx : ∀ X S, Ex X S → xm_x K X S)  (h1 : wp_X11_provide h x1 x2 x3 x4 S g Ex) : xm_W K 0 0 0 [(0, xm_r (some h)), (1, xm_i x1), (2, xm_i x2), (3, xm_i x3), (4, xm_i x4)] [] S := by
  unfold wp_X11_provide at h1
  refine x_aload_n C 0 dX11_provide_0 rfl rfl ?_
  refine x_iload_n C 1 dX11_provide_1 rfl rfl ?_
  refine x_iload_n C 2 dX11_provide_2 rfl rfl ?_
  obtain ⟨ht1, h1⟩ := h1
  refine x_callV (rm' := rm_X11_checkVersion) (n := h) C (kp_X11_checkVersion_met h1) lk_65 gw_407 gw_408 xv_11 rfl rfl ht1 rfl (Nat.le_of_ble_eq_true rfl) ⟨Nat.le_of_ble_eq_true rfl, Nat.le_of_ble_eq_true rfl, (Nat.le_of_ble_eq_true rfl), (Nat.le_of_ble_eq_true rfl)⟩ dX11_provide_3 (fun X9 S9 hx9 => x_thru C N (Nat.le_of_ble_eq_true rfl) (Nat.le_of_ble_eq_true rfl) (hEx _ _ hx9)) (xm_kv (fun S2 h1 => ?_))
  refine x_iload_n C 3 dX11_provide_6 rfl rfl ?_
  refine x_callS (rm' := rm_X11_checkPack) C (kp_X11_checkPack_met h1) lk_50 gw_336 rfl (Nat.le_of_ble_eq_true rfl) ⟨Nat.le_of_ble_eq_true rfl, Nat.le_of_ble_eq_true rfl, (Nat.le_of_ble_eq_true rfl), (Nat.le_of_ble_eq_true rfl)⟩ dX11_provide_7 (fun X9 S9 hx9 => x_thru C N (Nat.le_of_ble_eq_true rfl) (Nat.le_of_ble_eq_true rfl) (hEx _ _ hx9)) (xm_kv (fun S4 h1 => ?_))
  refine x_iload_n C 1 dX11_provide_10 rfl rfl ?_
  refine x_iload_n C 3 dX11_provide_11 rfl rfl ?_
  refine x_callS (rm' := rm_X11_checkOther) C (kp_X11_checkOther_met h1) lk_67 gw_412 rfl (Nat.le_of_ble_eq_true rfl) ⟨Nat.le_of_ble_eq_true rfl, Nat.le_of_ble_eq_true rfl, (Nat.le_of_ble_eq_true rfl), (Nat.le_of_ble_eq_true rfl)⟩ dX11_provide_12 (fun X9 S9 hx9 => x_thru C N (Nat.le_of_ble_eq_true rfl) (Nat.le_of_ble_eq_true rfl) (hEx _ _ hx9)) (xm_kv (fun S6 h1 => ?_))
  refine x_iload C 4 dX11_provide_15 rfl ?_
  refine x_iconst (v := (0 : Int32)) C dX11_provide_17 (by decide) ?_
  refine x_ldc (v := nI 99999) C gw_499 dX11_provide_18 ?_
  refine x_callS (rm' := rm_X11_checkRange) C (kp_X11_checkRange_met h1) lk_51 gw_339 rfl (Nat.le_of_ble_eq_true rfl) ⟨Nat.le_of_ble_eq_true rfl, Nat.le_of_ble_eq_true rfl, (Nat.le_of_ble_eq_true rfl), (Nat.le_of_ble_eq_true rfl)⟩ dX11_provide_20 (fun X9 S9 hx9 => x_thru C N (Nat.le_of_ble_eq_true rfl) (Nat.le_of_ble_eq_true rfl) (hEx _ _ hx9)) (xm_kv (fun S8 h1 => ?_))
  refine x_aload_n C 0 dX11_provide_23 rfl rfl ?_
  obtain ⟨ht10, h1⟩ := h1
  refine x_getf_r (n := h) C rfl ht10 fd_111 (by decide) dX11_provide_24 ?_
  refine x_iload_n C 1 dX11_provide_27 rfl rfl ?_
  obtain ⟨n11, hr12, h1⟩ := h1
  obtain ⟨z14, ht13, h1⟩ := h1
  obtain ⟨hi15, h1⟩ := h1
  refine x_aald (n := n11) C hr12 (by decide) rfl ht13 hi15 dX11_provide_28 ?_
  obtain ⟨n16, hr17, h1⟩ := h1
  obtain ⟨ht18, h1⟩ := h1
  refine x_getf_r (n := n16) C hr17 ht18 fd_112 (by decide) dX11_provide_29 ?_
  refine x_iload_n C 2 dX11_provide_32 rfl rfl ?_
  obtain ⟨n19, hr20, h1⟩ := h1
  obtain ⟨z22, ht21, h1⟩ := h1
  obtain ⟨hi23, h1⟩ := h1
  refine x_aald (n := n19) C hr20 (by decide) rfl ht21 hi23 dX11_provide_33 ?_
  refine x_astore (L' := [(5, xm_r (st_r S8 n19 (x2).toNatClampNeg)), (0, xm_r (some h)), (1, xm_i x1), (2, xm_i x2), (3, xm_i x3), (4, xm_i x4)]) C dX11_provide_34 (by decide) rfl ?_
  refine x_aload C 0 dX11_provide_36 rfl ?_
  obtain ⟨n24, hr25, h1⟩ := h1
  obtain ⟨ht26, h1⟩ := h1
  refine x_getf_i (n := n24) C hr25 ht26 fd_149 (by decide) dX11_provide_38 ?_
  refine x_iconst (v := (nI 2)) C dX11_provide_41 (by decide) ?_
  refine x_callS (rm' := rm_X11_checkRoom) C (kp_X11_checkRoom_met h1) lk_53 gw_347 rfl (Nat.le_of_ble_eq_true rfl) ⟨Nat.le_of_ble_eq_true rfl, Nat.le_of_ble_eq_true rfl, (Nat.le_of_ble_eq_true rfl), (Nat.le_of_ble_eq_true rfl)⟩ dX11_provide_42 (fun X9 S9 hx9 => x_thru C N (Nat.le_of_ble_eq_true rfl) (Nat.le_of_ble_eq_true rfl) (hEx _ _ hx9)) (xm_kv (fun S27 h1 => ?_))
  refine x_aload C 0 dX11_provide_45 rfl ?_
  obtain ⟨n29, hr30, h1⟩ := h1
  obtain ⟨ht31, h1⟩ := h1
  refine x_getf_r (n := n29) C hr30 ht31 fd_150 (by decide) dX11_provide_47 ?_
  refine x_aload C 0 dX11_provide_50 rfl ?_
  obtain ⟨n32, hr33, h1⟩ := h1
  obtain ⟨ht34, h1⟩ := h1
  refine x_getf_i (n := n32) C hr33 ht34 fd_149 (by decide) dX11_provide_52 ?_
  refine x_iload_n C 4 dX11_provide_55 rfl rfl ?_
  obtain ⟨n35, hr36, h1⟩ := h1
  obtain ⟨z38, ht37, h1⟩ := h1
  obtain ⟨hi39, h1⟩ := h1
  refine x_iast (n := n35) C hr36 ht37 hi39 dX11_provide_56 ?_
  refine x_topS (fun S40 e41 => ?_)
  have h1 := h1 S40 e41
  refine x_aload C 0 dX11_provide_57 rfl ?_
  obtain ⟨n42, hr43, h1⟩ := h1
  obtain ⟨ht44, h1⟩ := h1
  refine x_getf_r (n := n42) C hr43 ht44 fd_151 (by decide) dX11_provide_59 ?_
  refine x_aload C 0 dX11_provide_62 rfl ?_
  obtain ⟨n45, hr46, h1⟩ := h1
  obtain ⟨ht47, h1⟩ := h1
  refine x_getf_i (n := n45) C hr46 ht47 fd_149 (by decide) dX11_provide_64 ?_
  refine x_iload C 5 dX11_provide_67 rfl ?_
  refine x_callS (rm' := rm_X9_digitsOf) C (kp_X9_digitsOf_met h1) lk_81 gw_278 rfl (Nat.le_of_ble_eq_true rfl) ⟨Nat.le_of_ble_eq_true rfl, Nat.le_of_ble_eq_true rfl, (Nat.le_of_ble_eq_true rfl), (Nat.le_of_ble_eq_true rfl)⟩ dX11_provide_69 xm_kx (xm_ki (fun r49 S48 h1 => ?_))
  obtain ⟨n50, hr51, h1⟩ := h1
  obtain ⟨z53, ht52, h1⟩ := h1
  obtain ⟨hi54, h1⟩ := h1
  refine x_iast (n := n50) C hr51 ht52 hi54 dX11_provide_72 ?_
  refine x_topS (fun S55 e56 => ?_)
  have h1 := h1 S55 e56
  refine x_aload C 0 dX11_provide_73 rfl ?_
  refine x_dup_r C dX11_provide_75 ?_
  obtain ⟨n57, hr58, h1⟩ := h1
  obtain ⟨ht59, h1⟩ := h1
  refine x_getf_i (n := n57) C hr58 ht59 fd_149 (by decide) dX11_provide_76 ?_
  refine x_iconst (v := (1 : Int32)) C dX11_provide_79 (by decide) ?_
  refine x_iadd C dX11_provide_80 ?_
  obtain ⟨n60, hr61, h1⟩ := h1
  obtain ⟨ht62, h1⟩ := h1
  refine x_putf_i (n := n60) C hr61 ht62 fd_149 xc_10 (by decide) rfl ⟨rfl, rfl⟩ dX11_provide_81 ?_
  refine x_topS (fun S63 e64 => ?_)
  have h1 := h1 S63 e64
  refine x_aload C 0 dX11_provide_84 rfl ?_
  obtain ⟨n65, hr66, h1⟩ := h1
  obtain ⟨ht67, h1⟩ := h1
  refine x_getf_i (n := n65) C hr66 ht67 fd_149 (by decide) dX11_provide_86 ?_
  exact x_iret C (Nat.le_of_ble_eq_true rfl) (Nat.le_of_ble_eq_true rfl) rfl dX11_provide_89 (hg _ _ h1)
theorem kp_X11_provide_met {h : Nat} {x1 : Int32} {x2 : Int32} {x3 : Int32} {x4 : Int32} {S : xm_S} {g : Int32 → xm_S → Prop} {Ex : String → xm_S → Prop}  (h1 : wp_X11_provide h x1 x2 x3 x4 S g Ex) : xm_Met yX11_provide cX11_provide 6 (some (FieldType.int)) rm_X11_provide [xm_r (some h), xm_i x1, xm_i x2, xm_i x3, xm_i x4] S (xm_qi g) Ex :=
  xm_ofW RX11 (by decide +kernel) rfl (Nat.le_of_ble_eq_true rfl) (fun K C N hq hx hi => kp_X11_provide h x1 x2 x3 x4 S C N (fun v S h => by rw [hq]; exact ⟨v, rfl, h⟩) (fun X S h => by rw [hx]; exact h)  h1)
def rm_X11_role : Room := { frames := 7, cells := 3, slots := 18, locals := 122 }
theorem dX11_role_0 : decode cX11_role 0 = .ok (.iload_n 1, 1) := by decide +kernel
theorem dX11_role_1 : decode cX11_role 1 = .ok (.iconst 1, 1) := by decide +kernel
theorem dX11_role_2 : decode cX11_role 2 = .ok (.bipush 31, 2) := by decide +kernel
theorem dX11_role_4 : decode cX11_role 4 = .ok (.invokestatic 132, 3) := by decide +kernel
theorem dX11_role_7 : decode cX11_role 7 = .ok (.iload_n 2, 1) := by decide +kernel
theorem dX11_role_8 : decode cX11_role 8 = .ok (.iconst 1, 1) := by decide +kernel
theorem dX11_role_9 : decode cX11_role 9 = .ok (.iload_n 1, 1) := by decide +kernel
theorem dX11_role_10 : decode cX11_role 10 = .ok (.invokestatic 230, 3) := by decide +kernel
theorem dX11_role_13 : decode cX11_role 13 = .ok (.invokestatic 132, 3) := by decide +kernel
theorem dX11_role_16 : decode cX11_role 16 = .ok (.iload_n 3, 1) := by decide +kernel
theorem dX11_role_17 : decode cX11_role 17 = .ok (.iconst 0, 1) := by decide +kernel
theorem dX11_role_18 : decode cX11_role 18 = .ok (.bipush 31, 2) := by decide +kernel
theorem dX11_role_20 : decode cX11_role 20 = .ok (.invokestatic 132, 3) := by decide +kernel
theorem dX11_role_23 : decode cX11_role 23 = .ok (.iload_n 3, 1) := by decide +kernel
theorem dX11_role_24 : decode cX11_role 24 = .ok (.aload_n 0, 1) := by decide +kernel
theorem dX11_role_25 : decode cX11_role 25 = .ok (.getfield 66, 3) := by decide +kernel
theorem dX11_role_28 : decode cX11_role 28 = .ok (.iand, 1) := by decide +kernel
theorem dX11_role_29 : decode cX11_role 29 = .ok (.invokestatic 230, 3) := by decide +kernel
theorem dX11_role_32 : decode cX11_role 32 = .ok (.aload_n 0, 1) := by decide +kernel
theorem dX11_role_33 : decode cX11_role 33 = .ok (.getfield 69, 3) := by decide +kernel
theorem dX11_role_36 : decode cX11_role 36 = .ok (.if_icmp .lt 17, 3) := by decide +kernel
theorem dX11_role_39 : decode cX11_role 39 = .ok (.iload_n 3, 1) := by decide +kernel
theorem dX11_role_40 : decode cX11_role 40 = .ok (.iload_n 1, 1) := by decide +kernel
theorem dX11_role_41 : decode cX11_role 41 = .ok (.iand, 1) := by decide +kernel
theorem dX11_role_42 : decode cX11_role 42 = .ok (.invokestatic 230, 3) := by decide +kernel
theorem dX11_role_45 : decode cX11_role 45 = .ok (.iload_n 2, 1) := by decide +kernel
theorem dX11_role_46 : decode cX11_role 46 = .ok (.if_icmp .lt 7, 3) := by decide +kernel
theorem dX11_role_49 : decode cX11_role 49 = .ok (.iconst 1, 1) := by decide +kernel
theorem dX11_role_50 : decode cX11_role 50 = .ok (.goto 4, 3) := by decide +kernel
theorem dX11_role_53 : decode cX11_role 53 = .ok (.iconst 0, 1) := by decide +kernel
theorem dX11_role_54 : decode cX11_role 54 = .ok (.istore 4, 2) := by decide +kernel
theorem dX11_role_56 : decode cX11_role 56 = .ok (.iload 4, 2) := by decide +kernel
theorem dX11_role_58 : decode cX11_role 58 = .ok (.ifCond .eq 13, 3) := by decide +kernel
theorem dX11_role_61 : decode cX11_role 61 = .ok (.aload_n 0, 1) := by decide +kernel
theorem dX11_role_62 : decode cX11_role 62 = .ok (.iload_n 1, 1) := by decide +kernel
theorem dX11_role_63 : decode cX11_role 63 = .ok (.putfield 66, 3) := by decide +kernel
theorem dX11_role_66 : decode cX11_role 66 = .ok (.aload_n 0, 1) := by decide +kernel
theorem dX11_role_67 : decode cX11_role 67 = .ok (.iload_n 2, 1) := by decide +kernel
theorem dX11_role_68 : decode cX11_role 68 = .ok (.putfield 69, 3) := by decide +kernel
theorem dX11_role_71 : decode cX11_role 71 = .ok (.iload 4, 2) := by decide +kernel
theorem dX11_role_73 : decode cX11_role 73 = .ok (.ireturn, 1) := by decide +kernel
def wp_X11_role_71 (h : Nat) (x4 : Int32) (S : xm_S) (g : Int32 → xm_S → Prop) (Ex : String → xm_S → Prop) : Prop :=
  (x4 = 0 ∨ x4 = 1) ∧ g x4 S
set_option maxRecDepth 100000 in
set_option maxHeartbeats 4000000 in
theorem kp_X11_role_71 {K : xm_K} (h : Nat) (x4 : Int32) (S : xm_S) {g : Int32 → xm_S → Prop} {Ex : String → xm_S → Prop} (C : xm_Cx K cX11_role RX11 5 (some (FieldType.boolean)) rm_X11_role) (N : xm_Nx K) (hg : ∀ v S, g v S → xm_q K (some (xm_i v)) S) (hEx : ∀ X S, Ex X S → xm_x K X S)  (h1 : wp_X11_role_71 h x4 S g Ex) : xm_W K 3 18 71 [(4, xm_i x4)] [] S := by
  unfold wp_X11_role_71 at h1
  refine x_iload C 0 dX11_role_71 rfl ?_
  exact x_zret C (Nat.le_of_ble_eq_true rfl) (Nat.le_of_ble_eq_true rfl) rfl h1.1 dX11_role_73 (hg _ _ h1.2)
def wp_X11_role_54 (h : Nat) (x1 : Int32) (x2 : Int32) (s0 : Int32) (S : xm_S) (g : Int32 → xm_S → Prop) (Ex : String → xm_S → Prop) : Prop :=
  (s0 = 0 → wp_X11_role_71 h s0 S g Ex) ∧ (¬ s0 = 0 → st_t S h = some (11, 0) ∧ ∀ S2, S2 = st_pi S h 12 x1 → ∀ S4, S4 = st_pi S2 h 13 x2 → wp_X11_role_71 h s0 S4 g Ex)
set_option maxRecDepth 100000 in
set_option maxHeartbeats 4000000 in
theorem kp_X11_role_54 {K : xm_K} (h : Nat) (x1 : Int32) (x2 : Int32) (s0 : Int32) (S : xm_S) {g : Int32 → xm_S → Prop} {Ex : String → xm_S → Prop} (C : xm_Cx K cX11_role RX11 5 (some (FieldType.boolean)) rm_X11_role) (N : xm_Nx K) (hg : ∀ v S, g v S → xm_q K (some (xm_i v)) S) (hEx : ∀ X S, Ex X S → xm_x K X S)  (h1 : wp_X11_role_54 h x1 x2 s0 S g Ex) : xm_W K 3 18 54 [(0, xm_r (some h)), (1, xm_i x1), (2, xm_i x2)] [xm_i s0] S := by
  unfold wp_X11_role_54 at h1
  refine x_istore (L' := [(4, xm_i s0), (0, xm_r (some h)), (1, xm_i x1), (2, xm_i x2)]) C dX11_role_54 (by decide) rfl ?_
  refine x_iload C 0 dX11_role_56 rfl ?_
  refine x_if_eq (tgt := 71) C dX11_role_58 (by decide) (fun z9 => ?_) (fun z9 => ?_)
  · have h1 := h1.1 z9
    refine x_keep (L' := [(4, xm_i s0)]) C [0] rfl ?_
    exact kp_X11_role_71 h s0 S C N hg hEx  h1
  · have h1 := h1.2 z9
    refine x_aload_n C 1 dX11_role_61 rfl rfl ?_
    refine x_iload_n C 2 dX11_role_62 rfl rfl ?_
    obtain ⟨ht1, h1⟩ := h1
    refine x_putf_i (n := h) C rfl ht1 fd_137 xc_11 (by decide) rfl ⟨rfl, rfl⟩ dX11_role_63 ?_
    refine x_topS (fun S2 e3 => ?_)
    have h1 := h1 S2 e3
    refine x_aload_n C 1 dX11_role_66 rfl rfl ?_
    refine x_iload_n C 3 dX11_role_67 rfl rfl ?_
    refine x_putf_i (n := h) C rfl (tk_p e3 ht1) fd_138 xc_11 (by decide) rfl ⟨rfl, rfl⟩ dX11_role_68 ?_
    refine x_topS (fun S4 e5 => ?_)
    have h1 := h1 S4 e5
    refine x_keep (L' := [(4, xm_i s0)]) C [0] rfl ?_
    exact kp_X11_role_71 h s0 S4 C N hg hEx  h1
def wp_X11_role_53 (h : Nat) (x1 : Int32) (x2 : Int32) (S : xm_S) (g : Int32 → xm_S → Prop) (Ex : String → xm_S → Prop) : Prop :=
  wp_X11_role_54 h x1 x2 (0 : Int32) S g Ex
set_option maxRecDepth 100000 in
set_option maxHeartbeats 4000000 in
theorem kp_X11_role_53 {K : xm_K} (h : Nat) (x1 : Int32) (x2 : Int32) (S : xm_S) {g : Int32 → xm_S → Prop} {Ex : String → xm_S → Prop} (C : xm_Cx K cX11_role RX11 5 (some (FieldType.boolean)) rm_X11_role) (N : xm_Nx K) (hg : ∀ v S, g v S → xm_q K (some (xm_i v)) S) (hEx : ∀ X S, Ex X S → xm_x K X S)  (h1 : wp_X11_role_53 h x1 x2 S g Ex) : xm_W K 3 18 53 [(0, xm_r (some h)), (1, xm_i x1), (2, xm_i x2)] [] S := by
  unfold wp_X11_role_53 at h1
  refine x_iconst (v := (0 : Int32)) C dX11_role_53 (by decide) ?_
  exact kp_X11_role_54 h x1 x2 (0 : Int32) S C N hg hEx  h1
def wp_X11_role (h : Nat) (x1 : Int32) (x2 : Int32) (x3 : Int32) (S : xm_S) (g : Int32 → xm_S → Prop) (Ex : String → xm_S → Prop) : Prop :=
  wp_X11_checkRange x1 (1 : Int32) (nI 31) S (fun S6 => wp_J6_bitCount_0f7a4 x1 S6 (fun r9 S8 => wp_X11_checkRange x2 (1 : Int32) r9 S8 (fun S10 => wp_X11_checkRange x3 (0 : Int32) (nI 31) S10 (fun S12 => st_t S12 h = some (11, 0) ∧ wp_J6_bitCount_0f7a4 (x3 &&& (st_i S12 h 12)) S12 (fun r16 S15 => st_t S15 h = some (11, 0) ∧ (r16 < (st_i S15 h 13) → wp_X11_role_53 h x1 x2 S15 g Ex) ∧ (¬ r16 < (st_i S15 h 13) → wp_J6_bitCount_0f7a4 (x3 &&& x1) S15 (fun r19 S18 => (r19 < x2 → wp_X11_role_53 h x1 x2 S18 g Ex) ∧ (¬ r19 < x2 → wp_X11_role_54 h x1 x2 (1 : Int32) S18 g Ex))))) Ex) Ex)) Ex
set_option maxRecDepth 100000 in
set_option maxHeartbeats 4000000 in
theorem kp_X11_role {K : xm_K} (h : Nat) (x1 : Int32) (x2 : Int32) (x3 : Int32) (S : xm_S) {g : Int32 → xm_S → Prop} {Ex : String → xm_S → Prop} (C : xm_Cx K cX11_role RX11 5 (some (FieldType.boolean)) rm_X11_role) (N : xm_Nx K) (hg : ∀ v S, g v S → xm_q K (some (xm_i v)) S) (hEx : ∀ X S, Ex X S → xm_x K X S)  (h1 : wp_X11_role h x1 x2 x3 S g Ex) : xm_W K 0 0 0 [(0, xm_r (some h)), (1, xm_i x1), (2, xm_i x2), (3, xm_i x3)] [] S := by
  unfold wp_X11_role at h1
  refine x_iload_n C 1 dX11_role_0 rfl rfl ?_
  refine x_iconst (v := (1 : Int32)) C dX11_role_1 (by decide) ?_
  refine x_bipush (v := (nI 31)) C dX11_role_2 (by decide) ?_
  refine x_callS (rm' := rm_X11_checkRange) C (kp_X11_checkRange_met h1) lk_51 gw_339 rfl (Nat.le_of_ble_eq_true rfl) ⟨Nat.le_of_ble_eq_true rfl, Nat.le_of_ble_eq_true rfl, (Nat.le_of_ble_eq_true rfl), (Nat.le_of_ble_eq_true rfl)⟩ dX11_role_4 (fun X9 S9 hx9 => x_thru C N (Nat.le_of_ble_eq_true rfl) (Nat.le_of_ble_eq_true rfl) (hEx _ _ hx9)) (xm_kv (fun S6 h1 => ?_))
  refine x_iload_n C 2 dX11_role_7 rfl rfl ?_
  refine x_iconst (v := (1 : Int32)) C dX11_role_8 (by decide) ?_
  refine x_iload_n C 1 dX11_role_9 rfl rfl ?_
  refine x_callS (rm' := rm_J6_bitCount_0f7a4) C (kp_J6_bitCount_0f7a4_met h1) lk_75 gw_457 rfl (Nat.le_of_ble_eq_true rfl) ⟨Nat.le_of_ble_eq_true rfl, Nat.le_of_ble_eq_true rfl, (Nat.le_of_ble_eq_true rfl), (Nat.le_of_ble_eq_true rfl)⟩ dX11_role_10 xm_kx (xm_ki (fun r9 S8 h1 => ?_))
  refine x_callS (rm' := rm_X11_checkRange) C (kp_X11_checkRange_met h1) lk_51 gw_339 rfl (Nat.le_of_ble_eq_true rfl) ⟨Nat.le_of_ble_eq_true rfl, Nat.le_of_ble_eq_true rfl, (Nat.le_of_ble_eq_true rfl), (Nat.le_of_ble_eq_true rfl)⟩ dX11_role_13 (fun X9 S9 hx9 => x_thru C N (Nat.le_of_ble_eq_true rfl) (Nat.le_of_ble_eq_true rfl) (hEx _ _ hx9)) (xm_kv (fun S10 h1 => ?_))
  refine x_iload_n C 3 dX11_role_16 rfl rfl ?_
  refine x_iconst (v := (0 : Int32)) C dX11_role_17 (by decide) ?_
  refine x_bipush (v := (nI 31)) C dX11_role_18 (by decide) ?_
  refine x_callS (rm' := rm_X11_checkRange) C (kp_X11_checkRange_met h1) lk_51 gw_339 rfl (Nat.le_of_ble_eq_true rfl) ⟨Nat.le_of_ble_eq_true rfl, Nat.le_of_ble_eq_true rfl, (Nat.le_of_ble_eq_true rfl), (Nat.le_of_ble_eq_true rfl)⟩ dX11_role_20 (fun X9 S9 hx9 => x_thru C N (Nat.le_of_ble_eq_true rfl) (Nat.le_of_ble_eq_true rfl) (hEx _ _ hx9)) (xm_kv (fun S12 h1 => ?_))
  refine x_iload_n C 3 dX11_role_23 rfl rfl ?_
  refine x_aload_n C 0 dX11_role_24 rfl rfl ?_
  obtain ⟨ht14, h1⟩ := h1
  refine x_getf_i (n := h) C rfl ht14 fd_137 (by decide) dX11_role_25 ?_
  refine x_iand C dX11_role_28 ?_
  refine x_callS (rm' := rm_J6_bitCount_0f7a4) C (kp_J6_bitCount_0f7a4_met h1) lk_75 gw_457 rfl (Nat.le_of_ble_eq_true rfl) ⟨Nat.le_of_ble_eq_true rfl, Nat.le_of_ble_eq_true rfl, (Nat.le_of_ble_eq_true rfl), (Nat.le_of_ble_eq_true rfl)⟩ dX11_role_29 xm_kx (xm_ki (fun r16 S15 h1 => ?_))
  refine x_aload_n C 0 dX11_role_32 rfl rfl ?_
  obtain ⟨ht17, h1⟩ := h1
  refine x_getf_i (n := h) C rfl ht17 fd_138 (by decide) dX11_role_33 ?_
  refine x_icmp_lt (tgt := 53) C dX11_role_36 (by decide) (fun z9 => ?_) (fun z9 => ?_)
  · have h1 := h1.1 z9
    refine x_keep (L' := [(0, xm_r (some h)), (1, xm_i x1), (2, xm_i x2)]) C [0, 1, 2] rfl ?_
    exact kp_X11_role_53 h x1 x2 S15 C N hg hEx  h1
  · have h1 := h1.2 z9
    refine x_iload_n C 3 dX11_role_39 rfl rfl ?_
    refine x_iload_n C 1 dX11_role_40 rfl rfl ?_
    refine x_iand C dX11_role_41 ?_
    refine x_callS (rm' := rm_J6_bitCount_0f7a4) C (kp_J6_bitCount_0f7a4_met h1) lk_75 gw_457 rfl (Nat.le_of_ble_eq_true rfl) ⟨Nat.le_of_ble_eq_true rfl, Nat.le_of_ble_eq_true rfl, (Nat.le_of_ble_eq_true rfl), (Nat.le_of_ble_eq_true rfl)⟩ dX11_role_42 xm_kx (xm_ki (fun r19 S18 h1 => ?_))
    refine x_iload_n C 2 dX11_role_45 rfl rfl ?_
    refine x_icmp_lt (tgt := 53) C dX11_role_46 (by decide) (fun z9 => ?_) (fun z9 => ?_)
    · have h1 := h1.1 z9
      refine x_keep (L' := [(0, xm_r (some h)), (1, xm_i x1), (2, xm_i x2)]) C [0, 1, 2] rfl ?_
      exact kp_X11_role_53 h x1 x2 S18 C N hg hEx  h1
    · have h1 := h1.2 z9
      refine x_iconst (v := (1 : Int32)) C dX11_role_49 (by decide) ?_
      refine x_goto (tgt := 54) C dX11_role_50 (by decide) ?_
      refine x_keep (L' := [(0, xm_r (some h)), (1, xm_i x1), (2, xm_i x2)]) C [0, 1, 2] rfl ?_
      exact kp_X11_role_54 h x1 x2 (1 : Int32) S18 C N hg hEx  h1
theorem kp_X11_role_met {h : Nat} {x1 : Int32} {x2 : Int32} {x3 : Int32} {S : xm_S} {g : Int32 → xm_S → Prop} {Ex : String → xm_S → Prop}  (h1 : wp_X11_role h x1 x2 x3 S g Ex) : xm_Met yX11_role cX11_role 5 (some (FieldType.boolean)) rm_X11_role [xm_r (some h), xm_i x1, xm_i x2, xm_i x3] S (xm_qi g) Ex :=
  xm_ofW RX11 (by decide +kernel) rfl (Nat.le_of_ble_eq_true rfl) (fun K C N hq hx hi => kp_X11_role h x1 x2 x3 S C N (fun v S h => by rw [hq]; exact ⟨v, rfl, h⟩) (fun X S h => by rw [hx]; exact h)  h1)
def rm_X11_rollback : Room := { frames := 7, cells := 1, slots := 6, locals := 122 }
theorem dX11_rollback_0 : decode cX11_rollback 0 = .ok (.aload_n 0, 1) := by decide +kernel
theorem dX11_rollback_1 : decode cX11_rollback 1 = .ok (.getfield 85, 3) := by decide +kernel
theorem dX11_rollback_4 : decode cX11_rollback 4 = .ok (.aload_n 0, 1) := by decide +kernel
theorem dX11_rollback_5 : decode cX11_rollback 5 = .ok (.iload_n 1, 1) := by decide +kernel
theorem dX11_rollback_6 : decode cX11_rollback 6 = .ok (.invokevirtual 325, 3) := by decide +kernel
theorem dX11_rollback_9 : decode cX11_rollback 9 = .ok (.invokevirtual 334, 3) := by decide +kernel
theorem dX11_rollback_12 : decode cX11_rollback 12 = .ok (.ireturn, 1) := by decide +kernel
def wp_X11_rollback (h : Nat) (x1 : Int32) (S : xm_S) (g : Int32 → xm_S → Prop) (Ex : String → xm_S → Prop) : Prop :=
  st_t S h = some (11, 0) ∧ wp_X11_keptGeneration h x1 S (fun r3 S2 => ∃ n4, (st_r S h 17) = some n4 ∧ st_t S2 n4 = some (2, 0) ∧ wp_X2_returnTo n4 r3 S2 (fun r8 S7 => g r8 S7)) Ex
set_option maxRecDepth 100000 in
set_option maxHeartbeats 4000000 in
theorem kp_X11_rollback {K : xm_K} (h : Nat) (x1 : Int32) (S : xm_S) {g : Int32 → xm_S → Prop} {Ex : String → xm_S → Prop} (C : xm_Cx K cX11_rollback RX11 2 (some (FieldType.int)) rm_X11_rollback) (N : xm_Nx K) (hg : ∀ v S, g v S → xm_q K (some (xm_i v)) S) (hEx : ∀ X S, Ex X S → xm_x K X S)  (h1 : wp_X11_rollback h x1 S g Ex) : xm_W K 0 0 0 [(0, xm_r (some h)), (1, xm_i x1)] [] S := by
  unfold wp_X11_rollback at h1
  refine x_aload_n C 0 dX11_rollback_0 rfl rfl ?_
  obtain ⟨ht1, h1⟩ := h1
  refine x_getf_r (n := h) C rfl ht1 fd_120 (by decide) dX11_rollback_1 ?_
  refine x_aload_n C 0 dX11_rollback_4 rfl rfl ?_
  refine x_iload_n C 1 dX11_rollback_5 rfl rfl ?_
  refine x_callV (rm' := rm_X11_keptGeneration) (n := h) C (kp_X11_keptGeneration_met h1) lk_82 gw_506 gw_507 xv_11 rfl rfl ht1 rfl (Nat.le_of_ble_eq_true rfl) ⟨Nat.le_of_ble_eq_true rfl, Nat.le_of_ble_eq_true rfl, (Nat.le_of_ble_eq_true rfl), (Nat.le_of_ble_eq_true rfl)⟩ dX11_rollback_6 (fun X9 S9 hx9 => x_thru C N (Nat.le_of_ble_eq_true rfl) (Nat.le_of_ble_eq_true rfl) (hEx _ _ hx9)) (xm_kr (fun r3 S2 h1 => ?_))
  obtain ⟨n4, hr5, h1⟩ := h1
  obtain ⟨ht6, h1⟩ := h1
  refine x_callV (rm' := rm_X2_returnTo) (n := n4) C (kp_X2_returnTo_met h1) lk_83 gw_510 gw_511 xv_2 rfl hr5 ht6 rfl (Nat.le_of_ble_eq_true rfl) ⟨Nat.le_of_ble_eq_true rfl, Nat.le_of_ble_eq_true rfl, (Nat.le_of_ble_eq_true rfl), (Nat.le_of_ble_eq_true rfl)⟩ dX11_rollback_9 xm_kx (xm_ki (fun r8 S7 h1 => ?_))
  exact x_iret C (Nat.le_of_ble_eq_true rfl) (Nat.le_of_ble_eq_true rfl) rfl dX11_rollback_12 (hg _ _ h1)
theorem kp_X11_rollback_met {h : Nat} {x1 : Int32} {S : xm_S} {g : Int32 → xm_S → Prop} {Ex : String → xm_S → Prop}  (h1 : wp_X11_rollback h x1 S g Ex) : xm_Met yX11_rollback cX11_rollback 2 (some (FieldType.int)) rm_X11_rollback [xm_r (some h), xm_i x1] S (xm_qi g) Ex :=
  xm_ofW RX11 (by decide +kernel) rfl (Nat.le_of_ble_eq_true rfl) (fun K C N hq hx hi => kp_X11_rollback h x1 S C N (fun v S h => by rw [hq]; exact ⟨v, rfl, h⟩) (fun X S h => by rw [hx]; exact h)  h1)
def rm_X11_run : Room := { frames := 7, cells := 1, slots := 6, locals := 122 }
theorem dX11_run_0 : decode cX11_run 0 = .ok (.aload_n 0, 1) := by decide +kernel
theorem dX11_run_1 : decode cX11_run 1 = .ok (.iload_n 1, 1) := by decide +kernel
theorem dX11_run_2 : decode cX11_run 2 = .ok (.invokevirtual 325, 3) := by decide +kernel
theorem dX11_run_5 : decode cX11_run 5 = .ok (.astore_n 3, 1) := by decide +kernel
theorem dX11_run_6 : decode cX11_run 6 = .ok (.aload_n 3, 1) := by decide +kernel
theorem dX11_run_7 : decode cX11_run 7 = .ok (.getfield 329, 3) := by decide +kernel
theorem dX11_run_10 : decode cX11_run 10 = .ok (.istore 4, 2) := by decide +kernel
theorem dX11_run_12 : decode cX11_run 12 = .ok (.aload_n 3, 1) := by decide +kernel
theorem dX11_run_13 : decode cX11_run 13 = .ok (.iload_n 2, 1) := by decide +kernel
theorem dX11_run_14 : decode cX11_run 14 = .ok (.putfield 329, 3) := by decide +kernel
theorem dX11_run_17 : decode cX11_run 17 = .ok (.iload 4, 2) := by decide +kernel
theorem dX11_run_19 : decode cX11_run 19 = .ok (.ireturn, 1) := by decide +kernel
def wp_X11_run (h : Nat) (x1 : Int32) (x2 : Int32) (S : xm_S) (g : Int32 → xm_S → Prop) (Ex : String → xm_S → Prop) : Prop :=
  st_t S h = some (11, 0) ∧ wp_X11_keptGeneration h x1 S (fun r3 S2 => ∃ n4, r3 = some n4 ∧ st_t S2 n4 = some (1, 0) ∧ ∃ n7, r3 = some n7 ∧ st_t S2 n7 = some (1, 0) ∧ (x2 = 0 ∨ x2 = 1) ∧ ∀ S11, S11 = st_pi S2 n7 1 x2 → ((st_i S2 n4 1) = 0 ∨ (st_i S2 n4 1) = 1) ∧ g (st_i S2 n4 1) S11) Ex
set_option maxRecDepth 100000 in
set_option maxHeartbeats 4000000 in
theorem kp_X11_run {K : xm_K} (h : Nat) (x1 : Int32) (x2 : Int32) (S : xm_S) {g : Int32 → xm_S → Prop} {Ex : String → xm_S → Prop} (C : xm_Cx K cX11_run RX11 5 (some (FieldType.boolean)) rm_X11_run) (N : xm_Nx K) (hg : ∀ v S, g v S → xm_q K (some (xm_i v)) S) (hEx : ∀ X S, Ex X S → xm_x K X S)  (h1 : wp_X11_run h x1 x2 S g Ex) : xm_W K 0 0 0 [(0, xm_r (some h)), (1, xm_i x1), (2, xm_i x2)] [] S := by
  unfold wp_X11_run at h1
  refine x_aload_n C 0 dX11_run_0 rfl rfl ?_
  refine x_iload_n C 1 dX11_run_1 rfl rfl ?_
  obtain ⟨ht1, h1⟩ := h1
  refine x_callV (rm' := rm_X11_keptGeneration) (n := h) C (kp_X11_keptGeneration_met h1) lk_82 gw_506 gw_507 xv_11 rfl rfl ht1 rfl (Nat.le_of_ble_eq_true rfl) ⟨Nat.le_of_ble_eq_true rfl, Nat.le_of_ble_eq_true rfl, (Nat.le_of_ble_eq_true rfl), (Nat.le_of_ble_eq_true rfl)⟩ dX11_run_2 (fun X9 S9 hx9 => x_thru C N (Nat.le_of_ble_eq_true rfl) (Nat.le_of_ble_eq_true rfl) (hEx _ _ hx9)) (xm_kr (fun r3 S2 h1 => ?_))
  refine x_astore_n (L' := [(3, xm_r r3), (0, xm_r (some h)), (1, xm_i x1), (2, xm_i x2)]) C dX11_run_5 rfl (by decide) rfl ?_
  refine x_aload_n C 0 dX11_run_6 rfl rfl ?_
  obtain ⟨n4, hr5, h1⟩ := h1
  obtain ⟨ht6, h1⟩ := h1
  refine x_getf_i (n := n4) C hr5 ht6 fd_152 (by decide) dX11_run_7 ?_
  refine x_istore (L' := [(4, xm_i (st_i S2 n4 1)), (3, xm_r r3), (0, xm_r (some h)), (1, xm_i x1), (2, xm_i x2)]) C dX11_run_10 (by decide) rfl ?_
  refine x_aload_n C 1 dX11_run_12 rfl rfl ?_
  refine x_iload_n C 4 dX11_run_13 rfl rfl ?_
  obtain ⟨n7, hr8, h1⟩ := h1
  obtain ⟨ht9, h1⟩ := h1
  obtain ⟨hz10, h1⟩ := h1
  refine x_putf_i (n := n7) C hr8 ht9 fd_152 xc_1 (by decide) rfl (xm_nz hz10) dX11_run_14 ?_
  refine x_topS (fun S11 e12 => ?_)
  have h1 := h1 S11 e12
  refine x_iload C 0 dX11_run_17 rfl ?_
  exact x_zret C (Nat.le_of_ble_eq_true rfl) (Nat.le_of_ble_eq_true rfl) rfl h1.1 dX11_run_19 (hg _ _ h1.2)
theorem kp_X11_run_met {h : Nat} {x1 : Int32} {x2 : Int32} {S : xm_S} {g : Int32 → xm_S → Prop} {Ex : String → xm_S → Prop}  (h1 : wp_X11_run h x1 x2 S g Ex) : xm_Met yX11_run cX11_run 5 (some (FieldType.boolean)) rm_X11_run [xm_r (some h), xm_i x1, xm_i x2] S (xm_qi g) Ex :=
  xm_ofW RX11 (by decide +kernel) rfl (Nat.le_of_ble_eq_true rfl) (fun K C N hq hx hi => kp_X11_run h x1 x2 S C N (fun v S h => by rw [hq]; exact ⟨v, rfl, h⟩) (fun X S h => by rw [hx]; exact h)  h1)
def rm_X11_scheme : Room := { frames := 7, cells := 2, slots := 12, locals := 120 }
theorem dX11_scheme_0 : decode cX11_scheme 0 = .ok (.iload_n 1, 1) := by decide +kernel
theorem dX11_scheme_1 : decode cX11_scheme 1 = .ok (.invokestatic 122, 3) := by decide +kernel
theorem dX11_scheme_4 : decode cX11_scheme 4 = .ok (.iload_n 2, 1) := by decide +kernel
theorem dX11_scheme_5 : decode cX11_scheme 5 = .ok (.ifCond .lt 8, 3) := by decide +kernel
theorem dX11_scheme_8 : decode cX11_scheme 8 = .ok (.iload_n 2, 1) := by decide +kernel
theorem dX11_scheme_9 : decode cX11_scheme 9 = .ok (.iconst 2, 1) := by decide +kernel
theorem dX11_scheme_10 : decode cX11_scheme 10 = .ok (.if_icmp .le 13, 3) := by decide +kernel
theorem dX11_scheme_13 : decode cX11_scheme 13 = .ok (.new 90, 3) := by decide +kernel
theorem dX11_scheme_16 : decode cX11_scheme 16 = .ok (.dup, 1) := by decide +kernel
theorem dX11_scheme_17 : decode cX11_scheme 17 = .ok (.ldc 126, 2) := by decide +kernel
theorem dX11_scheme_19 : decode cX11_scheme 19 = .ok (.invokespecial 94, 3) := by decide +kernel
theorem dX11_scheme_22 : decode cX11_scheme 22 = .ok (.athrow, 1) := by decide +kernel
theorem dX11_scheme_23 : decode cX11_scheme 23 = .ok (.aload_n 0, 1) := by decide +kernel
theorem dX11_scheme_24 : decode cX11_scheme 24 = .ok (.getfield 18, 3) := by decide +kernel
theorem dX11_scheme_27 : decode cX11_scheme 27 = .ok (.iload_n 1, 1) := by decide +kernel
theorem dX11_scheme_28 : decode cX11_scheme 28 = .ok (.aaload, 1) := by decide +kernel
theorem dX11_scheme_29 : decode cX11_scheme 29 = .ok (.getfield 128, 3) := by decide +kernel
theorem dX11_scheme_32 : decode cX11_scheme 32 = .ok (.istore_n 3, 1) := by decide +kernel
theorem dX11_scheme_33 : decode cX11_scheme 33 = .ok (.aload_n 0, 1) := by decide +kernel
theorem dX11_scheme_34 : decode cX11_scheme 34 = .ok (.getfield 18, 3) := by decide +kernel
theorem dX11_scheme_37 : decode cX11_scheme 37 = .ok (.iload_n 1, 1) := by decide +kernel
theorem dX11_scheme_38 : decode cX11_scheme 38 = .ok (.aaload, 1) := by decide +kernel
theorem dX11_scheme_39 : decode cX11_scheme 39 = .ok (.iload_n 2, 1) := by decide +kernel
theorem dX11_scheme_40 : decode cX11_scheme 40 = .ok (.putfield 128, 3) := by decide +kernel
theorem dX11_scheme_43 : decode cX11_scheme 43 = .ok (.iload_n 3, 1) := by decide +kernel
theorem dX11_scheme_44 : decode cX11_scheme 44 = .ok (.ireturn, 1) := by decide +kernel
def wp_X11_scheme_13 (h : Nat)  (S : xm_S) (g : Int32 → xm_S → Prop) (Ex : String → xm_S → Prop) : Prop :=
  Ex xm_eA S
set_option maxRecDepth 100000 in
set_option maxHeartbeats 4000000 in
theorem kp_X11_scheme_13 {K : xm_K} (h : Nat)  (S : xm_S) {g : Int32 → xm_S → Prop} {Ex : String → xm_S → Prop} (C : xm_Cx K cX11_scheme RX11 4 (some (FieldType.int)) rm_X11_scheme) (N : xm_Nx K) (hg : ∀ v S, g v S → xm_q K (some (xm_i v)) S) (hEx : ∀ X S, Ex X S → xm_x K X S)  (h1 : wp_X11_scheme_13 h  S g Ex) : xm_W K 1 6 13 [] [] S := by
  unfold wp_X11_scheme_13 at h1
  exact x_throw (text := "no such scheme") C N th_A_in th_A_fit gw_327 gw_328 (by decide +kernel) th_A_at th_A_no th_A_ot (Nat.le_of_ble_eq_true rfl) ⟨Nat.le_of_ble_eq_true rfl, Nat.le_of_ble_eq_true rfl, (Nat.le_of_ble_eq_true rfl), (Nat.le_of_ble_eq_true rfl)⟩ dX11_scheme_13 dX11_scheme_16 (Or.inl ⟨dX11_scheme_17, dX11_scheme_19, dX11_scheme_22⟩) (hEx _ _ h1)
def wp_X11_scheme (h : Nat) (x1 : Int32) (x2 : Int32) (S : xm_S) (g : Int32 → xm_S → Prop) (Ex : String → xm_S → Prop) : Prop :=
  wp_X11_checkPack x1 S (fun S1 => (x2 < 0 → wp_X11_scheme_13 h S1 g Ex) ∧ (¬ x2 < 0 → (x2 ≤ (nI 2) → st_t S1 h = some (11, 0) ∧ ∃ n4, (st_r S1 h 1) = some n4 ∧ ∃ z7, st_t S1 n4 = some (115, z7) ∧ vp_in x1 z7 ∧ ∃ n9, (st_r S1 n4 (x1).toNatClampNeg) = some n9 ∧ st_t S1 n9 = some (5, 0) ∧ ∃ n12, (st_r S1 h 1) = some n12 ∧ ∃ z15, st_t S1 n12 = some (115, z15) ∧ vp_in x1 z15 ∧ ∃ n17, (st_r S1 n12 (x1).toNatClampNeg) = some n17 ∧ st_t S1 n17 = some (5, 0) ∧ ∀ S20, S20 = st_pi S1 n17 0 x2 → g (st_i S1 n9 0) S20) ∧ (¬ x2 ≤ (nI 2) → wp_X11_scheme_13 h S1 g Ex))) Ex
set_option maxRecDepth 100000 in
set_option maxHeartbeats 4000000 in
theorem kp_X11_scheme {K : xm_K} (h : Nat) (x1 : Int32) (x2 : Int32) (S : xm_S) {g : Int32 → xm_S → Prop} {Ex : String → xm_S → Prop} (C : xm_Cx K cX11_scheme RX11 4 (some (FieldType.int)) rm_X11_scheme) (N : xm_Nx K) (hg : ∀ v S, g v S → xm_q K (some (xm_i v)) S) (hEx : ∀ X S, Ex X S → xm_x K X S)  (h1 : wp_X11_scheme h x1 x2 S g Ex) : xm_W K 0 0 0 [(0, xm_r (some h)), (1, xm_i x1), (2, xm_i x2)] [] S := by
  unfold wp_X11_scheme at h1
  refine x_iload_n C 1 dX11_scheme_0 rfl rfl ?_
  refine x_callS (rm' := rm_X11_checkPack) C (kp_X11_checkPack_met h1) lk_50 gw_336 rfl (Nat.le_of_ble_eq_true rfl) ⟨Nat.le_of_ble_eq_true rfl, Nat.le_of_ble_eq_true rfl, (Nat.le_of_ble_eq_true rfl), (Nat.le_of_ble_eq_true rfl)⟩ dX11_scheme_1 (fun X9 S9 hx9 => x_thru C N (Nat.le_of_ble_eq_true rfl) (Nat.le_of_ble_eq_true rfl) (hEx _ _ hx9)) (xm_kv (fun S1 h1 => ?_))
  refine x_iload_n C 2 dX11_scheme_4 rfl rfl ?_
  refine x_if_lt (tgt := 13) C dX11_scheme_5 (by decide) (fun z9 => ?_) (fun z9 => ?_)
  · have h1 := h1.1 z9
    refine x_keep (L' := []) C [] rfl ?_
    exact kp_X11_scheme_13 h S1 C N hg hEx  h1
  · have h1 := h1.2 z9
    refine x_iload_n C 2 dX11_scheme_8 rfl rfl ?_
    refine x_iconst (v := (nI 2)) C dX11_scheme_9 (by decide) ?_
    refine x_icmp_le (tgt := 23) C dX11_scheme_10 (by decide) (fun z9 => ?_) (fun z9 => ?_)
    · have h1 := h1.1 z9
      refine x_aload_n C 0 dX11_scheme_23 rfl rfl ?_
      obtain ⟨ht3, h1⟩ := h1
      refine x_getf_r (n := h) C rfl ht3 fd_111 (by decide) dX11_scheme_24 ?_
      refine x_iload_n C 1 dX11_scheme_27 rfl rfl ?_
      obtain ⟨n4, hr5, h1⟩ := h1
      obtain ⟨z7, ht6, h1⟩ := h1
      obtain ⟨hi8, h1⟩ := h1
      refine x_aald (n := n4) C hr5 (by decide) rfl ht6 hi8 dX11_scheme_28 ?_
      obtain ⟨n9, hr10, h1⟩ := h1
      obtain ⟨ht11, h1⟩ := h1
      refine x_getf_i (n := n9) C hr10 ht11 fd_114 (by decide) dX11_scheme_29 ?_
      refine x_istore_n (L' := [(3, xm_i (st_i S1 n9 0)), (0, xm_r (some h)), (1, xm_i x1), (2, xm_i x2)]) C dX11_scheme_32 rfl (by decide) rfl ?_
      refine x_aload_n C 1 dX11_scheme_33 rfl rfl ?_
      refine x_getf_r (n := h) C rfl ht3 fd_111 (by decide) dX11_scheme_34 ?_
      refine x_iload_n C 2 dX11_scheme_37 rfl rfl ?_
      obtain ⟨n12, hr13, h1⟩ := h1
      obtain ⟨z15, ht14, h1⟩ := h1
      obtain ⟨hi16, h1⟩ := h1
      refine x_aald (n := n12) C hr13 (by decide) rfl ht14 hi16 dX11_scheme_38 ?_
      refine x_iload_n C 3 dX11_scheme_39 rfl rfl ?_
      obtain ⟨n17, hr18, h1⟩ := h1
      obtain ⟨ht19, h1⟩ := h1
      refine x_putf_i (n := n17) C hr18 ht19 fd_114 xc_5 (by decide) rfl ⟨rfl, rfl⟩ dX11_scheme_40 ?_
      refine x_topS (fun S20 e21 => ?_)
      have h1 := h1 S20 e21
      refine x_iload_n C 0 dX11_scheme_43 rfl rfl ?_
      exact x_iret C (Nat.le_of_ble_eq_true rfl) (Nat.le_of_ble_eq_true rfl) rfl dX11_scheme_44 (hg _ _ h1)
    · have h1 := h1.2 z9
      refine x_keep (L' := []) C [] rfl ?_
      exact kp_X11_scheme_13 h S1 C N hg hEx  h1
theorem kp_X11_scheme_met {h : Nat} {x1 : Int32} {x2 : Int32} {S : xm_S} {g : Int32 → xm_S → Prop} {Ex : String → xm_S → Prop}  (h1 : wp_X11_scheme h x1 x2 S g Ex) : xm_Met yX11_scheme cX11_scheme 4 (some (FieldType.int)) rm_X11_scheme [xm_r (some h), xm_i x1, xm_i x2] S (xm_qi g) Ex :=
  xm_ofW RX11 (by decide +kernel) rfl (Nat.le_of_ble_eq_true rfl) (fun K C N hq hx hi => kp_X11_scheme h x1 x2 S C N (fun v S h => by rw [hq]; exact ⟨v, rfl, h⟩) (fun X S h => by rw [hx]; exact h)  h1)
def rm_X11_shut : Room := { frames := 7, cells := 1, slots := 6, locals := 120 }
theorem dX11_shut_0 : decode cX11_shut 0 = .ok (.iload_n 1, 1) := by decide +kernel
theorem dX11_shut_1 : decode cX11_shut 1 = .ok (.invokestatic 262, 3) := by decide +kernel
theorem dX11_shut_4 : decode cX11_shut 4 = .ok (.aload_n 0, 1) := by decide +kernel
theorem dX11_shut_5 : decode cX11_shut 5 = .ok (.getfield 75, 3) := by decide +kernel
theorem dX11_shut_8 : decode cX11_shut 8 = .ok (.iload_n 1, 1) := by decide +kernel
theorem dX11_shut_9 : decode cX11_shut 9 = .ok (.baload, 1) := by decide +kernel
theorem dX11_shut_10 : decode cX11_shut 10 = .ok (.istore_n 3, 1) := by decide +kernel
theorem dX11_shut_11 : decode cX11_shut 11 = .ok (.aload_n 0, 1) := by decide +kernel
theorem dX11_shut_12 : decode cX11_shut 12 = .ok (.getfield 75, 3) := by decide +kernel
theorem dX11_shut_15 : decode cX11_shut 15 = .ok (.iload_n 1, 1) := by decide +kernel
theorem dX11_shut_16 : decode cX11_shut 16 = .ok (.iload_n 2, 1) := by decide +kernel
theorem dX11_shut_17 : decode cX11_shut 17 = .ok (.bastore, 1) := by decide +kernel
theorem dX11_shut_18 : decode cX11_shut 18 = .ok (.iload_n 3, 1) := by decide +kernel
theorem dX11_shut_19 : decode cX11_shut 19 = .ok (.ireturn, 1) := by decide +kernel
def wp_X11_shut (h : Nat) (x1 : Int32) (x2 : Int32) (S : xm_S) (g : Int32 → xm_S → Prop) (Ex : String → xm_S → Prop) : Prop :=
  wp_X11_checkMirror x1 S (fun S1 => st_t S1 h = some (11, 0) ∧ ∃ n4, (st_r S1 h 15) = some n4 ∧ ∃ z7, st_t S1 n4 = some (101, z7) ∧ vp_in x1 z7 ∧ ∀ y9, y9 = (st_i S1 n4 (x1).toNatClampNeg) → ∃ n11, (st_r S1 h 15) = some n11 ∧ ∃ z14, st_t S1 n11 = some (101, z14) ∧ vp_in x1 z14 ∧ (x2 = 0 ∨ x2 = 1) ∧ ∀ S17, S17 = st_pi S1 n11 (x1).toNatClampNeg x2 → (y9 = 0 ∨ y9 = 1) ∧ g y9 S17) Ex
set_option maxRecDepth 100000 in
set_option maxHeartbeats 4000000 in
theorem kp_X11_shut {K : xm_K} (h : Nat) (x1 : Int32) (x2 : Int32) (S : xm_S) {g : Int32 → xm_S → Prop} {Ex : String → xm_S → Prop} (C : xm_Cx K cX11_shut RX11 4 (some (FieldType.boolean)) rm_X11_shut) (N : xm_Nx K) (hg : ∀ v S, g v S → xm_q K (some (xm_i v)) S) (hEx : ∀ X S, Ex X S → xm_x K X S)  (h1 : wp_X11_shut h x1 x2 S g Ex) : xm_W K 0 0 0 [(0, xm_r (some h)), (1, xm_i x1), (2, xm_i x2)] [] S := by
  unfold wp_X11_shut at h1
  refine x_iload_n C 1 dX11_shut_0 rfl rfl ?_
  refine x_callS (rm' := rm_X11_checkMirror) C (kp_X11_checkMirror_met h1) lk_79 gw_489 rfl (Nat.le_of_ble_eq_true rfl) ⟨Nat.le_of_ble_eq_true rfl, Nat.le_of_ble_eq_true rfl, (Nat.le_of_ble_eq_true rfl), (Nat.le_of_ble_eq_true rfl)⟩ dX11_shut_1 (fun X9 S9 hx9 => x_thru C N (Nat.le_of_ble_eq_true rfl) (Nat.le_of_ble_eq_true rfl) (hEx _ _ hx9)) (xm_kv (fun S1 h1 => ?_))
  refine x_aload_n C 0 dX11_shut_4 rfl rfl ?_
  obtain ⟨ht3, h1⟩ := h1
  refine x_getf_r (n := h) C rfl ht3 fd_130 (by decide) dX11_shut_5 ?_
  refine x_iload_n C 1 dX11_shut_8 rfl rfl ?_
  obtain ⟨n4, hr5, h1⟩ := h1
  obtain ⟨z7, ht6, h1⟩ := h1
  obtain ⟨hi8, h1⟩ := h1
  refine x_zald (n := n4) C hr5 ht6 hi8 dX11_shut_9 ?_
  refine x_topi (fun y9 e10 => ?_)
  have h1 := h1 y9 e10
  refine x_istore_n (L' := [(3, xm_i y9), (0, xm_r (some h)), (1, xm_i x1), (2, xm_i x2)]) C dX11_shut_10 rfl (by decide) rfl ?_
  refine x_aload_n C 1 dX11_shut_11 rfl rfl ?_
  refine x_getf_r (n := h) C rfl ht3 fd_130 (by decide) dX11_shut_12 ?_
  refine x_iload_n C 2 dX11_shut_15 rfl rfl ?_
  refine x_iload_n C 3 dX11_shut_16 rfl rfl ?_
  obtain ⟨n11, hr12, h1⟩ := h1
  obtain ⟨z14, ht13, h1⟩ := h1
  obtain ⟨hi15, h1⟩ := h1
  obtain ⟨hz16, h1⟩ := h1
  refine x_zast (n := n11) C hr12 ht13 hi15 hz16 dX11_shut_17 ?_
  refine x_topS (fun S17 e18 => ?_)
  have h1 := h1 S17 e18
  refine x_iload_n C 0 dX11_shut_18 rfl rfl ?_
  exact x_zret C (Nat.le_of_ble_eq_true rfl) (Nat.le_of_ble_eq_true rfl) rfl h1.1 dX11_shut_19 (hg _ _ h1.2)
theorem kp_X11_shut_met {h : Nat} {x1 : Int32} {x2 : Int32} {S : xm_S} {g : Int32 → xm_S → Prop} {Ex : String → xm_S → Prop}  (h1 : wp_X11_shut h x1 x2 S g Ex) : xm_Met yX11_shut cX11_shut 4 (some (FieldType.boolean)) rm_X11_shut [xm_r (some h), xm_i x1, xm_i x2] S (xm_qi g) Ex :=
  xm_ofW RX11 (by decide +kernel) rfl (Nat.le_of_ble_eq_true rfl) (fun K C N hq hx hi => kp_X11_shut h x1 x2 S C N (fun v S h => by rw [hq]; exact ⟨v, rfl, h⟩) (fun X S h => by rw [hx]; exact h)  h1)
def rm_X11_signAt : Room := { frames := 1, cells := 0, slots := 0, locals := 20 }
theorem dX11_signAt_0 : decode cX11_signAt 0 = .ok (.lload_n 0, 1) := by decide +kernel
theorem dX11_signAt_1 : decode cX11_signAt 1 = .ok (.bipush 8, 2) := by decide +kernel
theorem dX11_signAt_3 : decode cX11_signAt 3 = .ok (.iload_n 2, 1) := by decide +kernel
theorem dX11_signAt_4 : decode cX11_signAt 4 = .ok (.imul, 1) := by decide +kernel
theorem dX11_signAt_5 : decode cX11_signAt 5 = .ok (.lushr, 1) := by decide +kernel
theorem dX11_signAt_6 : decode cX11_signAt 6 = .ok (.ldc2_w 347, 3) := by decide +kernel
theorem dX11_signAt_9 : decode cX11_signAt 9 = .ok (.land, 1) := by decide +kernel
theorem dX11_signAt_10 : decode cX11_signAt 10 = .ok (.l2i, 1) := by decide +kernel
theorem dX11_signAt_11 : decode cX11_signAt 11 = .ok (.ireturn, 1) := by decide +kernel
def wp_X11_signAt (x0 : Int64) (x2 : Int32) (S : xm_S) (g : Int32 → xm_S → Prop) : Prop :=
  g (((((x0.toUInt64 >>> (((nI 8) * x2).toInt64.toUInt64 &&& Int64.toUInt64 63)).toInt64) &&& (255 : Int64))).toInt32) S
set_option maxRecDepth 100000 in
set_option maxHeartbeats 4000000 in
theorem kp_X11_signAt {K : xm_K} (x0 : Int64) (x2 : Int32) (S : xm_S) {g : Int32 → xm_S → Prop} (C : xm_Cx K cX11_signAt RX11 3 (some (FieldType.int)) rm_X11_signAt) (N : xm_Nx K) (hg : ∀ v S, g v S → xm_q K (some (xm_i v)) S)  (h1 : wp_X11_signAt x0 x2 S g) : xm_W K 0 0 0 [(0, xm_l x0), (2, xm_i x2)] [] S := by
  unfold wp_X11_signAt at h1
  refine x_lload_n C 0 dX11_signAt_0 rfl rfl ?_
  refine x_bipush (v := (nI 8)) C dX11_signAt_1 (by decide) ?_
  refine x_iload_n C 1 dX11_signAt_3 rfl rfl ?_
  refine x_imul C dX11_signAt_4 ?_
  refine x_lushr C dX11_signAt_5 ?_
  refine x_ldc2 (v := (255 : Int64)) C gw_513 dX11_signAt_6 ?_
  refine x_land C dX11_signAt_9 ?_
  refine x_l2i C dX11_signAt_10 ?_
  exact x_iret C (Nat.le_of_ble_eq_true rfl) (Nat.le_of_ble_eq_true rfl) rfl dX11_signAt_11 (hg _ _ h1)
theorem kp_X11_signAt_met {x0 : Int64} {x2 : Int32} {S : xm_S} {g : Int32 → xm_S → Prop}  (h1 : wp_X11_signAt x0 x2 S g) : xm_Met yX11_signAt cX11_signAt 3 (some (FieldType.int)) rm_X11_signAt [xm_l x0, xm_i x2] S (xm_qi g) xm_nox :=
  xm_ofW RX11 (by decide +kernel) rfl (Nat.le_of_ble_eq_true rfl) (fun K C N hq hx hi => kp_X11_signAt x0 x2 S C N (fun v S h => by rw [hq]; exact ⟨v, rfl, h⟩)  h1)
def rm_X11_solve : Room := { frames := 38, cells := 2, slots := 12, locals := 2150 }
theorem dX11_solve_0 : decode cX11_solve 0 = .ok (.iload_n 1, 1) := by decide +kernel
theorem dX11_solve_1 : decode cX11_solve 1 = .ok (.invokestatic 212, 3) := by decide +kernel
theorem dX11_solve_4 : decode cX11_solve 4 = .ok (.iload_n 2, 1) := by decide +kernel
theorem dX11_solve_5 : decode cX11_solve 5 = .ok (.iconst (-1), 1) := by decide +kernel
theorem dX11_solve_6 : decode cX11_solve 6 = .ok (.if_icmp .eq 7, 3) := by decide +kernel
theorem dX11_solve_9 : decode cX11_solve 9 = .ok (.iload_n 2, 1) := by decide +kernel
theorem dX11_solve_10 : decode cX11_solve 10 = .ok (.invokestatic 122, 3) := by decide +kernel
theorem dX11_solve_13 : decode cX11_solve 13 = .ok (.aload_n 0, 1) := by decide +kernel
theorem dX11_solve_14 : decode cX11_solve 14 = .ok (.iload_n 1, 1) := by decide +kernel
theorem dX11_solve_15 : decode cX11_solve 15 = .ok (.iload_n 2, 1) := by decide +kernel
theorem dX11_solve_16 : decode cX11_solve 16 = .ok (.iconst (-1), 1) := by decide +kernel
theorem dX11_solve_17 : decode cX11_solve 17 = .ok (.if_icmp .ne 7, 3) := by decide +kernel
theorem dX11_solve_20 : decode cX11_solve 20 = .ok (.iconst 0, 1) := by decide +kernel
theorem dX11_solve_21 : decode cX11_solve 21 = .ok (.goto 6, 3) := by decide +kernel
theorem dX11_solve_24 : decode cX11_solve 24 = .ok (.iconst 1, 1) := by decide +kernel
theorem dX11_solve_25 : decode cX11_solve 25 = .ok (.iload_n 2, 1) := by decide +kernel
theorem dX11_solve_26 : decode cX11_solve 26 = .ok (.ishl, 1) := by decide +kernel
theorem dX11_solve_27 : decode cX11_solve 27 = .ok (.invokevirtual 215, 3) := by decide +kernel
theorem dX11_solve_30 : decode cX11_solve 30 = .ok (.aload_n 0, 1) := by decide +kernel
theorem dX11_solve_31 : decode cX11_solve 31 = .ok (.getfield 52, 3) := by decide +kernel
theorem dX11_solve_34 : decode cX11_solve 34 = .ok (.iload_n 1, 1) := by decide +kernel
theorem dX11_solve_35 : decode cX11_solve 35 = .ok (.aload_n 0, 1) := by decide +kernel
theorem dX11_solve_36 : decode cX11_solve 36 = .ok (.getfield 59, 3) := by decide +kernel
theorem dX11_solve_39 : decode cX11_solve 39 = .ok (.aload_n 0, 1) := by decide +kernel
theorem dX11_solve_40 : decode cX11_solve 40 = .ok (.invokevirtual 218, 3) := by decide +kernel
theorem dX11_solve_43 : decode cX11_solve 43 = .ok (.iconst 2, 1) := by decide +kernel
theorem dX11_solve_44 : decode cX11_solve 44 = .ok (.invokevirtual 221, 3) := by decide +kernel
theorem dX11_solve_47 : decode cX11_solve 47 = .ok (.ifCond .le 7, 3) := by decide +kernel
theorem dX11_solve_50 : decode cX11_solve 50 = .ok (.iconst 1, 1) := by decide +kernel
theorem dX11_solve_51 : decode cX11_solve 51 = .ok (.goto 4, 3) := by decide +kernel
theorem dX11_solve_54 : decode cX11_solve 54 = .ok (.iconst 0, 1) := by decide +kernel
theorem dX11_solve_55 : decode cX11_solve 55 = .ok (.bastore, 1) := by decide +kernel
theorem dX11_solve_56 : decode cX11_solve 56 = .ok (.iconst 0, 1) := by decide +kernel
theorem dX11_solve_57 : decode cX11_solve 57 = .ok (.istore_n 3, 1) := by decide +kernel
theorem dX11_solve_58 : decode cX11_solve 58 = .ok (.iload_n 3, 1) := by decide +kernel
theorem dX11_solve_59 : decode cX11_solve 59 = .ok (.bipush 6, 2) := by decide +kernel
theorem dX11_solve_61 : decode cX11_solve 61 = .ok (.if_icmp .ge 39, 3) := by decide +kernel
theorem dX11_solve_64 : decode cX11_solve 64 = .ok (.aload_n 0, 1) := by decide +kernel
theorem dX11_solve_65 : decode cX11_solve 65 = .ok (.getfield 49, 3) := by decide +kernel
theorem dX11_solve_68 : decode cX11_solve 68 = .ok (.iload_n 1, 1) := by decide +kernel
theorem dX11_solve_69 : decode cX11_solve 69 = .ok (.aaload, 1) := by decide +kernel
theorem dX11_solve_70 : decode cX11_solve 70 = .ok (.iload_n 3, 1) := by decide +kernel
theorem dX11_solve_71 : decode cX11_solve 71 = .ok (.aload_n 0, 1) := by decide +kernel
theorem dX11_solve_72 : decode cX11_solve 72 = .ok (.getfield 52, 3) := by decide +kernel
theorem dX11_solve_75 : decode cX11_solve 75 = .ok (.iload_n 1, 1) := by decide +kernel
theorem dX11_solve_76 : decode cX11_solve 76 = .ok (.baload, 1) := by decide +kernel
theorem dX11_solve_77 : decode cX11_solve 77 = .ok (.ifCond .eq 15, 3) := by decide +kernel
theorem dX11_solve_80 : decode cX11_solve 80 = .ok (.aload_n 0, 1) := by decide +kernel
theorem dX11_solve_81 : decode cX11_solve 81 = .ok (.getfield 59, 3) := by decide +kernel
theorem dX11_solve_84 : decode cX11_solve 84 = .ok (.getfield 224, 3) := by decide +kernel
theorem dX11_solve_87 : decode cX11_solve 87 = .ok (.iload_n 3, 1) := by decide +kernel
theorem dX11_solve_88 : decode cX11_solve 88 = .ok (.iaload, 1) := by decide +kernel
theorem dX11_solve_89 : decode cX11_solve 89 = .ok (.goto 4, 3) := by decide +kernel
theorem dX11_solve_92 : decode cX11_solve 92 = .ok (.iconst (-1), 1) := by decide +kernel
theorem dX11_solve_93 : decode cX11_solve 93 = .ok (.iastore, 1) := by decide +kernel
theorem dX11_solve_94 : decode cX11_solve 94 = .ok (.iinc 3 1, 3) := by decide +kernel
theorem dX11_solve_97 : decode cX11_solve 97 = .ok (.goto (-39), 3) := by decide +kernel
theorem dX11_solve_100 : decode cX11_solve 100 = .ok (.aload_n 0, 1) := by decide +kernel
theorem dX11_solve_101 : decode cX11_solve 101 = .ok (.getfield 52, 3) := by decide +kernel
theorem dX11_solve_104 : decode cX11_solve 104 = .ok (.iload_n 1, 1) := by decide +kernel
theorem dX11_solve_105 : decode cX11_solve 105 = .ok (.baload, 1) := by decide +kernel
theorem dX11_solve_106 : decode cX11_solve 106 = .ok (.ifCond .eq 13, 3) := by decide +kernel
theorem dX11_solve_109 : decode cX11_solve 109 = .ok (.aload_n 0, 1) := by decide +kernel
theorem dX11_solve_110 : decode cX11_solve 110 = .ok (.getfield 59, 3) := by decide +kernel
theorem dX11_solve_113 : decode cX11_solve 113 = .ok (.getfield 227, 3) := by decide +kernel
theorem dX11_solve_116 : decode cX11_solve 116 = .ok (.goto 4, 3) := by decide +kernel
theorem dX11_solve_119 : decode cX11_solve 119 = .ok (.iconst (-1), 1) := by decide +kernel
theorem dX11_solve_120 : decode cX11_solve 120 = .ok (.ireturn, 1) := by decide +kernel
def wp_X11_solve_93 (h : Nat) (x1 : Int32) (x3 : Int32) (s0 : Int32) (s1 : Int32) (s2 : Option Nat) (S : xm_S) (g : Int32 → xm_S → Prop) (Ex : String → xm_S → Prop) (Z58 : Int32 → Int32 → xm_S → Prop) : Prop :=
  ∃ n1, s2 = some n1 ∧ ∃ z4, st_t S n1 = some (100, z4) ∧ vp_in s1 z4 ∧ ∀ S6, S6 = st_pi S n1 (s1).toNatClampNeg s0 → ∀ y8, y8 = (x3 + (1 : Int32)) → Z58 x1 y8 S6
set_option maxRecDepth 100000 in
set_option maxHeartbeats 4000000 in
theorem kp_X11_solve_93 {K : xm_K} (h : Nat) (x1 : Int32) (x3 : Int32) (s0 : Int32) (s1 : Int32) (s2 : Option Nat) (S : xm_S) {g : Int32 → xm_S → Prop} {Ex : String → xm_S → Prop} {Z58 : Int32 → Int32 → xm_S → Prop} (C : xm_Cx K cX11_solve RX11 4 (some (FieldType.int)) rm_X11_solve) (N : xm_Nx K) (hg : ∀ v S, g v S → xm_q K (some (xm_i v)) S) (hEx : ∀ X S, Ex X S → xm_x K X S) (hZ58 : ∀ x1 x3 S, Z58 x1 x3 S → xm_W K 2 12 58 [(0, xm_r (some h)), (1, xm_i x1), (3, xm_i x3)] [] S) (h1 : wp_X11_solve_93 h x1 x3 s0 s1 s2 S g Ex Z58) : xm_W K 2 12 93 [(0, xm_r (some h)), (1, xm_i x1), (3, xm_i x3)] [xm_i s0, xm_i s1, xm_r s2] S := by
  unfold wp_X11_solve_93 at h1
  obtain ⟨n1, hr2, h1⟩ := h1
  obtain ⟨z4, ht3, h1⟩ := h1
  obtain ⟨hi5, h1⟩ := h1
  refine x_iast (n := n1) C hr2 ht3 hi5 dX11_solve_93 ?_
  refine x_topS (fun S6 e7 => ?_)
  have h1 := h1 S6 e7
  obtain ⟨y8, e9⟩ : ∃ y8, y8 = (x3 + (1 : Int32)) := ⟨_, rfl⟩
  have h1 := h1 y8 e9
  refine x_iinc (v := y8) (L' := [(3, xm_i y8), (0, xm_r (some h)), (1, xm_i x1)]) C 2 dX11_solve_94 rfl (by rw [e9]; rfl) (by decide) rfl ?_
  refine x_goto (tgt := 58) C dX11_solve_97 (by decide) ?_
  refine x_keep (L' := [(0, xm_r (some h)), (1, xm_i x1), (3, xm_i y8)]) C [1, 2, 0] rfl ?_
  exact hZ58 x1 y8 S6 h1
def wp_X11_solve_120 (h : Nat) (s0 : Int32) (S : xm_S) (g : Int32 → xm_S → Prop) (Ex : String → xm_S → Prop) : Prop :=
  g s0 S
set_option maxRecDepth 100000 in
set_option maxHeartbeats 4000000 in
theorem kp_X11_solve_120 {K : xm_K} (h : Nat) (s0 : Int32) (S : xm_S) {g : Int32 → xm_S → Prop} {Ex : String → xm_S → Prop} (C : xm_Cx K cX11_solve RX11 4 (some (FieldType.int)) rm_X11_solve) (N : xm_Nx K) (hg : ∀ v S, g v S → xm_q K (some (xm_i v)) S) (hEx : ∀ X S, Ex X S → xm_x K X S)  (h1 : wp_X11_solve_120 h s0 S g Ex) : xm_W K 2 12 120 [] [xm_i s0] S := by
  unfold wp_X11_solve_120 at h1
  exact x_iret C (Nat.le_of_ble_eq_true rfl) (Nat.le_of_ble_eq_true rfl) rfl dX11_solve_120 (hg _ _ h1)
def wp_X11_solve_58B (h : Nat) (x1 : Int32) (x3 : Int32) (S : xm_S) (g : Int32 → xm_S → Prop) (Ex : String → xm_S → Prop) (Z58 : Int32 → Int32 → xm_S → Prop) : Prop :=
  ((nI 6) ≤ x3 → st_t S h = some (11, 0) ∧ ∃ n11, (st_r S h 9) = some n11 ∧ ∃ z14, st_t S n11 = some (101, z14) ∧ vp_in x1 z14 ∧ ((st_i S n11 (x1).toNatClampNeg) = 0 → wp_X11_solve_120 h (-1 : Int32) S g Ex) ∧ (¬ (st_i S n11 (x1).toNatClampNeg) = 0 → ∃ n16, (st_r S h 10) = some n16 ∧ st_t S n16 = some (7, 0) ∧ wp_X11_solve_120 h (st_i S n16 16) S g Ex)) ∧ (¬ (nI 6) ≤ x3 → st_t S h = some (11, 0) ∧ ∃ n20, (st_r S h 8) = some n20 ∧ ∃ z23, st_t S n20 = some (104, z23) ∧ vp_in x1 z23 ∧ ∃ n25, (st_r S h 9) = some n25 ∧ ∃ z28, st_t S n25 = some (101, z28) ∧ vp_in x1 z28 ∧ ((st_i S n25 (x1).toNatClampNeg) = 0 → wp_X11_solve_93 h x1 x3 (-1 : Int32) x3 (st_r S n20 (x1).toNatClampNeg) S g Ex Z58) ∧ (¬ (st_i S n25 (x1).toNatClampNeg) = 0 → ∃ n30, (st_r S h 10) = some n30 ∧ st_t S n30 = some (7, 0) ∧ ∃ n33, (st_r S n30 15) = some n33 ∧ ∃ z36, st_t S n33 = some (100, z36) ∧ vp_in x3 z36 ∧ wp_X11_solve_93 h x1 x3 (st_i S n33 (x3).toNatClampNeg) x3 (st_r S n20 (x1).toNatClampNeg) S g Ex Z58))
def wp_X11_solve_58 (h : Nat) (x1 : Int32) (x3 : Int32) (S : xm_S) (g : Int32 → xm_S → Prop) (Ex : String → xm_S → Prop) : Prop :=
  ∀ Z58 : Int32 → Int32 → xm_S → Prop, (∀ x1 x3 S, wp_X11_solve_58B h x1 x3 S g Ex Z58 → Z58 x1 x3 S) → Z58 x1 x3 S
set_option maxRecDepth 100000 in
set_option maxHeartbeats 4000000 in
theorem kp_X11_solve_58B {K : xm_K} (h : Nat) (x1 : Int32) (x3 : Int32) (S : xm_S) {g : Int32 → xm_S → Prop} {Ex : String → xm_S → Prop} {Z58 : Int32 → Int32 → xm_S → Prop} (C : xm_Cx K cX11_solve RX11 4 (some (FieldType.int)) rm_X11_solve) (N : xm_Nx K) (hg : ∀ v S, g v S → xm_q K (some (xm_i v)) S) (hEx : ∀ X S, Ex X S → xm_x K X S) (hZ58 : ∀ x1 x3 S, Z58 x1 x3 S → xm_W K 2 12 58 [(0, xm_r (some h)), (1, xm_i x1), (3, xm_i x3)] [] S) (h1 : wp_X11_solve_58B h x1 x3 S g Ex Z58) : xm_W K 2 12 58 [(0, xm_r (some h)), (1, xm_i x1), (3, xm_i x3)] [] S := by
  unfold wp_X11_solve_58B at h1
  refine x_iload_n C 2 dX11_solve_58 rfl rfl ?_
  refine x_bipush (v := (nI 6)) C dX11_solve_59 (by decide) ?_
  refine x_icmp_ge (tgt := 100) C dX11_solve_61 (by decide) (fun z9 => ?_) (fun z9 => ?_)
  · have h1 := h1.1 z9
    refine x_aload_n C 0 dX11_solve_100 rfl rfl ?_
    obtain ⟨ht10, h1⟩ := h1
    refine x_getf_r (n := h) C rfl ht10 fd_142 (by decide) dX11_solve_101 ?_
    refine x_iload_n C 1 dX11_solve_104 rfl rfl ?_
    obtain ⟨n11, hr12, h1⟩ := h1
    obtain ⟨z14, ht13, h1⟩ := h1
    obtain ⟨hi15, h1⟩ := h1
    refine x_zald (n := n11) C hr12 ht13 hi15 dX11_solve_105 ?_
    refine x_if_eq (tgt := 119) C dX11_solve_106 (by decide) (fun z9 => ?_) (fun z9 => ?_)
    · have h1 := h1.1 z9
      refine x_iconst (v := (-1 : Int32)) C dX11_solve_119 (by decide) ?_
      refine x_keep (L' := []) C [] rfl ?_
      exact kp_X11_solve_120 h (-1 : Int32) S C N hg hEx  h1
    · have h1 := h1.2 z9
      refine x_aload_n C 0 dX11_solve_109 rfl rfl ?_
      refine x_getf_r (n := h) C rfl ht10 fd_123 (by decide) dX11_solve_110 ?_
      obtain ⟨n16, hr17, h1⟩ := h1
      obtain ⟨ht18, h1⟩ := h1
      refine x_getf_i (n := n16) C hr17 ht18 fd_153 (by decide) dX11_solve_113 ?_
      refine x_goto (tgt := 120) C dX11_solve_116 (by decide) ?_
      refine x_keep (L' := []) C [] rfl ?_
      exact kp_X11_solve_120 h (st_i S n16 16) S C N hg hEx  h1
  · have h1 := h1.2 z9
    refine x_aload_n C 0 dX11_solve_64 rfl rfl ?_
    obtain ⟨ht19, h1⟩ := h1
    refine x_getf_r (n := h) C rfl ht19 fd_141 (by decide) dX11_solve_65 ?_
    refine x_iload_n C 1 dX11_solve_68 rfl rfl ?_
    obtain ⟨n20, hr21, h1⟩ := h1
    obtain ⟨z23, ht22, h1⟩ := h1
    obtain ⟨hi24, h1⟩ := h1
    refine x_aald (n := n20) C hr21 (by decide) rfl ht22 hi24 dX11_solve_69 ?_
    refine x_iload_n C 2 dX11_solve_70 rfl rfl ?_
    refine x_aload_n C 0 dX11_solve_71 rfl rfl ?_
    refine x_getf_r (n := h) C rfl ht19 fd_142 (by decide) dX11_solve_72 ?_
    refine x_iload_n C 1 dX11_solve_75 rfl rfl ?_
    obtain ⟨n25, hr26, h1⟩ := h1
    obtain ⟨z28, ht27, h1⟩ := h1
    obtain ⟨hi29, h1⟩ := h1
    refine x_zald (n := n25) C hr26 ht27 hi29 dX11_solve_76 ?_
    refine x_if_eq (tgt := 92) C dX11_solve_77 (by decide) (fun z9 => ?_) (fun z9 => ?_)
    · have h1 := h1.1 z9
      refine x_iconst (v := (-1 : Int32)) C dX11_solve_92 (by decide) ?_
      exact kp_X11_solve_93 h x1 x3 (-1 : Int32) x3 (st_r S n20 (x1).toNatClampNeg) S C N hg hEx hZ58 h1
    · have h1 := h1.2 z9
      refine x_aload_n C 0 dX11_solve_80 rfl rfl ?_
      refine x_getf_r (n := h) C rfl ht19 fd_123 (by decide) dX11_solve_81 ?_
      obtain ⟨n30, hr31, h1⟩ := h1
      obtain ⟨ht32, h1⟩ := h1
      refine x_getf_r (n := n30) C hr31 ht32 fd_154 (by decide) dX11_solve_84 ?_
      refine x_iload_n C 2 dX11_solve_87 rfl rfl ?_
      obtain ⟨n33, hr34, h1⟩ := h1
      obtain ⟨z36, ht35, h1⟩ := h1
      obtain ⟨hi37, h1⟩ := h1
      refine x_iald (n := n33) C hr34 ht35 hi37 dX11_solve_88 ?_
      refine x_goto (tgt := 93) C dX11_solve_89 (by decide) ?_
      exact kp_X11_solve_93 h x1 x3 (st_i S n33 (x3).toNatClampNeg) x3 (st_r S n20 (x1).toNatClampNeg) S C N hg hEx hZ58 h1
theorem kp_X11_solve_58 {K : xm_K} (h : Nat) (x1 : Int32) (x3 : Int32) (S : xm_S) {g : Int32 → xm_S → Prop} {Ex : String → xm_S → Prop} (C : xm_Cx K cX11_solve RX11 4 (some (FieldType.int)) rm_X11_solve) (N : xm_Nx K) (hg : ∀ v S, g v S → xm_q K (some (xm_i v)) S) (hEx : ∀ X S, Ex X S → xm_x K X S)  (h1 : wp_X11_solve_58 h x1 x3 S g Ex) : xm_W K 2 12 58 [(0, xm_r (some h)), (1, xm_i x1), (3, xm_i x3)] [] S :=
  h1 (fun x1 x3 S => xm_W K 2 12 58 [(0, xm_r (some h)), (1, xm_i x1), (3, xm_i x3)] [] S) (fun x1 x3 S hb => kp_X11_solve_58B h x1 x3 S C N hg hEx (fun x1 x3 S hz => hz) hb)
def wp_X11_solve_55 (h : Nat) (x1 : Int32) (s0 : Int32) (s1 : Int32) (s2 : Option Nat) (S : xm_S) (g : Int32 → xm_S → Prop) (Ex : String → xm_S → Prop) : Prop :=
  ∃ n38, s2 = some n38 ∧ ∃ z41, st_t S n38 = some (101, z41) ∧ vp_in s1 z41 ∧ (s0 = 0 ∨ s0 = 1) ∧ ∀ S44, S44 = st_pi S n38 (s1).toNatClampNeg s0 → wp_X11_solve_58 h x1 (0 : Int32) S44 g Ex
set_option maxRecDepth 100000 in
set_option maxHeartbeats 4000000 in
theorem kp_X11_solve_55 {K : xm_K} (h : Nat) (x1 : Int32) (s0 : Int32) (s1 : Int32) (s2 : Option Nat) (S : xm_S) {g : Int32 → xm_S → Prop} {Ex : String → xm_S → Prop} (C : xm_Cx K cX11_solve RX11 4 (some (FieldType.int)) rm_X11_solve) (N : xm_Nx K) (hg : ∀ v S, g v S → xm_q K (some (xm_i v)) S) (hEx : ∀ X S, Ex X S → xm_x K X S)  (h1 : wp_X11_solve_55 h x1 s0 s1 s2 S g Ex) : xm_W K 2 12 55 [(0, xm_r (some h)), (1, xm_i x1)] [xm_i s0, xm_i s1, xm_r s2] S := by
  unfold wp_X11_solve_55 at h1
  obtain ⟨n38, hr39, h1⟩ := h1
  obtain ⟨z41, ht40, h1⟩ := h1
  obtain ⟨hi42, h1⟩ := h1
  obtain ⟨hz43, h1⟩ := h1
  refine x_zast (n := n38) C hr39 ht40 hi42 hz43 dX11_solve_55 ?_
  refine x_topS (fun S44 e45 => ?_)
  have h1 := h1 S44 e45
  refine x_iconst (v := (0 : Int32)) C dX11_solve_56 (by decide) ?_
  refine x_istore_n (L' := [(3, xm_i (0 : Int32)), (0, xm_r (some h)), (1, xm_i x1)]) C dX11_solve_57 rfl (by decide) rfl ?_
  refine x_keep (L' := [(0, xm_r (some h)), (1, xm_i x1), (3, xm_i (0 : Int32))]) C [1, 2, 0] rfl ?_
  exact kp_X11_solve_58 h x1 (0 : Int32) S44 C N hg hEx  h1
def wp_X11_solve_27 (h : Nat) (x1 : Int32) (s0 : Int32) (s1 : Int32) (s2 : Option Nat) (S : xm_S) (g : Int32 → xm_S → Prop) (Ex : String → xm_S → Prop) : Prop :=
  ∃ n46, s2 = some n46 ∧ st_t S n46 = some (11, 0) ∧ wp_X11_prepareSolver n46 s1 s0 S (fun S49 => st_t S49 h = some (11, 0) ∧ wp_X11_allWishes h S49 (fun r53 S52 => ∃ n54, (st_r S49 h 10) = some n54 ∧ st_t S52 n54 = some (7, 0) ∧ wp_X7_seek n54 r53 (nI 2) S52 (fun r58 S57 => (r58 ≤ 0 → wp_X11_solve_55 h x1 (0 : Int32) x1 (st_r S49 h 9) S57 g Ex) ∧ (¬ r58 ≤ 0 → wp_X11_solve_55 h x1 (1 : Int32) x1 (st_r S49 h 9) S57 g Ex))))
set_option maxRecDepth 100000 in
set_option maxHeartbeats 4000000 in
theorem kp_X11_solve_27 {K : xm_K} (h : Nat) (x1 : Int32) (s0 : Int32) (s1 : Int32) (s2 : Option Nat) (S : xm_S) {g : Int32 → xm_S → Prop} {Ex : String → xm_S → Prop} (C : xm_Cx K cX11_solve RX11 4 (some (FieldType.int)) rm_X11_solve) (N : xm_Nx K) (hg : ∀ v S, g v S → xm_q K (some (xm_i v)) S) (hEx : ∀ X S, Ex X S → xm_x K X S)  (h1 : wp_X11_solve_27 h x1 s0 s1 s2 S g Ex) : xm_W K 2 12 27 [(0, xm_r (some h)), (1, xm_i x1)] [xm_i s0, xm_i s1, xm_r s2] S := by
  unfold wp_X11_solve_27 at h1
  obtain ⟨n46, hr47, h1⟩ := h1
  obtain ⟨ht48, h1⟩ := h1
  refine x_callV (rm' := rm_X11_prepareSolver) (n := n46) C (kp_X11_prepareSolver_met h1) lk_61 gw_391 gw_392 xv_11 rfl hr47 ht48 rfl (Nat.le_of_ble_eq_true rfl) ⟨Nat.le_of_ble_eq_true rfl, Nat.le_of_ble_eq_true rfl, (Nat.le_of_ble_eq_true rfl), (Nat.le_of_ble_eq_true rfl)⟩ dX11_solve_27 xm_kx (xm_kv (fun S49 h1 => ?_))
  refine x_aload_n C 0 dX11_solve_30 rfl rfl ?_
  obtain ⟨ht51, h1⟩ := h1
  refine x_getf_r (n := h) C rfl ht51 fd_142 (by decide) dX11_solve_31 ?_
  refine x_iload_n C 1 dX11_solve_34 rfl rfl ?_
  refine x_aload_n C 0 dX11_solve_35 rfl rfl ?_
  refine x_getf_r (n := h) C rfl ht51 fd_123 (by decide) dX11_solve_36 ?_
  refine x_aload_n C 0 dX11_solve_39 rfl rfl ?_
  refine x_callV (rm' := rm_X11_allWishes) (n := h) C (kp_X11_allWishes_met h1) lk_62 gw_395 gw_396 xv_11 rfl rfl ht51 rfl (Nat.le_of_ble_eq_true rfl) ⟨Nat.le_of_ble_eq_true rfl, Nat.le_of_ble_eq_true rfl, (Nat.le_of_ble_eq_true rfl), (Nat.le_of_ble_eq_true rfl)⟩ dX11_solve_40 xm_kx (xm_ki (fun r53 S52 h1 => ?_))
  refine x_iconst (v := (nI 2)) C dX11_solve_43 (by decide) ?_
  obtain ⟨n54, hr55, h1⟩ := h1
  obtain ⟨ht56, h1⟩ := h1
  refine x_callV (rm' := rm_X7_seek) (n := n54) C (kp_X7_seek_met h1) lk_63 gw_399 gw_400 xv_7 rfl hr55 ht56 rfl (Nat.le_of_ble_eq_true rfl) ⟨Nat.le_of_ble_eq_true rfl, Nat.le_of_ble_eq_true rfl, (Nat.le_of_ble_eq_true rfl), (Nat.le_of_ble_eq_true rfl)⟩ dX11_solve_44 xm_kx (xm_ki (fun r58 S57 h1 => ?_))
  refine x_if_le (tgt := 54) C dX11_solve_47 (by decide) (fun z9 => ?_) (fun z9 => ?_)
  · have h1 := h1.1 z9
    refine x_iconst (v := (0 : Int32)) C dX11_solve_54 (by decide) ?_
    exact kp_X11_solve_55 h x1 (0 : Int32) x1 (st_r S49 h 9) S57 C N hg hEx  h1
  · have h1 := h1.2 z9
    refine x_iconst (v := (1 : Int32)) C dX11_solve_50 (by decide) ?_
    refine x_goto (tgt := 55) C dX11_solve_51 (by decide) ?_
    exact kp_X11_solve_55 h x1 (1 : Int32) x1 (st_r S49 h 9) S57 C N hg hEx  h1
def wp_X11_solve_13 (h : Nat) (x1 : Int32) (x2 : Int32) (S : xm_S) (g : Int32 → xm_S → Prop) (Ex : String → xm_S → Prop) : Prop :=
  (¬ x2 = (-1 : Int32) → wp_X11_solve_27 h x1 ((1 : Int32) <<< (x2 &&& 31)) x1 (some h) S g Ex) ∧ (x2 = (-1 : Int32) → wp_X11_solve_27 h x1 (0 : Int32) x1 (some h) S g Ex)
set_option maxRecDepth 100000 in
set_option maxHeartbeats 4000000 in
theorem kp_X11_solve_13 {K : xm_K} (h : Nat) (x1 : Int32) (x2 : Int32) (S : xm_S) {g : Int32 → xm_S → Prop} {Ex : String → xm_S → Prop} (C : xm_Cx K cX11_solve RX11 4 (some (FieldType.int)) rm_X11_solve) (N : xm_Nx K) (hg : ∀ v S, g v S → xm_q K (some (xm_i v)) S) (hEx : ∀ X S, Ex X S → xm_x K X S)  (h1 : wp_X11_solve_13 h x1 x2 S g Ex) : xm_W K 2 12 13 [(0, xm_r (some h)), (1, xm_i x1), (2, xm_i x2)] [] S := by
  unfold wp_X11_solve_13 at h1
  refine x_aload_n C 0 dX11_solve_13 rfl rfl ?_
  refine x_iload_n C 1 dX11_solve_14 rfl rfl ?_
  refine x_iload_n C 2 dX11_solve_15 rfl rfl ?_
  refine x_iconst (v := (-1 : Int32)) C dX11_solve_16 (by decide) ?_
  refine x_icmp_ne (tgt := 24) C dX11_solve_17 (by decide) (fun z9 => ?_) (fun z9 => ?_)
  · have h1 := h1.1 z9
    refine x_iconst (v := (1 : Int32)) C dX11_solve_24 (by decide) ?_
    refine x_iload_n C 2 dX11_solve_25 rfl rfl ?_
    refine x_ishl C dX11_solve_26 ?_
    refine x_keep (L' := [(0, xm_r (some h)), (1, xm_i x1)]) C [0, 1] rfl ?_
    exact kp_X11_solve_27 h x1 ((1 : Int32) <<< (x2 &&& 31)) x1 (some h) S C N hg hEx  h1
  · have h1 := h1.2 z9
    refine x_iconst (v := (0 : Int32)) C dX11_solve_20 (by decide) ?_
    refine x_goto (tgt := 27) C dX11_solve_21 (by decide) ?_
    refine x_keep (L' := [(0, xm_r (some h)), (1, xm_i x1)]) C [0, 1] rfl ?_
    exact kp_X11_solve_27 h x1 (0 : Int32) x1 (some h) S C N hg hEx  h1
def wp_X11_solve (h : Nat) (x1 : Int32) (x2 : Int32) (S : xm_S) (g : Int32 → xm_S → Prop) (Ex : String → xm_S → Prop) : Prop :=
  wp_X11_checkPlatform x1 S (fun S59 => (x2 = (-1 : Int32) → wp_X11_solve_13 h x1 x2 S59 g Ex) ∧ (¬ x2 = (-1 : Int32) → wp_X11_checkPack x2 S59 (fun S61 => wp_X11_solve_13 h x1 x2 S61 g Ex) Ex)) Ex
set_option maxRecDepth 100000 in
set_option maxHeartbeats 4000000 in
theorem kp_X11_solve {K : xm_K} (h : Nat) (x1 : Int32) (x2 : Int32) (S : xm_S) {g : Int32 → xm_S → Prop} {Ex : String → xm_S → Prop} (C : xm_Cx K cX11_solve RX11 4 (some (FieldType.int)) rm_X11_solve) (N : xm_Nx K) (hg : ∀ v S, g v S → xm_q K (some (xm_i v)) S) (hEx : ∀ X S, Ex X S → xm_x K X S)  (h1 : wp_X11_solve h x1 x2 S g Ex) : xm_W K 0 0 0 [(0, xm_r (some h)), (1, xm_i x1), (2, xm_i x2)] [] S := by
  unfold wp_X11_solve at h1
  refine x_iload_n C 1 dX11_solve_0 rfl rfl ?_
  refine x_callS (rm' := rm_X11_checkPlatform) C (kp_X11_checkPlatform_met h1) lk_58 gw_373 rfl (Nat.le_of_ble_eq_true rfl) ⟨Nat.le_of_ble_eq_true rfl, Nat.le_of_ble_eq_true rfl, (Nat.le_of_ble_eq_true rfl), (Nat.le_of_ble_eq_true rfl)⟩ dX11_solve_1 (fun X9 S9 hx9 => x_thru C N (Nat.le_of_ble_eq_true rfl) (Nat.le_of_ble_eq_true rfl) (hEx _ _ hx9)) (xm_kv (fun S59 h1 => ?_))
  refine x_iload_n C 2 dX11_solve_4 rfl rfl ?_
  refine x_iconst (v := (-1 : Int32)) C dX11_solve_5 (by decide) ?_
  refine x_icmp_eq (tgt := 13) C dX11_solve_6 (by decide) (fun z9 => ?_) (fun z9 => ?_)
  · have h1 := h1.1 z9
    refine x_cs (cells' := 2) (slots' := 12) C (Nat.le_of_ble_eq_true rfl) (Nat.le_of_ble_eq_true rfl) ?_
    exact kp_X11_solve_13 h x1 x2 S59 C N hg hEx  h1
  · have h1 := h1.2 z9
    refine x_iload_n C 2 dX11_solve_9 rfl rfl ?_
    refine x_callS (rm' := rm_X11_checkPack) C (kp_X11_checkPack_met h1) lk_50 gw_336 rfl (Nat.le_of_ble_eq_true rfl) ⟨Nat.le_of_ble_eq_true rfl, Nat.le_of_ble_eq_true rfl, (Nat.le_of_ble_eq_true rfl), (Nat.le_of_ble_eq_true rfl)⟩ dX11_solve_10 (fun X9 S9 hx9 => x_thru C N (Nat.le_of_ble_eq_true rfl) (Nat.le_of_ble_eq_true rfl) (hEx _ _ hx9)) (xm_kv (fun S61 h1 => ?_))
    exact kp_X11_solve_13 h x1 x2 S61 C N hg hEx  h1
theorem kp_X11_solve_met {h : Nat} {x1 : Int32} {x2 : Int32} {S : xm_S} {g : Int32 → xm_S → Prop} {Ex : String → xm_S → Prop}  (h1 : wp_X11_solve h x1 x2 S g Ex) : xm_Met yX11_solve cX11_solve 4 (some (FieldType.int)) rm_X11_solve [xm_r (some h), xm_i x1, xm_i x2] S (xm_qi g) Ex :=
  xm_ofW RX11 (by decide +kernel) rfl (Nat.le_of_ble_eq_true rfl) (fun K C N hq hx hi => kp_X11_solve h x1 x2 S C N (fun v S h => by rw [hq]; exact ⟨v, rfl, h⟩) (fun X S h => by rw [hx]; exact h)  h1)
def rm_X11_steps : Room := { frames := 1, cells := 0, slots := 0, locals := 20 }
theorem dX11_steps_0 : decode cX11_steps 0 = .ok (.aload_n 0, 1) := by decide +kernel
theorem dX11_steps_1 : decode cX11_steps 1 = .ok (.getfield 85, 3) := by decide +kernel
theorem dX11_steps_4 : decode cX11_steps 4 = .ok (.getfield 300, 3) := by decide +kernel
theorem dX11_steps_7 : decode cX11_steps 7 = .ok (.ireturn, 1) := by decide +kernel
def wp_X11_steps (h : Nat)  (S : xm_S) (g : Int32 → xm_S → Prop) : Prop :=
  st_t S h = some (11, 0) ∧ ∃ n2, (st_r S h 17) = some n2 ∧ st_t S n2 = some (2, 0) ∧ g (st_i S n2 5) S
set_option maxRecDepth 100000 in
set_option maxHeartbeats 4000000 in
theorem kp_X11_steps {K : xm_K} (h : Nat)  (S : xm_S) {g : Int32 → xm_S → Prop} (C : xm_Cx K cX11_steps RX11 1 (some (FieldType.int)) rm_X11_steps) (N : xm_Nx K) (hg : ∀ v S, g v S → xm_q K (some (xm_i v)) S)  (h1 : wp_X11_steps h  S g) : xm_W K 0 0 0 [(0, xm_r (some h))] [] S := by
  unfold wp_X11_steps at h1
  refine x_aload_n C 0 dX11_steps_0 rfl rfl ?_
  obtain ⟨ht1, h1⟩ := h1
  refine x_getf_r (n := h) C rfl ht1 fd_120 (by decide) dX11_steps_1 ?_
  obtain ⟨n2, hr3, h1⟩ := h1
  obtain ⟨ht4, h1⟩ := h1
  refine x_getf_i (n := n2) C hr3 ht4 fd_155 (by decide) dX11_steps_4 ?_
  exact x_iret C (Nat.le_of_ble_eq_true rfl) (Nat.le_of_ble_eq_true rfl) rfl dX11_steps_7 (hg _ _ h1)
theorem kp_X11_steps_met {h : Nat}  {S : xm_S} {g : Int32 → xm_S → Prop}  (h1 : wp_X11_steps h  S g) : xm_Met yX11_steps cX11_steps 1 (some (FieldType.int)) rm_X11_steps [xm_r (some h)] S (xm_qi g) xm_nox :=
  xm_ofW RX11 (by decide +kernel) rfl (Nat.le_of_ble_eq_true rfl) (fun K C N hq hx hi => kp_X11_steps h  S C N (fun v S h => by rw [hq]; exact ⟨v, rfl, h⟩)  h1)
def rm_X11_story : Room := { frames := 38, cells := 1, slots := 6, locals := 2150 }
theorem dX11_story_0 : decode cX11_story 0 = .ok (.iload_n 1, 1) := by decide +kernel
theorem dX11_story_1 : decode cX11_story 1 = .ok (.invokestatic 212, 3) := by decide +kernel
theorem dX11_story_4 : decode cX11_story 4 = .ok (.aload_n 0, 1) := by decide +kernel
theorem dX11_story_5 : decode cX11_story 5 = .ok (.iload_n 1, 1) := by decide +kernel
theorem dX11_story_6 : decode cX11_story 6 = .ok (.bipush 63, 2) := by decide +kernel
theorem dX11_story_8 : decode cX11_story 8 = .ok (.invokevirtual 215, 3) := by decide +kernel
theorem dX11_story_11 : decode cX11_story 11 = .ok (.aload_n 0, 1) := by decide +kernel
theorem dX11_story_12 : decode cX11_story 12 = .ok (.getfield 59, 3) := by decide +kernel
theorem dX11_story_15 : decode cX11_story 15 = .ok (.aload_n 0, 1) := by decide +kernel
theorem dX11_story_16 : decode cX11_story 16 = .ok (.invokevirtual 218, 3) := by decide +kernel
theorem dX11_story_19 : decode cX11_story 19 = .ok (.iconst 0, 1) := by decide +kernel
theorem dX11_story_20 : decode cX11_story 20 = .ok (.invokevirtual 221, 3) := by decide +kernel
theorem dX11_story_23 : decode cX11_story 23 = .ok (.ifCond .le 5, 3) := by decide +kernel
theorem dX11_story_26 : decode cX11_story 26 = .ok (.iconst (-1), 1) := by decide +kernel
theorem dX11_story_27 : decode cX11_story 27 = .ok (.ireturn, 1) := by decide +kernel
theorem dX11_story_28 : decode cX11_story 28 = .ok (.iconst 1, 1) := by decide +kernel
theorem dX11_story_29 : decode cX11_story 29 = .ok (.istore_n 2, 1) := by decide +kernel
theorem dX11_story_30 : decode cX11_story 30 = .ok (.iload_n 2, 1) := by decide +kernel
theorem dX11_story_31 : decode cX11_story 31 = .ok (.aload_n 0, 1) := by decide +kernel
theorem dX11_story_32 : decode cX11_story 32 = .ok (.getfield 28, 3) := by decide +kernel
theorem dX11_story_35 : decode cX11_story 35 = .ok (.if_icmp .ge 47, 3) := by decide +kernel
theorem dX11_story_38 : decode cX11_story 38 = .ok (.iconst 1, 1) := by decide +kernel
theorem dX11_story_39 : decode cX11_story 39 = .ok (.istore_n 3, 1) := by decide +kernel
theorem dX11_story_40 : decode cX11_story 40 = .ok (.iload_n 3, 1) := by decide +kernel
theorem dX11_story_41 : decode cX11_story 41 = .ok (.aload_n 0, 1) := by decide +kernel
theorem dX11_story_42 : decode cX11_story 42 = .ok (.invokevirtual 218, 3) := by decide +kernel
theorem dX11_story_45 : decode cX11_story 45 = .ok (.if_icmp .ge 31, 3) := by decide +kernel
theorem dX11_story_48 : decode cX11_story 48 = .ok (.iload_n 3, 1) := by decide +kernel
theorem dX11_story_49 : decode cX11_story 49 = .ok (.invokestatic 230, 3) := by decide +kernel
theorem dX11_story_52 : decode cX11_story 52 = .ok (.iload_n 2, 1) := by decide +kernel
theorem dX11_story_53 : decode cX11_story 53 = .ok (.if_icmp .ne 17, 3) := by decide +kernel
theorem dX11_story_56 : decode cX11_story 56 = .ok (.aload_n 0, 1) := by decide +kernel
theorem dX11_story_57 : decode cX11_story 57 = .ok (.getfield 59, 3) := by decide +kernel
theorem dX11_story_60 : decode cX11_story 60 = .ok (.iload_n 3, 1) := by decide +kernel
theorem dX11_story_61 : decode cX11_story 61 = .ok (.iconst 0, 1) := by decide +kernel
theorem dX11_story_62 : decode cX11_story 62 = .ok (.invokevirtual 221, 3) := by decide +kernel
theorem dX11_story_65 : decode cX11_story 65 = .ok (.ifCond .ne 5, 3) := by decide +kernel
theorem dX11_story_68 : decode cX11_story 68 = .ok (.iload_n 3, 1) := by decide +kernel
theorem dX11_story_69 : decode cX11_story 69 = .ok (.ireturn, 1) := by decide +kernel
theorem dX11_story_70 : decode cX11_story 70 = .ok (.iinc 3 1, 3) := by decide +kernel
theorem dX11_story_73 : decode cX11_story 73 = .ok (.goto (-33), 3) := by decide +kernel
theorem dX11_story_76 : decode cX11_story 76 = .ok (.iinc 2 1, 3) := by decide +kernel
theorem dX11_story_79 : decode cX11_story 79 = .ok (.goto (-49), 3) := by decide +kernel
theorem dX11_story_82 : decode cX11_story 82 = .ok (.aload_n 0, 1) := by decide +kernel
theorem dX11_story_83 : decode cX11_story 83 = .ok (.invokevirtual 218, 3) := by decide +kernel
theorem dX11_story_86 : decode cX11_story 86 = .ok (.ireturn, 1) := by decide +kernel
def wp_X11_story_70 (h : Nat) (x2 : Int32) (x3 : Int32) (S : xm_S) (g : Int32 → xm_S → Prop) (Ex : String → xm_S → Prop) (Z30 : Int32 → xm_S → Prop) (Z40 : Int32 → Int32 → xm_S → Prop) : Prop :=
  ∀ y1, y1 = (x3 + (1 : Int32)) → Z40 x2 y1 S
set_option maxRecDepth 100000 in
set_option maxHeartbeats 4000000 in
theorem kp_X11_story_70 {K : xm_K} (h : Nat) (x2 : Int32) (x3 : Int32) (S : xm_S) {g : Int32 → xm_S → Prop} {Ex : String → xm_S → Prop} {Z30 : Int32 → xm_S → Prop} {Z40 : Int32 → Int32 → xm_S → Prop} (C : xm_Cx K cX11_story RX11 4 (some (FieldType.int)) rm_X11_story) (N : xm_Nx K) (hg : ∀ v S, g v S → xm_q K (some (xm_i v)) S) (hEx : ∀ X S, Ex X S → xm_x K X S) (hZ30 : ∀ x2 S, Z30 x2 S → xm_W K 1 6 30 [(0, xm_r (some h)), (2, xm_i x2)] [] S) (hZ40 : ∀ x2 x3 S, Z40 x2 x3 S → xm_W K 1 6 40 [(0, xm_r (some h)), (2, xm_i x2), (3, xm_i x3)] [] S) (h1 : wp_X11_story_70 h x2 x3 S g Ex Z30 Z40) : xm_W K 1 6 70 [(0, xm_r (some h)), (2, xm_i x2), (3, xm_i x3)] [] S := by
  unfold wp_X11_story_70 at h1
  obtain ⟨y1, e2⟩ : ∃ y1, y1 = (x3 + (1 : Int32)) := ⟨_, rfl⟩
  have h1 := h1 y1 e2
  refine x_iinc (v := y1) (L' := [(3, xm_i y1), (0, xm_r (some h)), (2, xm_i x2)]) C 2 dX11_story_70 rfl (by rw [e2]; rfl) (by decide) rfl ?_
  refine x_goto (tgt := 40) C dX11_story_73 (by decide) ?_
  refine x_keep (L' := [(0, xm_r (some h)), (2, xm_i x2), (3, xm_i y1)]) C [1, 2, 0] rfl ?_
  exact hZ40 x2 y1 S h1
def wp_X11_story_40B (h : Nat) (x2 : Int32) (x3 : Int32) (S : xm_S) (g : Int32 → xm_S → Prop) (Ex : String → xm_S → Prop) (Z30 : Int32 → xm_S → Prop) (Z40 : Int32 → Int32 → xm_S → Prop) : Prop :=
  st_t S h = some (11, 0) ∧ wp_X11_allWishes h S (fun r5 S4 => (r5 ≤ x3 → ∀ y6, y6 = (x2 + (1 : Int32)) → Z30 y6 S4) ∧ (¬ r5 ≤ x3 → wp_J6_bitCount_0f7a4 x3 S4 (fun r9 S8 => (¬ r9 = x2 → wp_X11_story_70 h x2 x3 S8 g Ex Z30 Z40) ∧ (r9 = x2 → st_t S8 h = some (11, 0) ∧ ∃ n11, (st_r S8 h 10) = some n11 ∧ st_t S8 n11 = some (7, 0) ∧ wp_X7_seek n11 x3 (0 : Int32) S8 (fun r15 S14 => (¬ r15 = 0 → wp_X11_story_70 h x2 x3 S14 g Ex Z30 Z40) ∧ (r15 = 0 → g x3 S14))))))
def wp_X11_story_40 (h : Nat) (x2 : Int32) (x3 : Int32) (S : xm_S) (g : Int32 → xm_S → Prop) (Ex : String → xm_S → Prop) (Z30 : Int32 → xm_S → Prop) : Prop :=
  ∀ Z40 : Int32 → Int32 → xm_S → Prop, (∀ x2 x3 S, wp_X11_story_40B h x2 x3 S g Ex Z30 Z40 → Z40 x2 x3 S) → Z40 x2 x3 S
set_option maxRecDepth 100000 in
set_option maxHeartbeats 4000000 in
theorem kp_X11_story_40B {K : xm_K} (h : Nat) (x2 : Int32) (x3 : Int32) (S : xm_S) {g : Int32 → xm_S → Prop} {Ex : String → xm_S → Prop} {Z30 : Int32 → xm_S → Prop} {Z40 : Int32 → Int32 → xm_S → Prop} (C : xm_Cx K cX11_story RX11 4 (some (FieldType.int)) rm_X11_story) (N : xm_Nx K) (hg : ∀ v S, g v S → xm_q K (some (xm_i v)) S) (hEx : ∀ X S, Ex X S → xm_x K X S) (hZ30 : ∀ x2 S, Z30 x2 S → xm_W K 1 6 30 [(0, xm_r (some h)), (2, xm_i x2)] [] S) (hZ40 : ∀ x2 x3 S, Z40 x2 x3 S → xm_W K 1 6 40 [(0, xm_r (some h)), (2, xm_i x2), (3, xm_i x3)] [] S) (h1 : wp_X11_story_40B h x2 x3 S g Ex Z30 Z40) : xm_W K 1 6 40 [(0, xm_r (some h)), (2, xm_i x2), (3, xm_i x3)] [] S := by
  unfold wp_X11_story_40B at h1
  refine x_iload_n C 2 dX11_story_40 rfl rfl ?_
  refine x_aload_n C 0 dX11_story_41 rfl rfl ?_
  obtain ⟨ht3, h1⟩ := h1
  refine x_callV (rm' := rm_X11_allWishes) (n := h) C (kp_X11_allWishes_met h1) lk_62 gw_395 gw_396 xv_11 rfl rfl ht3 rfl (Nat.le_of_ble_eq_true rfl) ⟨Nat.le_of_ble_eq_true rfl, Nat.le_of_ble_eq_true rfl, (Nat.le_of_ble_eq_true rfl), (Nat.le_of_ble_eq_true rfl)⟩ dX11_story_42 xm_kx (xm_ki (fun r5 S4 h1 => ?_))
  refine x_icmp_ge (tgt := 76) C dX11_story_45 (by decide) (fun z9 => ?_) (fun z9 => ?_)
  · have h1 := h1.1 z9
    obtain ⟨y6, e7⟩ : ∃ y6, y6 = (x2 + (1 : Int32)) := ⟨_, rfl⟩
    have h1 := h1 y6 e7
    refine x_iinc (v := y6) (L' := [(2, xm_i y6), (0, xm_r (some h)), (3, xm_i x3)]) C 1 dX11_story_76 rfl (by rw [e7]; rfl) (by decide) rfl ?_
    refine x_goto (tgt := 30) C dX11_story_79 (by decide) ?_
    refine x_keep (L' := [(0, xm_r (some h)), (2, xm_i y6)]) C [1, 0] rfl ?_
    exact hZ30 y6 S4 h1
  · have h1 := h1.2 z9
    refine x_iload_n C 2 dX11_story_48 rfl rfl ?_
    refine x_callS (rm' := rm_J6_bitCount_0f7a4) C (kp_J6_bitCount_0f7a4_met h1) lk_75 gw_457 rfl (Nat.le_of_ble_eq_true rfl) ⟨Nat.le_of_ble_eq_true rfl, Nat.le_of_ble_eq_true rfl, (Nat.le_of_ble_eq_true rfl), (Nat.le_of_ble_eq_true rfl)⟩ dX11_story_49 xm_kx (xm_ki (fun r9 S8 h1 => ?_))
    refine x_iload_n C 1 dX11_story_52 rfl rfl ?_
    refine x_icmp_ne (tgt := 70) C dX11_story_53 (by decide) (fun z9 => ?_) (fun z9 => ?_)
    · have h1 := h1.1 z9
      exact kp_X11_story_70 h x2 x3 S8 C N hg hEx hZ30 hZ40 h1
    · have h1 := h1.2 z9
      refine x_aload_n C 0 dX11_story_56 rfl rfl ?_
      obtain ⟨ht10, h1⟩ := h1
      refine x_getf_r (n := h) C rfl ht10 fd_123 (by decide) dX11_story_57 ?_
      refine x_iload_n C 2 dX11_story_60 rfl rfl ?_
      refine x_iconst (v := (0 : Int32)) C dX11_story_61 (by decide) ?_
      obtain ⟨n11, hr12, h1⟩ := h1
      obtain ⟨ht13, h1⟩ := h1
      refine x_callV (rm' := rm_X7_seek) (n := n11) C (kp_X7_seek_met h1) lk_63 gw_399 gw_400 xv_7 rfl hr12 ht13 rfl (Nat.le_of_ble_eq_true rfl) ⟨Nat.le_of_ble_eq_true rfl, Nat.le_of_ble_eq_true rfl, (Nat.le_of_ble_eq_true rfl), (Nat.le_of_ble_eq_true rfl)⟩ dX11_story_62 xm_kx (xm_ki (fun r15 S14 h1 => ?_))
      refine x_if_ne (tgt := 70) C dX11_story_65 (by decide) (fun z9 => ?_) (fun z9 => ?_)
      · have h1 := h1.1 z9
        exact kp_X11_story_70 h x2 x3 S14 C N hg hEx hZ30 hZ40 h1
      · have h1 := h1.2 z9
        refine x_iload_n C 2 dX11_story_68 rfl rfl ?_
        exact x_iret C (Nat.le_of_ble_eq_true rfl) (Nat.le_of_ble_eq_true rfl) rfl dX11_story_69 (hg _ _ h1)
theorem kp_X11_story_40 {K : xm_K} (h : Nat) (x2 : Int32) (x3 : Int32) (S : xm_S) {g : Int32 → xm_S → Prop} {Ex : String → xm_S → Prop} {Z30 : Int32 → xm_S → Prop} (C : xm_Cx K cX11_story RX11 4 (some (FieldType.int)) rm_X11_story) (N : xm_Nx K) (hg : ∀ v S, g v S → xm_q K (some (xm_i v)) S) (hEx : ∀ X S, Ex X S → xm_x K X S) (hZ30 : ∀ x2 S, Z30 x2 S → xm_W K 1 6 30 [(0, xm_r (some h)), (2, xm_i x2)] [] S) (h1 : wp_X11_story_40 h x2 x3 S g Ex Z30) : xm_W K 1 6 40 [(0, xm_r (some h)), (2, xm_i x2), (3, xm_i x3)] [] S :=
  h1 (fun x2 x3 S => xm_W K 1 6 40 [(0, xm_r (some h)), (2, xm_i x2), (3, xm_i x3)] [] S) (fun x2 x3 S hb => kp_X11_story_40B h x2 x3 S C N hg hEx hZ30 (fun x2 x3 S hz => hz) hb)
def wp_X11_story_30B (h : Nat) (x2 : Int32) (S : xm_S) (g : Int32 → xm_S → Prop) (Ex : String → xm_S → Prop) (Z30 : Int32 → xm_S → Prop) : Prop :=
  st_t S h = some (11, 0) ∧ ((st_i S h 3) ≤ x2 → wp_X11_allWishes h S (fun r18 S17 => g r18 S17)) ∧ (¬ (st_i S h 3) ≤ x2 → wp_X11_story_40 h x2 (1 : Int32) S g Ex Z30)
def wp_X11_story_30 (h : Nat) (x2 : Int32) (S : xm_S) (g : Int32 → xm_S → Prop) (Ex : String → xm_S → Prop) : Prop :=
  ∀ Z30 : Int32 → xm_S → Prop, (∀ x2 S, wp_X11_story_30B h x2 S g Ex Z30 → Z30 x2 S) → Z30 x2 S
set_option maxRecDepth 100000 in
set_option maxHeartbeats 4000000 in
theorem kp_X11_story_30B {K : xm_K} (h : Nat) (x2 : Int32) (S : xm_S) {g : Int32 → xm_S → Prop} {Ex : String → xm_S → Prop} {Z30 : Int32 → xm_S → Prop} (C : xm_Cx K cX11_story RX11 4 (some (FieldType.int)) rm_X11_story) (N : xm_Nx K) (hg : ∀ v S, g v S → xm_q K (some (xm_i v)) S) (hEx : ∀ X S, Ex X S → xm_x K X S) (hZ30 : ∀ x2 S, Z30 x2 S → xm_W K 1 6 30 [(0, xm_r (some h)), (2, xm_i x2)] [] S) (h1 : wp_X11_story_30B h x2 S g Ex Z30) : xm_W K 1 6 30 [(0, xm_r (some h)), (2, xm_i x2)] [] S := by
  unfold wp_X11_story_30B at h1
  refine x_iload_n C 1 dX11_story_30 rfl rfl ?_
  refine x_aload_n C 0 dX11_story_31 rfl rfl ?_
  obtain ⟨ht16, h1⟩ := h1
  refine x_getf_i (n := h) C rfl ht16 fd_119 (by decide) dX11_story_32 ?_
  refine x_icmp_ge (tgt := 82) C dX11_story_35 (by decide) (fun z9 => ?_) (fun z9 => ?_)
  · have h1 := h1.1 z9
    refine x_aload_n C 0 dX11_story_82 rfl rfl ?_
    refine x_callV (rm' := rm_X11_allWishes) (n := h) C (kp_X11_allWishes_met h1) lk_62 gw_395 gw_396 xv_11 rfl rfl ht16 rfl (Nat.le_of_ble_eq_true rfl) ⟨Nat.le_of_ble_eq_true rfl, Nat.le_of_ble_eq_true rfl, (Nat.le_of_ble_eq_true rfl), (Nat.le_of_ble_eq_true rfl)⟩ dX11_story_83 xm_kx (xm_ki (fun r18 S17 h1 => ?_))
    exact x_iret C (Nat.le_of_ble_eq_true rfl) (Nat.le_of_ble_eq_true rfl) rfl dX11_story_86 (hg _ _ h1)
  · have h1 := h1.2 z9
    refine x_iconst (v := (1 : Int32)) C dX11_story_38 (by decide) ?_
    refine x_istore_n (L' := [(3, xm_i (1 : Int32)), (0, xm_r (some h)), (2, xm_i x2)]) C dX11_story_39 rfl (by decide) rfl ?_
    refine x_keep (L' := [(0, xm_r (some h)), (2, xm_i x2), (3, xm_i (1 : Int32))]) C [1, 2, 0] rfl ?_
    exact kp_X11_story_40 h x2 (1 : Int32) S C N hg hEx hZ30 h1
theorem kp_X11_story_30 {K : xm_K} (h : Nat) (x2 : Int32) (S : xm_S) {g : Int32 → xm_S → Prop} {Ex : String → xm_S → Prop} (C : xm_Cx K cX11_story RX11 4 (some (FieldType.int)) rm_X11_story) (N : xm_Nx K) (hg : ∀ v S, g v S → xm_q K (some (xm_i v)) S) (hEx : ∀ X S, Ex X S → xm_x K X S)  (h1 : wp_X11_story_30 h x2 S g Ex) : xm_W K 1 6 30 [(0, xm_r (some h)), (2, xm_i x2)] [] S :=
  h1 (fun x2 S => xm_W K 1 6 30 [(0, xm_r (some h)), (2, xm_i x2)] [] S) (fun x2 S hb => kp_X11_story_30B h x2 S C N hg hEx (fun x2 S hz => hz) hb)
def wp_X11_story (h : Nat) (x1 : Int32) (S : xm_S) (g : Int32 → xm_S → Prop) (Ex : String → xm_S → Prop) : Prop :=
  wp_X11_checkPlatform x1 S (fun S19 => st_t S19 h = some (11, 0) ∧ wp_X11_prepareSolver h x1 (nI 63) S19 (fun S22 => st_t S22 h = some (11, 0) ∧ wp_X11_allWishes h S22 (fun r26 S25 => ∃ n27, (st_r S22 h 10) = some n27 ∧ st_t S25 n27 = some (7, 0) ∧ wp_X7_seek n27 r26 (0 : Int32) S25 (fun r31 S30 => (r31 ≤ 0 → wp_X11_story_30 h (1 : Int32) S30 g Ex) ∧ (¬ r31 ≤ 0 → g (-1 : Int32) S30))))) Ex
set_option maxRecDepth 100000 in
set_option maxHeartbeats 4000000 in
theorem kp_X11_story {K : xm_K} (h : Nat) (x1 : Int32) (S : xm_S) {g : Int32 → xm_S → Prop} {Ex : String → xm_S → Prop} (C : xm_Cx K cX11_story RX11 4 (some (FieldType.int)) rm_X11_story) (N : xm_Nx K) (hg : ∀ v S, g v S → xm_q K (some (xm_i v)) S) (hEx : ∀ X S, Ex X S → xm_x K X S)  (h1 : wp_X11_story h x1 S g Ex) : xm_W K 0 0 0 [(0, xm_r (some h)), (1, xm_i x1)] [] S := by
  unfold wp_X11_story at h1
  refine x_iload_n C 1 dX11_story_0 rfl rfl ?_
  refine x_callS (rm' := rm_X11_checkPlatform) C (kp_X11_checkPlatform_met h1) lk_58 gw_373 rfl (Nat.le_of_ble_eq_true rfl) ⟨Nat.le_of_ble_eq_true rfl, Nat.le_of_ble_eq_true rfl, (Nat.le_of_ble_eq_true rfl), (Nat.le_of_ble_eq_true rfl)⟩ dX11_story_1 (fun X9 S9 hx9 => x_thru C N (Nat.le_of_ble_eq_true rfl) (Nat.le_of_ble_eq_true rfl) (hEx _ _ hx9)) (xm_kv (fun S19 h1 => ?_))
  refine x_aload_n C 0 dX11_story_4 rfl rfl ?_
  refine x_iload_n C 1 dX11_story_5 rfl rfl ?_
  refine x_bipush (v := (nI 63)) C dX11_story_6 (by decide) ?_
  obtain ⟨ht21, h1⟩ := h1
  refine x_callV (rm' := rm_X11_prepareSolver) (n := h) C (kp_X11_prepareSolver_met h1) lk_61 gw_391 gw_392 xv_11 rfl rfl ht21 rfl (Nat.le_of_ble_eq_true rfl) ⟨Nat.le_of_ble_eq_true rfl, Nat.le_of_ble_eq_true rfl, (Nat.le_of_ble_eq_true rfl), (Nat.le_of_ble_eq_true rfl)⟩ dX11_story_8 xm_kx (xm_kv (fun S22 h1 => ?_))
  refine x_aload_n C 0 dX11_story_11 rfl rfl ?_
  obtain ⟨ht24, h1⟩ := h1
  refine x_getf_r (n := h) C rfl ht24 fd_123 (by decide) dX11_story_12 ?_
  refine x_aload_n C 0 dX11_story_15 rfl rfl ?_
  refine x_callV (rm' := rm_X11_allWishes) (n := h) C (kp_X11_allWishes_met h1) lk_62 gw_395 gw_396 xv_11 rfl rfl ht24 rfl (Nat.le_of_ble_eq_true rfl) ⟨Nat.le_of_ble_eq_true rfl, Nat.le_of_ble_eq_true rfl, (Nat.le_of_ble_eq_true rfl), (Nat.le_of_ble_eq_true rfl)⟩ dX11_story_16 xm_kx (xm_ki (fun r26 S25 h1 => ?_))
  refine x_iconst (v := (0 : Int32)) C dX11_story_19 (by decide) ?_
  obtain ⟨n27, hr28, h1⟩ := h1
  obtain ⟨ht29, h1⟩ := h1
  refine x_callV (rm' := rm_X7_seek) (n := n27) C (kp_X7_seek_met h1) lk_63 gw_399 gw_400 xv_7 rfl hr28 ht29 rfl (Nat.le_of_ble_eq_true rfl) ⟨Nat.le_of_ble_eq_true rfl, Nat.le_of_ble_eq_true rfl, (Nat.le_of_ble_eq_true rfl), (Nat.le_of_ble_eq_true rfl)⟩ dX11_story_20 xm_kx (xm_ki (fun r31 S30 h1 => ?_))
  refine x_if_le (tgt := 28) C dX11_story_23 (by decide) (fun z9 => ?_) (fun z9 => ?_)
  · have h1 := h1.1 z9
    refine x_iconst (v := (1 : Int32)) C dX11_story_28 (by decide) ?_
    refine x_istore_n (L' := [(2, xm_i (1 : Int32)), (0, xm_r (some h)), (1, xm_i x1)]) C dX11_story_29 rfl (by decide) rfl ?_
    refine x_keep (L' := [(0, xm_r (some h)), (2, xm_i (1 : Int32))]) C [1, 0] rfl ?_
    exact kp_X11_story_30 h (1 : Int32) S30 C N hg hEx  h1
  · have h1 := h1.2 z9
    refine x_iconst (v := (-1 : Int32)) C dX11_story_26 (by decide) ?_
    exact x_iret C (Nat.le_of_ble_eq_true rfl) (Nat.le_of_ble_eq_true rfl) rfl dX11_story_27 (hg _ _ h1)
theorem kp_X11_story_met {h : Nat} {x1 : Int32} {S : xm_S} {g : Int32 → xm_S → Prop} {Ex : String → xm_S → Prop}  (h1 : wp_X11_story h x1 S g Ex) : xm_Met yX11_story cX11_story 4 (some (FieldType.int)) rm_X11_story [xm_r (some h), xm_i x1] S (xm_qi g) Ex :=
  xm_ofW RX11 (by decide +kernel) rfl (Nat.le_of_ble_eq_true rfl) (fun K C N hq hx hi => kp_X11_story h x1 S C N (fun v S h => by rw [hq]; exact ⟨v, rfl, h⟩) (fun X S h => by rw [hx]; exact h)  h1)
def rm_X11_type : Room := { frames := 6, cells := 1, slots := 6, locals := 100 }
theorem dX11_type_0 : decode cX11_type 0 = .ok (.iload_n 3, 1) := by decide +kernel
theorem dX11_type_1 : decode cX11_type 1 = .ok (.iconst 1, 1) := by decide +kernel
theorem dX11_type_2 : decode cX11_type 2 = .ok (.if_icmp .lt 9, 3) := by decide +kernel
theorem dX11_type_5 : decode cX11_type 5 = .ok (.iload_n 3, 1) := by decide +kernel
theorem dX11_type_6 : decode cX11_type 6 = .ok (.bipush 8, 2) := by decide +kernel
theorem dX11_type_8 : decode cX11_type 8 = .ok (.if_icmp .le 13, 3) := by decide +kernel
theorem dX11_type_11 : decode cX11_type 11 = .ok (.new 90, 3) := by decide +kernel
theorem dX11_type_14 : decode cX11_type 14 = .ok (.dup, 1) := by decide +kernel
theorem dX11_type_15 : decode cX11_type 15 = .ok (.ldc 92, 2) := by decide +kernel
theorem dX11_type_17 : decode cX11_type 17 = .ok (.invokespecial 94, 3) := by decide +kernel
theorem dX11_type_20 : decode cX11_type 20 = .ok (.athrow, 1) := by decide +kernel
theorem dX11_type_21 : decode cX11_type 21 = .ok (.iconst 0, 1) := by decide +kernel
theorem dX11_type_22 : decode cX11_type 22 = .ok (.istore 4, 2) := by decide +kernel
theorem dX11_type_24 : decode cX11_type 24 = .ok (.iload 4, 2) := by decide +kernel
theorem dX11_type_26 : decode cX11_type 26 = .ok (.iload_n 3, 1) := by decide +kernel
theorem dX11_type_27 : decode cX11_type 27 = .ok (.if_icmp .ge 41, 3) := by decide +kernel
theorem dX11_type_30 : decode cX11_type 30 = .ok (.lload_n 1, 1) := by decide +kernel
theorem dX11_type_31 : decode cX11_type 31 = .ok (.iload 4, 2) := by decide +kernel
theorem dX11_type_33 : decode cX11_type 33 = .ok (.invokestatic 97, 3) := by decide +kernel
theorem dX11_type_36 : decode cX11_type 36 = .ok (.istore 5, 2) := by decide +kernel
theorem dX11_type_38 : decode cX11_type 38 = .ok (.iload 5, 2) := by decide +kernel
theorem dX11_type_40 : decode cX11_type 40 = .ok (.bipush 33, 2) := by decide +kernel
theorem dX11_type_42 : decode cX11_type 42 = .ok (.if_icmp .lt 10, 3) := by decide +kernel
theorem dX11_type_45 : decode cX11_type 45 = .ok (.iload 5, 2) := by decide +kernel
theorem dX11_type_47 : decode cX11_type 47 = .ok (.bipush 126, 2) := by decide +kernel
theorem dX11_type_49 : decode cX11_type 49 = .ok (.if_icmp .le 13, 3) := by decide +kernel
theorem dX11_type_52 : decode cX11_type 52 = .ok (.new 90, 3) := by decide +kernel
theorem dX11_type_55 : decode cX11_type 55 = .ok (.dup, 1) := by decide +kernel
theorem dX11_type_56 : decode cX11_type 56 = .ok (.ldc 101, 2) := by decide +kernel
theorem dX11_type_58 : decode cX11_type 58 = .ok (.invokespecial 94, 3) := by decide +kernel
theorem dX11_type_61 : decode cX11_type 61 = .ok (.athrow, 1) := by decide +kernel
theorem dX11_type_62 : decode cX11_type 62 = .ok (.iinc 4 1, 3) := by decide +kernel
theorem dX11_type_65 : decode cX11_type 65 = .ok (.goto (-41), 3) := by decide +kernel
theorem dX11_type_68 : decode cX11_type 68 = .ok (.aload_n 0, 1) := by decide +kernel
theorem dX11_type_69 : decode cX11_type 69 = .ok (.getfield 12, 3) := by decide +kernel
theorem dX11_type_72 : decode cX11_type 72 = .ok (.getfield 103, 3) := by decide +kernel
theorem dX11_type_75 : decode cX11_type 75 = .ok (.iload_n 3, 1) := by decide +kernel
theorem dX11_type_76 : decode cX11_type 76 = .ok (.iadd, 1) := by decide +kernel
theorem dX11_type_77 : decode cX11_type 77 = .ok (.bipush 40, 2) := by decide +kernel
theorem dX11_type_79 : decode cX11_type 79 = .ok (.if_icmp .le 13, 3) := by decide +kernel
theorem dX11_type_82 : decode cX11_type 82 = .ok (.new 106, 3) := by decide +kernel
theorem dX11_type_85 : decode cX11_type 85 = .ok (.dup, 1) := by decide +kernel
theorem dX11_type_86 : decode cX11_type 86 = .ok (.ldc 108, 2) := by decide +kernel
theorem dX11_type_88 : decode cX11_type 88 = .ok (.invokespecial 110, 3) := by decide +kernel
theorem dX11_type_91 : decode cX11_type 91 = .ok (.athrow, 1) := by decide +kernel
theorem dX11_type_92 : decode cX11_type 92 = .ok (.iconst 0, 1) := by decide +kernel
theorem dX11_type_93 : decode cX11_type 93 = .ok (.istore 4, 2) := by decide +kernel
theorem dX11_type_95 : decode cX11_type 95 = .ok (.iload 4, 2) := by decide +kernel
theorem dX11_type_97 : decode cX11_type 97 = .ok (.iload_n 3, 1) := by decide +kernel
theorem dX11_type_98 : decode cX11_type 98 = .ok (.if_icmp .ge 23, 3) := by decide +kernel
theorem dX11_type_101 : decode cX11_type 101 = .ok (.aload_n 0, 1) := by decide +kernel
theorem dX11_type_102 : decode cX11_type 102 = .ok (.getfield 12, 3) := by decide +kernel
theorem dX11_type_105 : decode cX11_type 105 = .ok (.lload_n 1, 1) := by decide +kernel
theorem dX11_type_106 : decode cX11_type 106 = .ok (.iload 4, 2) := by decide +kernel
theorem dX11_type_108 : decode cX11_type 108 = .ok (.invokestatic 97, 3) := by decide +kernel
theorem dX11_type_111 : decode cX11_type 111 = .ok (.i2c, 1) := by decide +kernel
theorem dX11_type_112 : decode cX11_type 112 = .ok (.invokevirtual 111, 3) := by decide +kernel
theorem dX11_type_115 : decode cX11_type 115 = .ok (.iinc 4 1, 3) := by decide +kernel
theorem dX11_type_118 : decode cX11_type 118 = .ok (.goto (-23), 3) := by decide +kernel
theorem dX11_type_121 : decode cX11_type 121 = .ok (.aload_n 0, 1) := by decide +kernel
theorem dX11_type_122 : decode cX11_type 122 = .ok (.getfield 12, 3) := by decide +kernel
theorem dX11_type_125 : decode cX11_type 125 = .ok (.getfield 103, 3) := by decide +kernel
theorem dX11_type_128 : decode cX11_type 128 = .ok (.ireturn, 1) := by decide +kernel
def wp_X11_type_11 (h : Nat)  (S : xm_S) (g : Int32 → xm_S → Prop) (Ex : String → xm_S → Prop) : Prop :=
  Ex xm_eA S
set_option maxRecDepth 100000 in
set_option maxHeartbeats 4000000 in
theorem kp_X11_type_11 {K : xm_K} (h : Nat)  (S : xm_S) {g : Int32 → xm_S → Prop} {Ex : String → xm_S → Prop} (C : xm_Cx K cX11_type RX11 6 (some (FieldType.int)) rm_X11_type) (N : xm_Nx K) (hg : ∀ v S, g v S → xm_q K (some (xm_i v)) S) (hEx : ∀ X S, Ex X S → xm_x K X S)  (h1 : wp_X11_type_11 h  S g Ex) : xm_W K 0 0 11 [] [] S := by
  unfold wp_X11_type_11 at h1
  exact x_throw (text := "n is 1 to 8") C N th_A_in th_A_fit gw_327 gw_328 (by decide +kernel) th_A_at th_A_no th_A_ot (Nat.le_of_ble_eq_true rfl) ⟨Nat.le_of_ble_eq_true rfl, Nat.le_of_ble_eq_true rfl, (Nat.le_of_ble_eq_true rfl), (Nat.le_of_ble_eq_true rfl)⟩ dX11_type_11 dX11_type_14 (Or.inl ⟨dX11_type_15, dX11_type_17, dX11_type_20⟩) (hEx _ _ h1)
def wp_X11_type_52 (h : Nat)  (S : xm_S) (g : Int32 → xm_S → Prop) (Ex : String → xm_S → Prop) : Prop :=
  Ex xm_eA S
set_option maxRecDepth 100000 in
set_option maxHeartbeats 4000000 in
theorem kp_X11_type_52 {K : xm_K} (h : Nat)  (S : xm_S) {g : Int32 → xm_S → Prop} {Ex : String → xm_S → Prop} (C : xm_Cx K cX11_type RX11 6 (some (FieldType.int)) rm_X11_type) (N : xm_Nx K) (hg : ∀ v S, g v S → xm_q K (some (xm_i v)) S) (hEx : ∀ X S, Ex X S → xm_x K X S)  (h1 : wp_X11_type_52 h  S g Ex) : xm_W K 0 0 52 [] [] S := by
  unfold wp_X11_type_52 at h1
  exact x_throw (text := "a character is 33 to 126") C N th_A_in th_A_fit gw_327 gw_328 (by decide +kernel) th_A_at th_A_no th_A_ot (Nat.le_of_ble_eq_true rfl) ⟨Nat.le_of_ble_eq_true rfl, Nat.le_of_ble_eq_true rfl, (Nat.le_of_ble_eq_true rfl), (Nat.le_of_ble_eq_true rfl)⟩ dX11_type_52 dX11_type_55 (Or.inl ⟨dX11_type_56, dX11_type_58, dX11_type_61⟩) (hEx _ _ h1)
def wp_X11_type_95B (h : Nat) (x1 : Int64) (x3 : Int32) (x4 : Int32) (S : xm_S) (g : Int32 → xm_S → Prop) (Ex : String → xm_S → Prop) (Z95 : Int64 → Int32 → Int32 → xm_S → Prop) : Prop :=
  (x3 ≤ x4 → st_t S h = some (11, 0) ∧ ∃ n2, (st_r S h 0) = some n2 ∧ st_t S n2 = some (8, 0) ∧ g (st_i S n2 1) S) ∧ (¬ x3 ≤ x4 → st_t S h = some (11, 0) ∧ wp_X11_signAt x1 x4 S (fun r7 S6 => ∃ n8, (st_r S h 0) = some n8 ∧ st_t S6 n8 = some (8, 0) ∧ wp_X8_append n8 (((r7).toUInt32 % 65536).toInt32) S6 (fun S11 => ∀ y13, y13 = (x4 + (1 : Int32)) → Z95 x1 x3 y13 S11)))
def wp_X11_type_95 (h : Nat) (x1 : Int64) (x3 : Int32) (x4 : Int32) (S : xm_S) (g : Int32 → xm_S → Prop) (Ex : String → xm_S → Prop) : Prop :=
  ∀ Z95 : Int64 → Int32 → Int32 → xm_S → Prop, (∀ x1 x3 x4 S, wp_X11_type_95B h x1 x3 x4 S g Ex Z95 → Z95 x1 x3 x4 S) → Z95 x1 x3 x4 S
set_option maxRecDepth 100000 in
set_option maxHeartbeats 4000000 in
theorem kp_X11_type_95B {K : xm_K} (h : Nat) (x1 : Int64) (x3 : Int32) (x4 : Int32) (S : xm_S) {g : Int32 → xm_S → Prop} {Ex : String → xm_S → Prop} {Z95 : Int64 → Int32 → Int32 → xm_S → Prop} (C : xm_Cx K cX11_type RX11 6 (some (FieldType.int)) rm_X11_type) (N : xm_Nx K) (hg : ∀ v S, g v S → xm_q K (some (xm_i v)) S) (hEx : ∀ X S, Ex X S → xm_x K X S) (hZ95 : ∀ x1 x3 x4 S, Z95 x1 x3 x4 S → xm_W K 0 0 95 [(0, xm_r (some h)), (1, xm_l x1), (3, xm_i x3), (4, xm_i x4)] [] S) (h1 : wp_X11_type_95B h x1 x3 x4 S g Ex Z95) : xm_W K 0 0 95 [(0, xm_r (some h)), (1, xm_l x1), (3, xm_i x3), (4, xm_i x4)] [] S := by
  unfold wp_X11_type_95B at h1
  refine x_iload C 3 dX11_type_95 rfl ?_
  refine x_iload_n C 2 dX11_type_97 rfl rfl ?_
  refine x_icmp_ge (tgt := 121) C dX11_type_98 (by decide) (fun z9 => ?_) (fun z9 => ?_)
  · have h1 := h1.1 z9
    refine x_aload_n C 0 dX11_type_121 rfl rfl ?_
    obtain ⟨ht1, h1⟩ := h1
    refine x_getf_r (n := h) C rfl ht1 fd_108 (by decide) dX11_type_122 ?_
    obtain ⟨n2, hr3, h1⟩ := h1
    obtain ⟨ht4, h1⟩ := h1
    refine x_getf_i (n := n2) C hr3 ht4 fd_156 (by decide) dX11_type_125 ?_
    exact x_iret C (Nat.le_of_ble_eq_true rfl) (Nat.le_of_ble_eq_true rfl) rfl dX11_type_128 (hg _ _ h1)
  · have h1 := h1.2 z9
    refine x_aload_n C 0 dX11_type_101 rfl rfl ?_
    obtain ⟨ht5, h1⟩ := h1
    refine x_getf_r (n := h) C rfl ht5 fd_108 (by decide) dX11_type_102 ?_
    refine x_lload_n C 1 dX11_type_105 rfl rfl ?_
    refine x_iload C 3 dX11_type_106 rfl ?_
    refine x_callS (rm' := rm_X11_signAt) C (kp_X11_signAt_met h1) lk_84 gw_520 rfl (Nat.le_of_ble_eq_true rfl) ⟨Nat.le_of_ble_eq_true rfl, Nat.le_of_ble_eq_true rfl, (Nat.le_of_ble_eq_true rfl), (Nat.le_of_ble_eq_true rfl)⟩ dX11_type_108 xm_kx (xm_ki (fun r7 S6 h1 => ?_))
    refine x_i2c C dX11_type_111 ?_
    obtain ⟨n8, hr9, h1⟩ := h1
    obtain ⟨ht10, h1⟩ := h1
    refine x_callV (rm' := rm_X8_append) (n := n8) C (kp_X8_append_met h1) lk_85 gw_523 gw_524 xv_8 rfl hr9 ht10 rfl (Nat.le_of_ble_eq_true rfl) ⟨Nat.le_of_ble_eq_true rfl, Nat.le_of_ble_eq_true rfl, (Nat.le_of_ble_eq_true rfl), (Nat.le_of_ble_eq_true rfl)⟩ dX11_type_112 xm_kx (xm_kv (fun S11 h1 => ?_))
    obtain ⟨y13, e14⟩ : ∃ y13, y13 = (x4 + (1 : Int32)) := ⟨_, rfl⟩
    have h1 := h1 y13 e14
    refine x_iinc (v := y13) (L' := [(4, xm_i y13), (0, xm_r (some h)), (1, xm_l x1), (3, xm_i x3)]) C 3 dX11_type_115 rfl (by rw [e14]; rfl) (by decide) rfl ?_
    refine x_goto (tgt := 95) C dX11_type_118 (by decide) ?_
    refine x_keep (L' := [(0, xm_r (some h)), (1, xm_l x1), (3, xm_i x3), (4, xm_i y13)]) C [1, 2, 3, 0] rfl ?_
    exact hZ95 x1 x3 y13 S11 h1
theorem kp_X11_type_95 {K : xm_K} (h : Nat) (x1 : Int64) (x3 : Int32) (x4 : Int32) (S : xm_S) {g : Int32 → xm_S → Prop} {Ex : String → xm_S → Prop} (C : xm_Cx K cX11_type RX11 6 (some (FieldType.int)) rm_X11_type) (N : xm_Nx K) (hg : ∀ v S, g v S → xm_q K (some (xm_i v)) S) (hEx : ∀ X S, Ex X S → xm_x K X S)  (h1 : wp_X11_type_95 h x1 x3 x4 S g Ex) : xm_W K 0 0 95 [(0, xm_r (some h)), (1, xm_l x1), (3, xm_i x3), (4, xm_i x4)] [] S :=
  h1 (fun x1 x3 x4 S => xm_W K 0 0 95 [(0, xm_r (some h)), (1, xm_l x1), (3, xm_i x3), (4, xm_i x4)] [] S) (fun x1 x3 x4 S hb => kp_X11_type_95B h x1 x3 x4 S C N hg hEx (fun x1 x3 x4 S hz => hz) hb)
def wp_X11_type_24B (h : Nat) (x1 : Int64) (x3 : Int32) (x4 : Int32) (S : xm_S) (g : Int32 → xm_S → Prop) (Ex : String → xm_S → Prop) (Z24 : Int64 → Int32 → Int32 → xm_S → Prop) : Prop :=
  (x3 ≤ x4 → st_t S h = some (11, 0) ∧ ∃ n16, (st_r S h 0) = some n16 ∧ st_t S n16 = some (8, 0) ∧ (((st_i S n16 1) + x3) ≤ (nI 40) → wp_X11_type_95 h x1 x3 (0 : Int32) S g Ex) ∧ (¬ ((st_i S n16 1) + x3) ≤ (nI 40) → Ex xm_eS S)) ∧ (¬ x3 ≤ x4 → wp_X11_signAt x1 x4 S (fun r20 S19 => (r20 < (nI 33) → wp_X11_type_52 h S19 g Ex) ∧ (¬ r20 < (nI 33) → (r20 ≤ (nI 126) → ∀ y21, y21 = (x4 + (1 : Int32)) → Z24 x1 x3 y21 S19) ∧ (¬ r20 ≤ (nI 126) → wp_X11_type_52 h S19 g Ex))))
def wp_X11_type_24 (h : Nat) (x1 : Int64) (x3 : Int32) (x4 : Int32) (S : xm_S) (g : Int32 → xm_S → Prop) (Ex : String → xm_S → Prop) : Prop :=
  ∀ Z24 : Int64 → Int32 → Int32 → xm_S → Prop, (∀ x1 x3 x4 S, wp_X11_type_24B h x1 x3 x4 S g Ex Z24 → Z24 x1 x3 x4 S) → Z24 x1 x3 x4 S
set_option maxRecDepth 100000 in
set_option maxHeartbeats 4000000 in
theorem kp_X11_type_24B {K : xm_K} (h : Nat) (x1 : Int64) (x3 : Int32) (x4 : Int32) (S : xm_S) {g : Int32 → xm_S → Prop} {Ex : String → xm_S → Prop} {Z24 : Int64 → Int32 → Int32 → xm_S → Prop} (C : xm_Cx K cX11_type RX11 6 (some (FieldType.int)) rm_X11_type) (N : xm_Nx K) (hg : ∀ v S, g v S → xm_q K (some (xm_i v)) S) (hEx : ∀ X S, Ex X S → xm_x K X S) (hZ24 : ∀ x1 x3 x4 S, Z24 x1 x3 x4 S → xm_W K 0 0 24 [(0, xm_r (some h)), (1, xm_l x1), (3, xm_i x3), (4, xm_i x4)] [] S) (h1 : wp_X11_type_24B h x1 x3 x4 S g Ex Z24) : xm_W K 0 0 24 [(0, xm_r (some h)), (1, xm_l x1), (3, xm_i x3), (4, xm_i x4)] [] S := by
  unfold wp_X11_type_24B at h1
  refine x_iload C 3 dX11_type_24 rfl ?_
  refine x_iload_n C 2 dX11_type_26 rfl rfl ?_
  refine x_icmp_ge (tgt := 68) C dX11_type_27 (by decide) (fun z9 => ?_) (fun z9 => ?_)
  · have h1 := h1.1 z9
    refine x_aload_n C 0 dX11_type_68 rfl rfl ?_
    obtain ⟨ht15, h1⟩ := h1
    refine x_getf_r (n := h) C rfl ht15 fd_108 (by decide) dX11_type_69 ?_
    obtain ⟨n16, hr17, h1⟩ := h1
    obtain ⟨ht18, h1⟩ := h1
    refine x_getf_i (n := n16) C hr17 ht18 fd_156 (by decide) dX11_type_72 ?_
    refine x_iload_n C 2 dX11_type_75 rfl rfl ?_
    refine x_iadd C dX11_type_76 ?_
    refine x_bipush (v := (nI 40)) C dX11_type_77 (by decide) ?_
    refine x_icmp_le (tgt := 92) C dX11_type_79 (by decide) (fun z9 => ?_) (fun z9 => ?_)
    · have h1 := h1.1 z9
      refine x_iconst (v := (0 : Int32)) C dX11_type_92 (by decide) ?_
      refine x_istore (L' := [(4, xm_i (0 : Int32)), (0, xm_r (some h)), (1, xm_l x1), (3, xm_i x3)]) C dX11_type_93 (by decide) rfl ?_
      refine x_keep (L' := [(0, xm_r (some h)), (1, xm_l x1), (3, xm_i x3), (4, xm_i (0 : Int32))]) C [1, 2, 3, 0] rfl ?_
      exact kp_X11_type_95 h x1 x3 (0 : Int32) S C N hg hEx  h1
    · have h1 := h1.2 z9
      exact x_throw (text := "the tape has at most 40 characters") C N th_S_in th_S_fit gw_329 gw_330 (by decide +kernel) th_S_at th_S_no th_S_ot (Nat.le_of_ble_eq_true rfl) ⟨Nat.le_of_ble_eq_true rfl, Nat.le_of_ble_eq_true rfl, (Nat.le_of_ble_eq_true rfl), (Nat.le_of_ble_eq_true rfl)⟩ dX11_type_82 dX11_type_85 (Or.inl ⟨dX11_type_86, dX11_type_88, dX11_type_91⟩) (hEx _ _ h1)
  · have h1 := h1.2 z9
    refine x_lload_n C 1 dX11_type_30 rfl rfl ?_
    refine x_iload C 3 dX11_type_31 rfl ?_
    refine x_callS (rm' := rm_X11_signAt) C (kp_X11_signAt_met h1) lk_84 gw_520 rfl (Nat.le_of_ble_eq_true rfl) ⟨Nat.le_of_ble_eq_true rfl, Nat.le_of_ble_eq_true rfl, (Nat.le_of_ble_eq_true rfl), (Nat.le_of_ble_eq_true rfl)⟩ dX11_type_33 xm_kx (xm_ki (fun r20 S19 h1 => ?_))
    refine x_istore (L' := [(5, xm_i r20), (0, xm_r (some h)), (1, xm_l x1), (3, xm_i x3), (4, xm_i x4)]) C dX11_type_36 (by decide) rfl ?_
    refine x_iload C 0 dX11_type_38 rfl ?_
    refine x_bipush (v := (nI 33)) C dX11_type_40 (by decide) ?_
    refine x_icmp_lt (tgt := 52) C dX11_type_42 (by decide) (fun z9 => ?_) (fun z9 => ?_)
    · have h1 := h1.1 z9
      refine x_keep (L' := []) C [] rfl ?_
      exact kp_X11_type_52 h S19 C N hg hEx  h1
    · have h1 := h1.2 z9
      refine x_iload C 0 dX11_type_45 rfl ?_
      refine x_bipush (v := (nI 126)) C dX11_type_47 (by decide) ?_
      refine x_icmp_le (tgt := 62) C dX11_type_49 (by decide) (fun z9 => ?_) (fun z9 => ?_)
      · have h1 := h1.1 z9
        obtain ⟨y21, e22⟩ : ∃ y21, y21 = (x4 + (1 : Int32)) := ⟨_, rfl⟩
        have h1 := h1 y21 e22
        refine x_iinc (v := y21) (L' := [(4, xm_i y21), (5, xm_i r20), (0, xm_r (some h)), (1, xm_l x1), (3, xm_i x3)]) C 4 dX11_type_62 rfl (by rw [e22]; rfl) (by decide) rfl ?_
        refine x_goto (tgt := 24) C dX11_type_65 (by decide) ?_
        refine x_keep (L' := [(0, xm_r (some h)), (1, xm_l x1), (3, xm_i x3), (4, xm_i y21)]) C [2, 3, 4, 0] rfl ?_
        exact hZ24 x1 x3 y21 S19 h1
      · have h1 := h1.2 z9
        refine x_keep (L' := []) C [] rfl ?_
        exact kp_X11_type_52 h S19 C N hg hEx  h1
theorem kp_X11_type_24 {K : xm_K} (h : Nat) (x1 : Int64) (x3 : Int32) (x4 : Int32) (S : xm_S) {g : Int32 → xm_S → Prop} {Ex : String → xm_S → Prop} (C : xm_Cx K cX11_type RX11 6 (some (FieldType.int)) rm_X11_type) (N : xm_Nx K) (hg : ∀ v S, g v S → xm_q K (some (xm_i v)) S) (hEx : ∀ X S, Ex X S → xm_x K X S)  (h1 : wp_X11_type_24 h x1 x3 x4 S g Ex) : xm_W K 0 0 24 [(0, xm_r (some h)), (1, xm_l x1), (3, xm_i x3), (4, xm_i x4)] [] S :=
  h1 (fun x1 x3 x4 S => xm_W K 0 0 24 [(0, xm_r (some h)), (1, xm_l x1), (3, xm_i x3), (4, xm_i x4)] [] S) (fun x1 x3 x4 S hb => kp_X11_type_24B h x1 x3 x4 S C N hg hEx (fun x1 x3 x4 S hz => hz) hb)
def wp_X11_type (h : Nat) (x1 : Int64) (x3 : Int32) (S : xm_S) (g : Int32 → xm_S → Prop) (Ex : String → xm_S → Prop) : Prop :=
  (x3 < (1 : Int32) → wp_X11_type_11 h S g Ex) ∧ (¬ x3 < (1 : Int32) → (x3 ≤ (nI 8) → wp_X11_type_24 h x1 x3 (0 : Int32) S g Ex) ∧ (¬ x3 ≤ (nI 8) → wp_X11_type_11 h S g Ex))
set_option maxRecDepth 100000 in
set_option maxHeartbeats 4000000 in
theorem kp_X11_type {K : xm_K} (h : Nat) (x1 : Int64) (x3 : Int32) (S : xm_S) {g : Int32 → xm_S → Prop} {Ex : String → xm_S → Prop} (C : xm_Cx K cX11_type RX11 6 (some (FieldType.int)) rm_X11_type) (N : xm_Nx K) (hg : ∀ v S, g v S → xm_q K (some (xm_i v)) S) (hEx : ∀ X S, Ex X S → xm_x K X S)  (h1 : wp_X11_type h x1 x3 S g Ex) : xm_W K 0 0 0 [(0, xm_r (some h)), (1, xm_l x1), (3, xm_i x3)] [] S := by
  unfold wp_X11_type at h1
  refine x_iload_n C 2 dX11_type_0 rfl rfl ?_
  refine x_iconst (v := (1 : Int32)) C dX11_type_1 (by decide) ?_
  refine x_icmp_lt (tgt := 11) C dX11_type_2 (by decide) (fun z9 => ?_) (fun z9 => ?_)
  · have h1 := h1.1 z9
    refine x_keep (L' := []) C [] rfl ?_
    exact kp_X11_type_11 h S C N hg hEx  h1
  · have h1 := h1.2 z9
    refine x_iload_n C 2 dX11_type_5 rfl rfl ?_
    refine x_bipush (v := (nI 8)) C dX11_type_6 (by decide) ?_
    refine x_icmp_le (tgt := 21) C dX11_type_8 (by decide) (fun z9 => ?_) (fun z9 => ?_)
    · have h1 := h1.1 z9
      refine x_iconst (v := (0 : Int32)) C dX11_type_21 (by decide) ?_
      refine x_istore (L' := [(4, xm_i (0 : Int32)), (0, xm_r (some h)), (1, xm_l x1), (3, xm_i x3)]) C dX11_type_22 (by decide) rfl ?_
      refine x_keep (L' := [(0, xm_r (some h)), (1, xm_l x1), (3, xm_i x3), (4, xm_i (0 : Int32))]) C [1, 2, 3, 0] rfl ?_
      exact kp_X11_type_24 h x1 x3 (0 : Int32) S C N hg hEx  h1
    · have h1 := h1.2 z9
      refine x_keep (L' := []) C [] rfl ?_
      exact kp_X11_type_11 h S C N hg hEx  h1
theorem kp_X11_type_met {h : Nat} {x1 : Int64} {x3 : Int32} {S : xm_S} {g : Int32 → xm_S → Prop} {Ex : String → xm_S → Prop}  (h1 : wp_X11_type h x1 x3 S g Ex) : xm_Met yX11_type cX11_type 6 (some (FieldType.int)) rm_X11_type [xm_r (some h), xm_l x1, xm_i x3] S (xm_qi g) Ex :=
  xm_ofW RX11 (by decide +kernel) rfl (Nat.le_of_ble_eq_true rfl) (fun K C N hq hx hi => kp_X11_type h x1 x3 S C N (fun v S h => by rw [hq]; exact ⟨v, rfl, h⟩) (fun X S h => by rw [hx]; exact h)  h1)
def rm_X11_unwish : Room := { frames := 1, cells := 0, slots := 0, locals := 20 }
theorem dX11_unwish_0 : decode cX11_unwish 0 = .ok (.aload_n 0, 1) := by decide +kernel
theorem dX11_unwish_1 : decode cX11_unwish 1 = .ok (.getfield 28, 3) := by decide +kernel
theorem dX11_unwish_4 : decode cX11_unwish 4 = .ok (.istore_n 1, 1) := by decide +kernel
theorem dX11_unwish_5 : decode cX11_unwish 5 = .ok (.aload_n 0, 1) := by decide +kernel
theorem dX11_unwish_6 : decode cX11_unwish 6 = .ok (.iconst 0, 1) := by decide +kernel
theorem dX11_unwish_7 : decode cX11_unwish 7 = .ok (.putfield 28, 3) := by decide +kernel
theorem dX11_unwish_10 : decode cX11_unwish 10 = .ok (.iload_n 1, 1) := by decide +kernel
theorem dX11_unwish_11 : decode cX11_unwish 11 = .ok (.ireturn, 1) := by decide +kernel
def wp_X11_unwish (h : Nat)  (S : xm_S) (g : Int32 → xm_S → Prop) : Prop :=
  st_t S h = some (11, 0) ∧ ∀ S2, S2 = st_pi S h 3 (0 : Int32) → g (st_i S h 3) S2
set_option maxRecDepth 100000 in
set_option maxHeartbeats 4000000 in
theorem kp_X11_unwish {K : xm_K} (h : Nat)  (S : xm_S) {g : Int32 → xm_S → Prop} (C : xm_Cx K cX11_unwish RX11 2 (some (FieldType.int)) rm_X11_unwish) (N : xm_Nx K) (hg : ∀ v S, g v S → xm_q K (some (xm_i v)) S)  (h1 : wp_X11_unwish h  S g) : xm_W K 0 0 0 [(0, xm_r (some h))] [] S := by
  unfold wp_X11_unwish at h1
  refine x_aload_n C 0 dX11_unwish_0 rfl rfl ?_
  obtain ⟨ht1, h1⟩ := h1
  refine x_getf_i (n := h) C rfl ht1 fd_119 (by decide) dX11_unwish_1 ?_
  refine x_istore_n (L' := [(1, xm_i (st_i S h 3)), (0, xm_r (some h))]) C dX11_unwish_4 rfl (by decide) rfl ?_
  refine x_aload_n C 1 dX11_unwish_5 rfl rfl ?_
  refine x_iconst (v := (0 : Int32)) C dX11_unwish_6 (by decide) ?_
  refine x_putf_i (n := h) C rfl ht1 fd_119 xc_11 (by decide) rfl ⟨rfl, rfl⟩ dX11_unwish_7 ?_
  refine x_topS (fun S2 e3 => ?_)
  have h1 := h1 S2 e3
  refine x_iload_n C 0 dX11_unwish_10 rfl rfl ?_
  exact x_iret C (Nat.le_of_ble_eq_true rfl) (Nat.le_of_ble_eq_true rfl) rfl dX11_unwish_11 (hg _ _ h1)
theorem kp_X11_unwish_met {h : Nat}  {S : xm_S} {g : Int32 → xm_S → Prop}  (h1 : wp_X11_unwish h  S g) : xm_Met yX11_unwish cX11_unwish 2 (some (FieldType.int)) rm_X11_unwish [xm_r (some h)] S (xm_qi g) xm_nox :=
  xm_ofW RX11 (by decide +kernel) rfl (Nat.le_of_ble_eq_true rfl) (fun K C N hq hx hi => kp_X11_unwish h  S C N (fun v S h => by rw [hq]; exact ⟨v, rfl, h⟩)  h1)
def rm_X11_version : Room := { frames := 7, cells := 15, slots := 76, locals := 122 }
theorem dX11_version_0 : decode cX11_version 0 = .ok (.iload_n 1, 1) := by decide +kernel
theorem dX11_version_1 : decode cX11_version 1 = .ok (.invokestatic 122, 3) := by decide +kernel
theorem dX11_version_4 : decode cX11_version 4 = .ok (.iload_n 2, 1) := by decide +kernel
theorem dX11_version_5 : decode cX11_version 5 = .ok (.iconst 0, 1) := by decide +kernel
theorem dX11_version_6 : decode cX11_version 6 = .ok (.ldc 131, 2) := by decide +kernel
theorem dX11_version_8 : decode cX11_version 8 = .ok (.invokestatic 132, 3) := by decide +kernel
theorem dX11_version_11 : decode cX11_version 11 = .ok (.iload_n 3, 1) := by decide +kernel
theorem dX11_version_12 : decode cX11_version 12 = .ok (.iconst 0, 1) := by decide +kernel
theorem dX11_version_13 : decode cX11_version 13 = .ok (.bipush 15, 2) := by decide +kernel
theorem dX11_version_15 : decode cX11_version 15 = .ok (.invokestatic 132, 3) := by decide +kernel
theorem dX11_version_18 : decode cX11_version 18 = .ok (.iload 4, 2) := by decide +kernel
theorem dX11_version_20 : decode cX11_version 20 = .ok (.iconst 0, 1) := by decide +kernel
theorem dX11_version_21 : decode cX11_version 21 = .ok (.iconst 3, 1) := by decide +kernel
theorem dX11_version_22 : decode cX11_version 22 = .ok (.invokestatic 132, 3) := by decide +kernel
theorem dX11_version_25 : decode cX11_version 25 = .ok (.iload 5, 2) := by decide +kernel
theorem dX11_version_27 : decode cX11_version 27 = .ok (.iconst 0, 1) := by decide +kernel
theorem dX11_version_28 : decode cX11_version 28 = .ok (.sipush 999, 3) := by decide +kernel
theorem dX11_version_31 : decode cX11_version 31 = .ok (.invokestatic 132, 3) := by decide +kernel
theorem dX11_version_34 : decode cX11_version 34 = .ok (.aload_n 0, 1) := by decide +kernel
theorem dX11_version_35 : decode cX11_version 35 = .ok (.getfield 18, 3) := by decide +kernel
theorem dX11_version_38 : decode cX11_version 38 = .ok (.iload_n 1, 1) := by decide +kernel
theorem dX11_version_39 : decode cX11_version 39 = .ok (.aaload, 1) := by decide +kernel
theorem dX11_version_40 : decode cX11_version 40 = .ok (.astore 6, 2) := by decide +kernel
theorem dX11_version_42 : decode cX11_version 42 = .ok (.aload 6, 2) := by decide +kernel
theorem dX11_version_44 : decode cX11_version 44 = .ok (.getfield 136, 3) := by decide +kernel
theorem dX11_version_47 : decode cX11_version 47 = .ok (.iconst 4, 1) := by decide +kernel
theorem dX11_version_48 : decode cX11_version 48 = .ok (.invokestatic 139, 3) := by decide +kernel
theorem dX11_version_51 : decode cX11_version 51 = .ok (.aload 6, 2) := by decide +kernel
theorem dX11_version_53 : decode cX11_version 53 = .ok (.getfield 143, 3) := by decide +kernel
theorem dX11_version_56 : decode cX11_version 56 = .ok (.aload 6, 2) := by decide +kernel
theorem dX11_version_58 : decode cX11_version 58 = .ok (.getfield 136, 3) := by decide +kernel
theorem dX11_version_61 : decode cX11_version 61 = .ok (.new 147, 3) := by decide +kernel
theorem dX11_version_64 : decode cX11_version 64 = .ok (.dup, 1) := by decide +kernel
theorem dX11_version_65 : decode cX11_version 65 = .ok (.iload_n 2, 1) := by decide +kernel
theorem dX11_version_66 : decode cX11_version 66 = .ok (.iload_n 3, 1) := by decide +kernel
theorem dX11_version_67 : decode cX11_version 67 = .ok (.iload 4, 2) := by decide +kernel
theorem dX11_version_69 : decode cX11_version 69 = .ok (.iload 5, 2) := by decide +kernel
theorem dX11_version_71 : decode cX11_version 71 = .ok (.invokespecial 149, 3) := by decide +kernel
theorem dX11_version_74 : decode cX11_version 74 = .ok (.aastore, 1) := by decide +kernel
theorem dX11_version_75 : decode cX11_version 75 = .ok (.aload 6, 2) := by decide +kernel
theorem dX11_version_77 : decode cX11_version 77 = .ok (.dup, 1) := by decide +kernel
theorem dX11_version_78 : decode cX11_version 78 = .ok (.getfield 136, 3) := by decide +kernel
theorem dX11_version_81 : decode cX11_version 81 = .ok (.iconst 1, 1) := by decide +kernel
theorem dX11_version_82 : decode cX11_version 82 = .ok (.iadd, 1) := by decide +kernel
theorem dX11_version_83 : decode cX11_version 83 = .ok (.putfield 136, 3) := by decide +kernel
theorem dX11_version_86 : decode cX11_version 86 = .ok (.aload 6, 2) := by decide +kernel
theorem dX11_version_88 : decode cX11_version 88 = .ok (.getfield 136, 3) := by decide +kernel
theorem dX11_version_91 : decode cX11_version 91 = .ok (.iconst 1, 1) := by decide +kernel
theorem dX11_version_92 : decode cX11_version 92 = .ok (.isub, 1) := by decide +kernel
theorem dX11_version_93 : decode cX11_version 93 = .ok (.ireturn, 1) := by decide +kernel
def wp_X11_version (h : Nat) (x1 : Int32) (x2 : Int32) (x3 : Int32) (x4 : Int32) (x5 : Int32) (S : xm_S) (g : Int32 → xm_S → Prop) (Ex : String → xm_S → Prop) : Prop :=
  wp_X11_checkPack x1 S (fun S1 => wp_X11_checkRange x2 (0 : Int32) (nI 99999) S1 (fun S3 => wp_X11_checkRange x3 (0 : Int32) (nI 15) S3 (fun S5 => wp_X11_checkRange x4 (0 : Int32) (nI 3) S5 (fun S7 => wp_X11_checkRange x5 (0 : Int32) (nI 999) S7 (fun S9 => st_t S9 h = some (11, 0) ∧ ∃ n12, (st_r S9 h 1) = some n12 ∧ ∃ z15, st_t S9 n12 = some (115, z15) ∧ vp_in x1 z15 ∧ ∃ n17, (st_r S9 n12 (x1).toNatClampNeg) = some n17 ∧ st_t S9 n17 = some (5, 0) ∧ wp_X11_checkRoom (st_i S9 n17 2) (nI 4) S9 (fun S20 => ∃ n22, (st_r S9 n12 (x1).toNatClampNeg) = some n22 ∧ st_t S20 n22 = some (5, 0) ∧ ∃ n25, (st_r S9 n12 (x1).toNatClampNeg) = some n25 ∧ st_t S20 n25 = some (5, 0) ∧ ∃ n28, st_t S20 n28 = none ∧ ∀ S30, S30 = st_nw S20 n28 (10, 0) → wp_X10_init n28 x2 x3 x4 x5 S30 (fun S32 => ∃ n34, (st_r S20 n22 1) = some n34 ∧ ∃ z37, st_t S32 n34 = some (120, z37) ∧ vp_in (st_i S20 n25 2) z37 ∧ (∀ v9, (some n28) = some v9 → st_t S32 v9 = some (10, 0)) ∧ ∀ S40, S40 = st_pr S32 n34 ((st_i S20 n25 2)).toNatClampNeg (some n28) → ∃ n42, (st_r S9 n12 (x1).toNatClampNeg) = some n42 ∧ st_t S40 n42 = some (5, 0) ∧ ∃ n45, (st_r S9 n12 (x1).toNatClampNeg) = some n45 ∧ st_t S40 n45 = some (5, 0) ∧ ∀ S48, S48 = st_pi S40 n45 2 ((st_i S40 n42 2) + (1 : Int32)) → ∃ n50, (st_r S9 n12 (x1).toNatClampNeg) = some n50 ∧ st_t S48 n50 = some (5, 0) ∧ g ((st_i S48 n50 2) - (1 : Int32)) S48)) Ex) Ex) Ex) Ex) Ex) Ex
set_option maxRecDepth 100000 in
set_option maxHeartbeats 4000000 in
theorem kp_X11_version {K : xm_K} (h : Nat) (x1 : Int32) (x2 : Int32) (x3 : Int32) (x4 : Int32) (x5 : Int32) (S : xm_S) {g : Int32 → xm_S → Prop} {Ex : String → xm_S → Prop} (C : xm_Cx K cX11_version RX11 7 (some (FieldType.int)) rm_X11_version) (N : xm_Nx K) (hg : ∀ v S, g v S → xm_q K (some (xm_i v)) S) (hEx : ∀ X S, Ex X S → xm_x K X S)  (h1 : wp_X11_version h x1 x2 x3 x4 x5 S g Ex) : xm_W K 0 0 0 [(0, xm_r (some h)), (1, xm_i x1), (2, xm_i x2), (3, xm_i x3), (4, xm_i x4), (5, xm_i x5)] [] S := by
  unfold wp_X11_version at h1
  refine x_iload_n C 1 dX11_version_0 rfl rfl ?_
  refine x_callS (rm' := rm_X11_checkPack) C (kp_X11_checkPack_met h1) lk_50 gw_336 rfl (Nat.le_of_ble_eq_true rfl) ⟨Nat.le_of_ble_eq_true rfl, Nat.le_of_ble_eq_true rfl, (Nat.le_of_ble_eq_true rfl), (Nat.le_of_ble_eq_true rfl)⟩ dX11_version_1 (fun X9 S9 hx9 => x_thru C N (Nat.le_of_ble_eq_true rfl) (Nat.le_of_ble_eq_true rfl) (hEx _ _ hx9)) (xm_kv (fun S1 h1 => ?_))
  refine x_iload_n C 2 dX11_version_4 rfl rfl ?_
  refine x_iconst (v := (0 : Int32)) C dX11_version_5 (by decide) ?_
  refine x_ldc (v := nI 99999) C gw_499 dX11_version_6 ?_
  refine x_callS (rm' := rm_X11_checkRange) C (kp_X11_checkRange_met h1) lk_51 gw_339 rfl (Nat.le_of_ble_eq_true rfl) ⟨Nat.le_of_ble_eq_true rfl, Nat.le_of_ble_eq_true rfl, (Nat.le_of_ble_eq_true rfl), (Nat.le_of_ble_eq_true rfl)⟩ dX11_version_8 (fun X9 S9 hx9 => x_thru C N (Nat.le_of_ble_eq_true rfl) (Nat.le_of_ble_eq_true rfl) (hEx _ _ hx9)) (xm_kv (fun S3 h1 => ?_))
  refine x_iload_n C 3 dX11_version_11 rfl rfl ?_
  refine x_iconst (v := (0 : Int32)) C dX11_version_12 (by decide) ?_
  refine x_bipush (v := (nI 15)) C dX11_version_13 (by decide) ?_
  refine x_callS (rm' := rm_X11_checkRange) C (kp_X11_checkRange_met h1) lk_51 gw_339 rfl (Nat.le_of_ble_eq_true rfl) ⟨Nat.le_of_ble_eq_true rfl, Nat.le_of_ble_eq_true rfl, (Nat.le_of_ble_eq_true rfl), (Nat.le_of_ble_eq_true rfl)⟩ dX11_version_15 (fun X9 S9 hx9 => x_thru C N (Nat.le_of_ble_eq_true rfl) (Nat.le_of_ble_eq_true rfl) (hEx _ _ hx9)) (xm_kv (fun S5 h1 => ?_))
  refine x_iload C 4 dX11_version_18 rfl ?_
  refine x_iconst (v := (0 : Int32)) C dX11_version_20 (by decide) ?_
  refine x_iconst (v := (nI 3)) C dX11_version_21 (by decide) ?_
  refine x_callS (rm' := rm_X11_checkRange) C (kp_X11_checkRange_met h1) lk_51 gw_339 rfl (Nat.le_of_ble_eq_true rfl) ⟨Nat.le_of_ble_eq_true rfl, Nat.le_of_ble_eq_true rfl, (Nat.le_of_ble_eq_true rfl), (Nat.le_of_ble_eq_true rfl)⟩ dX11_version_22 (fun X9 S9 hx9 => x_thru C N (Nat.le_of_ble_eq_true rfl) (Nat.le_of_ble_eq_true rfl) (hEx _ _ hx9)) (xm_kv (fun S7 h1 => ?_))
  refine x_iload C 5 dX11_version_25 rfl ?_
  refine x_iconst (v := (0 : Int32)) C dX11_version_27 (by decide) ?_
  refine x_sipush (v := (nI 999)) C dX11_version_28 (by decide) ?_
  refine x_callS (rm' := rm_X11_checkRange) C (kp_X11_checkRange_met h1) lk_51 gw_339 rfl (Nat.le_of_ble_eq_true rfl) ⟨Nat.le_of_ble_eq_true rfl, Nat.le_of_ble_eq_true rfl, (Nat.le_of_ble_eq_true rfl), (Nat.le_of_ble_eq_true rfl)⟩ dX11_version_31 (fun X9 S9 hx9 => x_thru C N (Nat.le_of_ble_eq_true rfl) (Nat.le_of_ble_eq_true rfl) (hEx _ _ hx9)) (xm_kv (fun S9 h1 => ?_))
  refine x_aload_n C 0 dX11_version_34 rfl rfl ?_
  obtain ⟨ht11, h1⟩ := h1
  refine x_getf_r (n := h) C rfl ht11 fd_111 (by decide) dX11_version_35 ?_
  refine x_iload_n C 1 dX11_version_38 rfl rfl ?_
  obtain ⟨n12, hr13, h1⟩ := h1
  obtain ⟨z15, ht14, h1⟩ := h1
  obtain ⟨hi16, h1⟩ := h1
  refine x_aald (n := n12) C hr13 (by decide) rfl ht14 hi16 dX11_version_39 ?_
  refine x_astore (L' := [(6, xm_r (st_r S9 n12 (x1).toNatClampNeg)), (0, xm_r (some h)), (1, xm_i x1), (2, xm_i x2), (3, xm_i x3), (4, xm_i x4), (5, xm_i x5)]) C dX11_version_40 (by decide) rfl ?_
  refine x_aload C 0 dX11_version_42 rfl ?_
  obtain ⟨n17, hr18, h1⟩ := h1
  obtain ⟨ht19, h1⟩ := h1
  refine x_getf_i (n := n17) C hr18 ht19 fd_122 (by decide) dX11_version_44 ?_
  refine x_iconst (v := (nI 4)) C dX11_version_47 (by decide) ?_
  refine x_callS (rm' := rm_X11_checkRoom) C (kp_X11_checkRoom_met h1) lk_53 gw_347 rfl (Nat.le_of_ble_eq_true rfl) ⟨Nat.le_of_ble_eq_true rfl, Nat.le_of_ble_eq_true rfl, (Nat.le_of_ble_eq_true rfl), (Nat.le_of_ble_eq_true rfl)⟩ dX11_version_48 (fun X9 S9 hx9 => x_thru C N (Nat.le_of_ble_eq_true rfl) (Nat.le_of_ble_eq_true rfl) (hEx _ _ hx9)) (xm_kv (fun S20 h1 => ?_))
  refine x_aload C 0 dX11_version_51 rfl ?_
  obtain ⟨n22, hr23, h1⟩ := h1
  obtain ⟨ht24, h1⟩ := h1
  refine x_getf_r (n := n22) C hr23 ht24 fd_112 (by decide) dX11_version_53 ?_
  refine x_aload C 0 dX11_version_56 rfl ?_
  obtain ⟨n25, hr26, h1⟩ := h1
  obtain ⟨ht27, h1⟩ := h1
  refine x_getf_i (n := n25) C hr26 ht27 fd_122 (by decide) dX11_version_58 ?_
  obtain ⟨n28, hn29, h1⟩ := h1
  refine x_new (n := n28) C xc_10 gw_525 hn29 (Nat.le_of_ble_eq_true rfl) (Nat.le_of_ble_eq_true rfl) dX11_version_61 ?_
  refine x_topS (fun S30 e31 => ?_)
  have h1 := h1 S30 e31
  refine x_dup_r C dX11_version_64 ?_
  refine x_iload_n C 3 dX11_version_65 rfl rfl ?_
  refine x_iload_n C 4 dX11_version_66 rfl rfl ?_
  refine x_iload C 5 dX11_version_67 rfl ?_
  refine x_iload C 6 dX11_version_69 rfl ?_
  refine x_callI (rm' := rm_X10_init) (n := n28) C (kp_X10_init_met h1) lk_86 gw_528 rfl rfl rfl (Nat.le_of_ble_eq_true rfl) ⟨Nat.le_of_ble_eq_true rfl, Nat.le_of_ble_eq_true rfl, (Nat.le_of_ble_eq_true rfl), (Nat.le_of_ble_eq_true rfl)⟩ dX11_version_71 xm_kx (xm_kv (fun S32 h1 => ?_))
  obtain ⟨n34, hr35, h1⟩ := h1
  obtain ⟨z37, ht36, h1⟩ := h1
  obtain ⟨hi38, h1⟩ := h1
  obtain ⟨hv39, h1⟩ := h1
  refine x_aast (n := n34) (ci := 10) C hr35 (by decide) rfl rfl ht36 hi38 hv39 dX11_version_74 ?_
  refine x_topS (fun S40 e41 => ?_)
  have h1 := h1 S40 e41
  refine x_aload C 0 dX11_version_75 rfl ?_
  refine x_dup_r C dX11_version_77 ?_
  obtain ⟨n42, hr43, h1⟩ := h1
  obtain ⟨ht44, h1⟩ := h1
  refine x_getf_i (n := n42) C hr43 ht44 fd_122 (by decide) dX11_version_78 ?_
  refine x_iconst (v := (1 : Int32)) C dX11_version_81 (by decide) ?_
  refine x_iadd C dX11_version_82 ?_
  obtain ⟨n45, hr46, h1⟩ := h1
  obtain ⟨ht47, h1⟩ := h1
  refine x_putf_i (n := n45) C hr46 ht47 fd_122 xc_5 (by decide) rfl ⟨rfl, rfl⟩ dX11_version_83 ?_
  refine x_topS (fun S48 e49 => ?_)
  have h1 := h1 S48 e49
  refine x_aload C 0 dX11_version_86 rfl ?_
  obtain ⟨n50, hr51, h1⟩ := h1
  obtain ⟨ht52, h1⟩ := h1
  refine x_getf_i (n := n50) C hr51 ht52 fd_122 (by decide) dX11_version_88 ?_
  refine x_iconst (v := (1 : Int32)) C dX11_version_91 (by decide) ?_
  refine x_isub C dX11_version_92 ?_
  exact x_iret C (Nat.le_of_ble_eq_true rfl) (Nat.le_of_ble_eq_true rfl) rfl dX11_version_93 (hg _ _ h1)
theorem kp_X11_version_met {h : Nat} {x1 : Int32} {x2 : Int32} {x3 : Int32} {x4 : Int32} {x5 : Int32} {S : xm_S} {g : Int32 → xm_S → Prop} {Ex : String → xm_S → Prop}  (h1 : wp_X11_version h x1 x2 x3 x4 x5 S g Ex) : xm_Met yX11_version cX11_version 7 (some (FieldType.int)) rm_X11_version [xm_r (some h), xm_i x1, xm_i x2, xm_i x3, xm_i x4, xm_i x5] S (xm_qi g) Ex :=
  xm_ofW RX11 (by decide +kernel) rfl (Nat.le_of_ble_eq_true rfl) (fun K C N hq hx hi => kp_X11_version h x1 x2 x3 x4 x5 S C N (fun v S h => by rw [hq]; exact ⟨v, rfl, h⟩) (fun X S h => by rw [hx]; exact h)  h1)
def rm_X11_wipe : Room := { frames := 2, cells := 0, slots := 0, locals := 40 }
theorem dX11_wipe_0 : decode cX11_wipe 0 = .ok (.aload_n 0, 1) := by decide +kernel
theorem dX11_wipe_1 : decode cX11_wipe 1 = .ok (.getfield 12, 3) := by decide +kernel
theorem dX11_wipe_4 : decode cX11_wipe 4 = .ok (.getfield 103, 3) := by decide +kernel
theorem dX11_wipe_7 : decode cX11_wipe 7 = .ok (.istore_n 1, 1) := by decide +kernel
theorem dX11_wipe_8 : decode cX11_wipe 8 = .ok (.aload_n 0, 1) := by decide +kernel
theorem dX11_wipe_9 : decode cX11_wipe 9 = .ok (.getfield 12, 3) := by decide +kernel
theorem dX11_wipe_12 : decode cX11_wipe 12 = .ok (.invokevirtual 115, 3) := by decide +kernel
theorem dX11_wipe_15 : decode cX11_wipe 15 = .ok (.iload_n 1, 1) := by decide +kernel
theorem dX11_wipe_16 : decode cX11_wipe 16 = .ok (.ireturn, 1) := by decide +kernel
def wp_X11_wipe (h : Nat)  (S : xm_S) (g : Int32 → xm_S → Prop) : Prop :=
  st_t S h = some (11, 0) ∧ ∃ n2, (st_r S h 0) = some n2 ∧ st_t S n2 = some (8, 0) ∧ ∃ n5, (st_r S h 0) = some n5 ∧ st_t S n5 = some (8, 0) ∧ wp_X8_clear n5 S (fun S8 => g (st_i S n2 1) S8)
set_option maxRecDepth 100000 in
set_option maxHeartbeats 4000000 in
theorem kp_X11_wipe {K : xm_K} (h : Nat)  (S : xm_S) {g : Int32 → xm_S → Prop} (C : xm_Cx K cX11_wipe RX11 2 (some (FieldType.int)) rm_X11_wipe) (N : xm_Nx K) (hg : ∀ v S, g v S → xm_q K (some (xm_i v)) S)  (h1 : wp_X11_wipe h  S g) : xm_W K 0 0 0 [(0, xm_r (some h))] [] S := by
  unfold wp_X11_wipe at h1
  refine x_aload_n C 0 dX11_wipe_0 rfl rfl ?_
  obtain ⟨ht1, h1⟩ := h1
  refine x_getf_r (n := h) C rfl ht1 fd_108 (by decide) dX11_wipe_1 ?_
  obtain ⟨n2, hr3, h1⟩ := h1
  obtain ⟨ht4, h1⟩ := h1
  refine x_getf_i (n := n2) C hr3 ht4 fd_156 (by decide) dX11_wipe_4 ?_
  refine x_istore_n (L' := [(1, xm_i (st_i S n2 1)), (0, xm_r (some h))]) C dX11_wipe_7 rfl (by decide) rfl ?_
  refine x_aload_n C 1 dX11_wipe_8 rfl rfl ?_
  refine x_getf_r (n := h) C rfl ht1 fd_108 (by decide) dX11_wipe_9 ?_
  obtain ⟨n5, hr6, h1⟩ := h1
  obtain ⟨ht7, h1⟩ := h1
  refine x_callV (rm' := rm_X8_clear) (n := n5) C (kp_X8_clear_met h1) lk_55 gw_356 gw_357 xv_8 rfl hr6 ht7 rfl (Nat.le_of_ble_eq_true rfl) ⟨Nat.le_of_ble_eq_true rfl, Nat.le_of_ble_eq_true rfl, (Nat.le_of_ble_eq_true rfl), (Nat.le_of_ble_eq_true rfl)⟩ dX11_wipe_12 xm_kx (xm_kv (fun S8 h1 => ?_))
  refine x_iload_n C 0 dX11_wipe_15 rfl rfl ?_
  exact x_iret C (Nat.le_of_ble_eq_true rfl) (Nat.le_of_ble_eq_true rfl) rfl dX11_wipe_16 (hg _ _ h1)
theorem kp_X11_wipe_met {h : Nat}  {S : xm_S} {g : Int32 → xm_S → Prop}  (h1 : wp_X11_wipe h  S g) : xm_Met yX11_wipe cX11_wipe 2 (some (FieldType.int)) rm_X11_wipe [xm_r (some h)] S (xm_qi g) xm_nox :=
  xm_ofW RX11 (by decide +kernel) rfl (Nat.le_of_ble_eq_true rfl) (fun K C N hq hx hi => kp_X11_wipe h  S C N (fun v S h => by rw [hq]; exact ⟨v, rfl, h⟩)  h1)
def rm_X11_wish : Room := { frames := 7, cells := 135, slots := 480, locals := 150 }
theorem dX11_wish_0 : decode cX11_wish 0 = .ok (.iload_n 1, 1) := by decide +kernel
theorem dX11_wish_1 : decode cX11_wish 1 = .ok (.invokestatic 122, 3) := by decide +kernel
theorem dX11_wish_4 : decode cX11_wish 4 = .ok (.iload_n 2, 1) := by decide +kernel
theorem dX11_wish_5 : decode cX11_wish 5 = .ok (.iconst 0, 1) := by decide +kernel
theorem dX11_wish_6 : decode cX11_wish 6 = .ok (.bipush 15, 2) := by decide +kernel
theorem dX11_wish_8 : decode cX11_wish 8 = .ok (.invokestatic 132, 3) := by decide +kernel
theorem dX11_wish_11 : decode cX11_wish 11 = .ok (.aload_n 0, 1) := by decide +kernel
theorem dX11_wish_12 : decode cX11_wish 12 = .ok (.invokevirtual 161, 3) := by decide +kernel
theorem dX11_wish_15 : decode cX11_wish 15 = .ok (.astore_n 3, 1) := by decide +kernel
theorem dX11_wish_16 : decode cX11_wish 16 = .ok (.aload_n 0, 1) := by decide +kernel
theorem dX11_wish_17 : decode cX11_wish 17 = .ok (.getfield 28, 3) := by decide +kernel
theorem dX11_wish_20 : decode cX11_wish 20 = .ok (.iconst 4, 1) := by decide +kernel
theorem dX11_wish_21 : decode cX11_wish 21 = .ok (.invokestatic 139, 3) := by decide +kernel
theorem dX11_wish_24 : decode cX11_wish 24 = .ok (.aload_n 0, 1) := by decide +kernel
theorem dX11_wish_25 : decode cX11_wish 25 = .ok (.getfield 24, 3) := by decide +kernel
theorem dX11_wish_28 : decode cX11_wish 28 = .ok (.aload_n 0, 1) := by decide +kernel
theorem dX11_wish_29 : decode cX11_wish 29 = .ok (.getfield 28, 3) := by decide +kernel
theorem dX11_wish_32 : decode cX11_wish 32 = .ok (.new 22, 3) := by decide +kernel
theorem dX11_wish_35 : decode cX11_wish 35 = .ok (.dup, 1) := by decide +kernel
theorem dX11_wish_36 : decode cX11_wish 36 = .ok (.iload_n 1, 1) := by decide +kernel
theorem dX11_wish_37 : decode cX11_wish 37 = .ok (.aload_n 3, 1) := by decide +kernel
theorem dX11_wish_38 : decode cX11_wish 38 = .ok (.iload_n 2, 1) := by decide +kernel
theorem dX11_wish_39 : decode cX11_wish 39 = .ok (.bipush 7, 2) := by decide +kernel
theorem dX11_wish_41 : decode cX11_wish 41 = .ok (.iconst (-1), 1) := by decide +kernel
theorem dX11_wish_42 : decode cX11_wish 42 = .ok (.invokespecial 171, 3) := by decide +kernel
theorem dX11_wish_45 : decode cX11_wish 45 = .ok (.aastore, 1) := by decide +kernel
theorem dX11_wish_46 : decode cX11_wish 46 = .ok (.aload_n 0, 1) := by decide +kernel
theorem dX11_wish_47 : decode cX11_wish 47 = .ok (.dup, 1) := by decide +kernel
theorem dX11_wish_48 : decode cX11_wish 48 = .ok (.getfield 28, 3) := by decide +kernel
theorem dX11_wish_51 : decode cX11_wish 51 = .ok (.iconst 1, 1) := by decide +kernel
theorem dX11_wish_52 : decode cX11_wish 52 = .ok (.iadd, 1) := by decide +kernel
theorem dX11_wish_53 : decode cX11_wish 53 = .ok (.putfield 28, 3) := by decide +kernel
theorem dX11_wish_56 : decode cX11_wish 56 = .ok (.aload_n 0, 1) := by decide +kernel
theorem dX11_wish_57 : decode cX11_wish 57 = .ok (.getfield 12, 3) := by decide +kernel
theorem dX11_wish_60 : decode cX11_wish 60 = .ok (.invokevirtual 115, 3) := by decide +kernel
theorem dX11_wish_63 : decode cX11_wish 63 = .ok (.aload_n 0, 1) := by decide +kernel
theorem dX11_wish_64 : decode cX11_wish 64 = .ok (.getfield 28, 3) := by decide +kernel
theorem dX11_wish_67 : decode cX11_wish 67 = .ok (.ireturn, 1) := by decide +kernel
def wp_X11_wish (h : Nat) (x1 : Int32) (x2 : Int32) (S : xm_S) (g : Int32 → xm_S → Prop) (Ex : String → xm_S → Prop) : Prop :=
  wp_X11_checkPack x1 S (fun S1 => wp_X11_checkRange x2 (0 : Int32) (nI 15) S1 (fun S3 => st_t S3 h = some (11, 0) ∧ wp_X11_tapeAsRange h S3 (fun r7 S6 => st_t S6 h = some (11, 0) ∧ wp_X11_checkRoom (st_i S6 h 3) (nI 4) S6 (fun S9 => st_t S9 h = some (11, 0) ∧ ∃ n12, st_t S9 n12 = none ∧ ∀ S14, S14 = st_nw S9 n12 (4, 0) → wp_X4_init n12 x1 r7 x2 (nI 7) (-1 : Int32) S14 (fun S16 => ∃ n18, (st_r S9 h 2) = some n18 ∧ ∃ z21, st_t S16 n18 = some (114, z21) ∧ vp_in (st_i S9 h 3) z21 ∧ (∀ v9, (some n12) = some v9 → st_t S16 v9 = some (4, 0)) ∧ ∀ S24, S24 = st_pr S16 n18 ((st_i S9 h 3)).toNatClampNeg (some n12) → st_t S24 h = some (11, 0) ∧ ∀ S27, S27 = st_pi S24 h 3 ((st_i S24 h 3) + (1 : Int32)) → ∃ n29, (st_r S27 h 0) = some n29 ∧ st_t S27 n29 = some (8, 0) ∧ wp_X8_clear n29 S27 (fun S32 => st_t S32 h = some (11, 0) ∧ g (st_i S32 h 3) S32))) Ex) Ex) Ex) Ex
set_option maxRecDepth 100000 in
set_option maxHeartbeats 4000000 in
theorem kp_X11_wish {K : xm_K} (h : Nat) (x1 : Int32) (x2 : Int32) (S : xm_S) {g : Int32 → xm_S → Prop} {Ex : String → xm_S → Prop} (C : xm_Cx K cX11_wish RX11 4 (some (FieldType.int)) rm_X11_wish) (N : xm_Nx K) (hg : ∀ v S, g v S → xm_q K (some (xm_i v)) S) (hEx : ∀ X S, Ex X S → xm_x K X S)  (h1 : wp_X11_wish h x1 x2 S g Ex) : xm_W K 0 0 0 [(0, xm_r (some h)), (1, xm_i x1), (2, xm_i x2)] [] S := by
  unfold wp_X11_wish at h1
  refine x_iload_n C 1 dX11_wish_0 rfl rfl ?_
  refine x_callS (rm' := rm_X11_checkPack) C (kp_X11_checkPack_met h1) lk_50 gw_336 rfl (Nat.le_of_ble_eq_true rfl) ⟨Nat.le_of_ble_eq_true rfl, Nat.le_of_ble_eq_true rfl, (Nat.le_of_ble_eq_true rfl), (Nat.le_of_ble_eq_true rfl)⟩ dX11_wish_1 (fun X9 S9 hx9 => x_thru C N (Nat.le_of_ble_eq_true rfl) (Nat.le_of_ble_eq_true rfl) (hEx _ _ hx9)) (xm_kv (fun S1 h1 => ?_))
  refine x_iload_n C 2 dX11_wish_4 rfl rfl ?_
  refine x_iconst (v := (0 : Int32)) C dX11_wish_5 (by decide) ?_
  refine x_bipush (v := (nI 15)) C dX11_wish_6 (by decide) ?_
  refine x_callS (rm' := rm_X11_checkRange) C (kp_X11_checkRange_met h1) lk_51 gw_339 rfl (Nat.le_of_ble_eq_true rfl) ⟨Nat.le_of_ble_eq_true rfl, Nat.le_of_ble_eq_true rfl, (Nat.le_of_ble_eq_true rfl), (Nat.le_of_ble_eq_true rfl)⟩ dX11_wish_8 (fun X9 S9 hx9 => x_thru C N (Nat.le_of_ble_eq_true rfl) (Nat.le_of_ble_eq_true rfl) (hEx _ _ hx9)) (xm_kv (fun S3 h1 => ?_))
  refine x_aload_n C 0 dX11_wish_11 rfl rfl ?_
  obtain ⟨ht5, h1⟩ := h1
  refine x_callV (rm' := rm_X11_tapeAsRange) (n := h) C (kp_X11_tapeAsRange_met h1) lk_52 gw_342 gw_343 xv_11 rfl rfl ht5 rfl (Nat.le_of_ble_eq_true rfl) ⟨Nat.le_of_ble_eq_true rfl, Nat.le_of_ble_eq_true rfl, (Nat.le_of_ble_eq_true rfl), (Nat.le_of_ble_eq_true rfl)⟩ dX11_wish_12 (fun X9 S9 hx9 => x_thru C N (Nat.le_of_ble_eq_true rfl) (Nat.le_of_ble_eq_true rfl) (hEx _ _ hx9)) (xm_kr (fun r7 S6 h1 => ?_))
  refine x_astore_n (L' := [(3, xm_r r7), (0, xm_r (some h)), (1, xm_i x1), (2, xm_i x2)]) C dX11_wish_15 rfl (by decide) rfl ?_
  refine x_aload_n C 1 dX11_wish_16 rfl rfl ?_
  obtain ⟨ht8, h1⟩ := h1
  refine x_getf_i (n := h) C rfl ht8 fd_119 (by decide) dX11_wish_17 ?_
  refine x_iconst (v := (nI 4)) C dX11_wish_20 (by decide) ?_
  refine x_callS (rm' := rm_X11_checkRoom) C (kp_X11_checkRoom_met h1) lk_53 gw_347 rfl (Nat.le_of_ble_eq_true rfl) ⟨Nat.le_of_ble_eq_true rfl, Nat.le_of_ble_eq_true rfl, (Nat.le_of_ble_eq_true rfl), (Nat.le_of_ble_eq_true rfl)⟩ dX11_wish_21 (fun X9 S9 hx9 => x_thru C N (Nat.le_of_ble_eq_true rfl) (Nat.le_of_ble_eq_true rfl) (hEx _ _ hx9)) (xm_kv (fun S9 h1 => ?_))
  refine x_aload_n C 1 dX11_wish_24 rfl rfl ?_
  obtain ⟨ht11, h1⟩ := h1
  refine x_getf_r (n := h) C rfl ht11 fd_124 (by decide) dX11_wish_25 ?_
  refine x_aload_n C 1 dX11_wish_28 rfl rfl ?_
  refine x_getf_i (n := h) C rfl ht11 fd_119 (by decide) dX11_wish_29 ?_
  obtain ⟨n12, hn13, h1⟩ := h1
  refine x_new (n := n12) C xc_4 gw_415 hn13 (Nat.le_of_ble_eq_true rfl) (Nat.le_of_ble_eq_true rfl) dX11_wish_32 ?_
  refine x_topS (fun S14 e15 => ?_)
  have h1 := h1 S14 e15
  refine x_dup_r C dX11_wish_35 ?_
  refine x_iload_n C 2 dX11_wish_36 rfl rfl ?_
  refine x_aload_n C 0 dX11_wish_37 rfl rfl ?_
  refine x_iload_n C 3 dX11_wish_38 rfl rfl ?_
  refine x_bipush (v := (nI 7)) C dX11_wish_39 (by decide) ?_
  refine x_iconst (v := (-1 : Int32)) C dX11_wish_41 (by decide) ?_
  refine x_callI (rm' := rm_X4_init) (n := n12) C (kp_X4_init_met h1) lk_68 gw_419 rfl rfl rfl (Nat.le_of_ble_eq_true rfl) ⟨Nat.le_of_ble_eq_true rfl, Nat.le_of_ble_eq_true rfl, (Nat.le_of_ble_eq_true rfl), (Nat.le_of_ble_eq_true rfl)⟩ dX11_wish_42 xm_kx (xm_kv (fun S16 h1 => ?_))
  obtain ⟨n18, hr19, h1⟩ := h1
  obtain ⟨z21, ht20, h1⟩ := h1
  obtain ⟨hi22, h1⟩ := h1
  obtain ⟨hv23, h1⟩ := h1
  refine x_aast (n := n18) (ci := 4) C hr19 (by decide) rfl rfl ht20 hi22 hv23 dX11_wish_45 ?_
  refine x_topS (fun S24 e25 => ?_)
  have h1 := h1 S24 e25
  refine x_aload_n C 1 dX11_wish_46 rfl rfl ?_
  refine x_dup_r C dX11_wish_47 ?_
  obtain ⟨ht26, h1⟩ := h1
  refine x_getf_i (n := h) C rfl ht26 fd_119 (by decide) dX11_wish_48 ?_
  refine x_iconst (v := (1 : Int32)) C dX11_wish_51 (by decide) ?_
  refine x_iadd C dX11_wish_52 ?_
  refine x_putf_i (n := h) C rfl ht26 fd_119 xc_11 (by decide) rfl ⟨rfl, rfl⟩ dX11_wish_53 ?_
  refine x_topS (fun S27 e28 => ?_)
  have h1 := h1 S27 e28
  refine x_aload_n C 1 dX11_wish_56 rfl rfl ?_
  refine x_getf_r (n := h) C rfl (tk_p e28 ht26) fd_108 (by decide) dX11_wish_57 ?_
  obtain ⟨n29, hr30, h1⟩ := h1
  obtain ⟨ht31, h1⟩ := h1
  refine x_callV (rm' := rm_X8_clear) (n := n29) C (kp_X8_clear_met h1) lk_55 gw_356 gw_357 xv_8 rfl hr30 ht31 rfl (Nat.le_of_ble_eq_true rfl) ⟨Nat.le_of_ble_eq_true rfl, Nat.le_of_ble_eq_true rfl, (Nat.le_of_ble_eq_true rfl), (Nat.le_of_ble_eq_true rfl)⟩ dX11_wish_60 xm_kx (xm_kv (fun S32 h1 => ?_))
  refine x_aload_n C 1 dX11_wish_63 rfl rfl ?_
  obtain ⟨ht34, h1⟩ := h1
  refine x_getf_i (n := h) C rfl ht34 fd_119 (by decide) dX11_wish_64 ?_
  exact x_iret C (Nat.le_of_ble_eq_true rfl) (Nat.le_of_ble_eq_true rfl) rfl dX11_wish_67 (hg _ _ h1)
theorem kp_X11_wish_met {h : Nat} {x1 : Int32} {x2 : Int32} {S : xm_S} {g : Int32 → xm_S → Prop} {Ex : String → xm_S → Prop}  (h1 : wp_X11_wish h x1 x2 S g Ex) : xm_Met yX11_wish cX11_wish 4 (some (FieldType.int)) rm_X11_wish [xm_r (some h), xm_i x1, xm_i x2] S (xm_qi g) Ex :=
  xm_ofW RX11 (by decide +kernel) rfl (Nat.le_of_ble_eq_true rfl) (fun K C N hq hx hi => kp_X11_wish h x1 x2 S C N (fun v S h => by rw [hq]; exact ⟨v, rfl, h⟩) (fun X S h => by rw [hx]; exact h)  h1)
def rm_X11_within : Room := { frames := 7, cells := 132, slots := 462, locals := 150 }
theorem dX11_within_0 : decode cX11_within 0 = .ok (.iload_n 1, 1) := by decide +kernel
theorem dX11_within_1 : decode cX11_within 1 = .ok (.invokestatic 122, 3) := by decide +kernel
theorem dX11_within_4 : decode cX11_within 4 = .ok (.aload_n 0, 1) := by decide +kernel
theorem dX11_within_5 : decode cX11_within 5 = .ok (.invokevirtual 161, 3) := by decide +kernel
theorem dX11_within_8 : decode cX11_within 8 = .ok (.astore_n 2, 1) := by decide +kernel
theorem dX11_within_9 : decode cX11_within 9 = .ok (.aload_n 0, 1) := by decide +kernel
theorem dX11_within_10 : decode cX11_within 10 = .ok (.getfield 18, 3) := by decide +kernel
theorem dX11_within_13 : decode cX11_within 13 = .ok (.iload_n 1, 1) := by decide +kernel
theorem dX11_within_14 : decode cX11_within 14 = .ok (.aaload, 1) := by decide +kernel
theorem dX11_within_15 : decode cX11_within 15 = .ok (.astore_n 3, 1) := by decide +kernel
theorem dX11_within_16 : decode cX11_within 16 = .ok (.iconst 0, 1) := by decide +kernel
theorem dX11_within_17 : decode cX11_within 17 = .ok (.istore 4, 2) := by decide +kernel
theorem dX11_within_19 : decode cX11_within 19 = .ok (.iconst 0, 1) := by decide +kernel
theorem dX11_within_20 : decode cX11_within 20 = .ok (.istore 5, 2) := by decide +kernel
theorem dX11_within_22 : decode cX11_within 22 = .ok (.iload 5, 2) := by decide +kernel
theorem dX11_within_24 : decode cX11_within 24 = .ok (.aload_n 3, 1) := by decide +kernel
theorem dX11_within_25 : decode cX11_within 25 = .ok (.getfield 136, 3) := by decide +kernel
theorem dX11_within_28 : decode cX11_within 28 = .ok (.if_icmp .ge 39, 3) := by decide +kernel
theorem dX11_within_31 : decode cX11_within 31 = .ok (.aload_n 2, 1) := by decide +kernel
theorem dX11_within_32 : decode cX11_within 32 = .ok (.aload_n 3, 1) := by decide +kernel
theorem dX11_within_33 : decode cX11_within 33 = .ok (.getfield 143, 3) := by decide +kernel
theorem dX11_within_36 : decode cX11_within 36 = .ok (.iload 5, 2) := by decide +kernel
theorem dX11_within_38 : decode cX11_within 38 = .ok (.aaload, 1) := by decide +kernel
theorem dX11_within_39 : decode cX11_within 39 = .ok (.getfield 203, 3) := by decide +kernel
theorem dX11_within_42 : decode cX11_within 42 = .ok (.aload_n 3, 1) := by decide +kernel
theorem dX11_within_43 : decode cX11_within 43 = .ok (.getfield 128, 3) := by decide +kernel
theorem dX11_within_46 : decode cX11_within 46 = .ok (.invokevirtual 206, 3) := by decide +kernel
theorem dX11_within_49 : decode cX11_within 49 = .ok (.ifCond .eq 12, 3) := by decide +kernel
theorem dX11_within_52 : decode cX11_within 52 = .ok (.iload 4, 2) := by decide +kernel
theorem dX11_within_54 : decode cX11_within 54 = .ok (.iconst 1, 1) := by decide +kernel
theorem dX11_within_55 : decode cX11_within 55 = .ok (.iload 5, 2) := by decide +kernel
theorem dX11_within_57 : decode cX11_within 57 = .ok (.ishl, 1) := by decide +kernel
theorem dX11_within_58 : decode cX11_within 58 = .ok (.ior, 1) := by decide +kernel
theorem dX11_within_59 : decode cX11_within 59 = .ok (.istore 4, 2) := by decide +kernel
theorem dX11_within_61 : decode cX11_within 61 = .ok (.iinc 5 1, 3) := by decide +kernel
theorem dX11_within_64 : decode cX11_within 64 = .ok (.goto (-42), 3) := by decide +kernel
theorem dX11_within_67 : decode cX11_within 67 = .ok (.iload 4, 2) := by decide +kernel
theorem dX11_within_69 : decode cX11_within 69 = .ok (.ireturn, 1) := by decide +kernel
def wp_X11_within_61 (h : Nat) (x2 : Option Nat) (x3 : Option Nat) (x4 : Int32) (x5 : Int32) (S : xm_S) (g : Int32 → xm_S → Prop) (Ex : String → xm_S → Prop) (Z22 : Option Nat → Option Nat → Int32 → Int32 → xm_S → Prop) : Prop :=
  ∀ y1, y1 = (x5 + (1 : Int32)) → Z22 x2 x3 x4 y1 S
set_option maxRecDepth 100000 in
set_option maxHeartbeats 4000000 in
theorem kp_X11_within_61 {K : xm_K} (h : Nat) (x2 : Option Nat) (x3 : Option Nat) (x4 : Int32) (x5 : Int32) (S : xm_S) {g : Int32 → xm_S → Prop} {Ex : String → xm_S → Prop} {Z22 : Option Nat → Option Nat → Int32 → Int32 → xm_S → Prop} (C : xm_Cx K cX11_within RX11 6 (some (FieldType.int)) rm_X11_within) (N : xm_Nx K) (hg : ∀ v S, g v S → xm_q K (some (xm_i v)) S) (hEx : ∀ X S, Ex X S → xm_x K X S) (hZ22 : ∀ x2 x3 x4 x5 S, Z22 x2 x3 x4 x5 S → xm_W K 132 462 22 [(2, xm_r x2), (3, xm_r x3), (4, xm_i x4), (5, xm_i x5)] [] S) (h1 : wp_X11_within_61 h x2 x3 x4 x5 S g Ex Z22) : xm_W K 132 462 61 [(2, xm_r x2), (3, xm_r x3), (4, xm_i x4), (5, xm_i x5)] [] S := by
  unfold wp_X11_within_61 at h1
  obtain ⟨y1, e2⟩ : ∃ y1, y1 = (x5 + (1 : Int32)) := ⟨_, rfl⟩
  have h1 := h1 y1 e2
  refine x_iinc (v := y1) (L' := [(5, xm_i y1), (2, xm_r x2), (3, xm_r x3), (4, xm_i x4)]) C 3 dX11_within_61 rfl (by rw [e2]; rfl) (by decide) rfl ?_
  refine x_goto (tgt := 22) C dX11_within_64 (by decide) ?_
  refine x_keep (L' := [(2, xm_r x2), (3, xm_r x3), (4, xm_i x4), (5, xm_i y1)]) C [1, 2, 3, 0] rfl ?_
  exact hZ22 x2 x3 x4 y1 S h1
def wp_X11_within_22B (h : Nat) (x2 : Option Nat) (x3 : Option Nat) (x4 : Int32) (x5 : Int32) (S : xm_S) (g : Int32 → xm_S → Prop) (Ex : String → xm_S → Prop) (Z22 : Option Nat → Option Nat → Int32 → Int32 → xm_S → Prop) : Prop :=
  ∃ n3, x3 = some n3 ∧ st_t S n3 = some (5, 0) ∧ ((st_i S n3 2) ≤ x5 → g x4 S) ∧ (¬ (st_i S n3 2) ≤ x5 → ∃ n6, x3 = some n6 ∧ st_t S n6 = some (5, 0) ∧ ∃ n9, (st_r S n6 1) = some n9 ∧ ∃ z12, st_t S n9 = some (120, z12) ∧ vp_in x5 z12 ∧ ∃ n14, (st_r S n9 (x5).toNatClampNeg) = some n14 ∧ st_t S n14 = some (10, 0) ∧ ∃ n17, x3 = some n17 ∧ st_t S n17 = some (5, 0) ∧ ∃ n20, x2 = some n20 ∧ st_t S n20 = some (6, 0) ∧ wp_X6_includes n20 (st_i S n14 0) (st_i S n17 0) S (fun r24 S23 => (r24 = 0 → wp_X11_within_61 h x2 x3 x4 x5 S23 g Ex Z22) ∧ (¬ r24 = 0 → ∀ y25, y25 = (x4 ||| ((1 : Int32) <<< (x5 &&& 31))) → wp_X11_within_61 h x2 x3 y25 x5 S23 g Ex Z22)))
def wp_X11_within_22 (h : Nat) (x2 : Option Nat) (x3 : Option Nat) (x4 : Int32) (x5 : Int32) (S : xm_S) (g : Int32 → xm_S → Prop) (Ex : String → xm_S → Prop) : Prop :=
  ∀ Z22 : Option Nat → Option Nat → Int32 → Int32 → xm_S → Prop, (∀ x2 x3 x4 x5 S, wp_X11_within_22B h x2 x3 x4 x5 S g Ex Z22 → Z22 x2 x3 x4 x5 S) → Z22 x2 x3 x4 x5 S
set_option maxRecDepth 100000 in
set_option maxHeartbeats 4000000 in
theorem kp_X11_within_22B {K : xm_K} (h : Nat) (x2 : Option Nat) (x3 : Option Nat) (x4 : Int32) (x5 : Int32) (S : xm_S) {g : Int32 → xm_S → Prop} {Ex : String → xm_S → Prop} {Z22 : Option Nat → Option Nat → Int32 → Int32 → xm_S → Prop} (C : xm_Cx K cX11_within RX11 6 (some (FieldType.int)) rm_X11_within) (N : xm_Nx K) (hg : ∀ v S, g v S → xm_q K (some (xm_i v)) S) (hEx : ∀ X S, Ex X S → xm_x K X S) (hZ22 : ∀ x2 x3 x4 x5 S, Z22 x2 x3 x4 x5 S → xm_W K 132 462 22 [(2, xm_r x2), (3, xm_r x3), (4, xm_i x4), (5, xm_i x5)] [] S) (h1 : wp_X11_within_22B h x2 x3 x4 x5 S g Ex Z22) : xm_W K 132 462 22 [(2, xm_r x2), (3, xm_r x3), (4, xm_i x4), (5, xm_i x5)] [] S := by
  unfold wp_X11_within_22B at h1
  refine x_iload C 3 dX11_within_22 rfl ?_
  refine x_aload_n C 1 dX11_within_24 rfl rfl ?_
  obtain ⟨n3, hr4, h1⟩ := h1
  obtain ⟨ht5, h1⟩ := h1
  refine x_getf_i (n := n3) C hr4 ht5 fd_122 (by decide) dX11_within_25 ?_
  refine x_icmp_ge (tgt := 67) C dX11_within_28 (by decide) (fun z9 => ?_) (fun z9 => ?_)
  · have h1 := h1.1 z9
    refine x_iload C 2 dX11_within_67 rfl ?_
    exact x_iret C (Nat.le_of_ble_eq_true rfl) (Nat.le_of_ble_eq_true rfl) rfl dX11_within_69 (hg _ _ h1)
  · have h1 := h1.2 z9
    refine x_aload_n C 0 dX11_within_31 rfl rfl ?_
    refine x_aload_n C 1 dX11_within_32 rfl rfl ?_
    obtain ⟨n6, hr7, h1⟩ := h1
    obtain ⟨ht8, h1⟩ := h1
    refine x_getf_r (n := n6) C hr7 ht8 fd_112 (by decide) dX11_within_33 ?_
    refine x_iload C 3 dX11_within_36 rfl ?_
    obtain ⟨n9, hr10, h1⟩ := h1
    obtain ⟨z12, ht11, h1⟩ := h1
    obtain ⟨hi13, h1⟩ := h1
    refine x_aald (n := n9) C hr10 (by decide) rfl ht11 hi13 dX11_within_38 ?_
    obtain ⟨n14, hr15, h1⟩ := h1
    obtain ⟨ht16, h1⟩ := h1
    refine x_getf_i (n := n14) C hr15 ht16 fd_113 (by decide) dX11_within_39 ?_
    refine x_aload_n C 1 dX11_within_42 rfl rfl ?_
    obtain ⟨n17, hr18, h1⟩ := h1
    obtain ⟨ht19, h1⟩ := h1
    refine x_getf_i (n := n17) C hr18 ht19 fd_114 (by decide) dX11_within_43 ?_
    obtain ⟨n20, hr21, h1⟩ := h1
    obtain ⟨ht22, h1⟩ := h1
    refine x_callV (rm' := rm_X6_includes) (n := n20) C (kp_X6_includes_met h1) lk_56 gw_225 gw_226 xv_6 rfl hr21 ht22 rfl (Nat.le_of_ble_eq_true rfl) ⟨Nat.le_of_ble_eq_true rfl, Nat.le_of_ble_eq_true rfl, (Nat.le_of_ble_eq_true rfl), (Nat.le_of_ble_eq_true rfl)⟩ dX11_within_46 xm_kx (xm_ki (fun r24 S23 h1 => ?_))
    refine x_if_eq (tgt := 61) C dX11_within_49 (by decide) (fun z9 => ?_) (fun z9 => ?_)
    · have h1 := h1.1 z9
      exact kp_X11_within_61 h x2 x3 x4 x5 S23 C N hg hEx hZ22 h1
    · have h1 := h1.2 z9
      refine x_iload C 2 dX11_within_52 rfl ?_
      refine x_iconst (v := (1 : Int32)) C dX11_within_54 (by decide) ?_
      refine x_iload C 3 dX11_within_55 rfl ?_
      refine x_ishl C dX11_within_57 ?_
      refine x_ior C dX11_within_58 ?_
      refine x_topi (fun y25 e26 => ?_)
      have h1 := h1 y25 e26
      refine x_istore (L' := [(4, xm_i y25), (2, xm_r x2), (3, xm_r x3), (5, xm_i x5)]) C dX11_within_59 (by decide) rfl ?_
      refine x_keep (L' := [(2, xm_r x2), (3, xm_r x3), (4, xm_i y25), (5, xm_i x5)]) C [1, 2, 0, 3] rfl ?_
      exact kp_X11_within_61 h x2 x3 y25 x5 S23 C N hg hEx hZ22 h1
theorem kp_X11_within_22 {K : xm_K} (h : Nat) (x2 : Option Nat) (x3 : Option Nat) (x4 : Int32) (x5 : Int32) (S : xm_S) {g : Int32 → xm_S → Prop} {Ex : String → xm_S → Prop} (C : xm_Cx K cX11_within RX11 6 (some (FieldType.int)) rm_X11_within) (N : xm_Nx K) (hg : ∀ v S, g v S → xm_q K (some (xm_i v)) S) (hEx : ∀ X S, Ex X S → xm_x K X S)  (h1 : wp_X11_within_22 h x2 x3 x4 x5 S g Ex) : xm_W K 132 462 22 [(2, xm_r x2), (3, xm_r x3), (4, xm_i x4), (5, xm_i x5)] [] S :=
  h1 (fun x2 x3 x4 x5 S => xm_W K 132 462 22 [(2, xm_r x2), (3, xm_r x3), (4, xm_i x4), (5, xm_i x5)] [] S) (fun x2 x3 x4 x5 S hb => kp_X11_within_22B h x2 x3 x4 x5 S C N hg hEx (fun x2 x3 x4 x5 S hz => hz) hb)
def wp_X11_within (h : Nat) (x1 : Int32) (S : xm_S) (g : Int32 → xm_S → Prop) (Ex : String → xm_S → Prop) : Prop :=
  wp_X11_checkPack x1 S (fun S27 => st_t S27 h = some (11, 0) ∧ wp_X11_tapeAsRange h S27 (fun r31 S30 => st_t S30 h = some (11, 0) ∧ ∃ n33, (st_r S30 h 1) = some n33 ∧ ∃ z36, st_t S30 n33 = some (115, z36) ∧ vp_in x1 z36 ∧ wp_X11_within_22 h r31 (st_r S30 n33 (x1).toNatClampNeg) (0 : Int32) (0 : Int32) S30 g Ex) Ex) Ex
set_option maxRecDepth 100000 in
set_option maxHeartbeats 4000000 in
theorem kp_X11_within {K : xm_K} (h : Nat) (x1 : Int32) (S : xm_S) {g : Int32 → xm_S → Prop} {Ex : String → xm_S → Prop} (C : xm_Cx K cX11_within RX11 6 (some (FieldType.int)) rm_X11_within) (N : xm_Nx K) (hg : ∀ v S, g v S → xm_q K (some (xm_i v)) S) (hEx : ∀ X S, Ex X S → xm_x K X S)  (h1 : wp_X11_within h x1 S g Ex) : xm_W K 0 0 0 [(0, xm_r (some h)), (1, xm_i x1)] [] S := by
  unfold wp_X11_within at h1
  refine x_iload_n C 1 dX11_within_0 rfl rfl ?_
  refine x_callS (rm' := rm_X11_checkPack) C (kp_X11_checkPack_met h1) lk_50 gw_336 rfl (Nat.le_of_ble_eq_true rfl) ⟨Nat.le_of_ble_eq_true rfl, Nat.le_of_ble_eq_true rfl, (Nat.le_of_ble_eq_true rfl), (Nat.le_of_ble_eq_true rfl)⟩ dX11_within_1 (fun X9 S9 hx9 => x_thru C N (Nat.le_of_ble_eq_true rfl) (Nat.le_of_ble_eq_true rfl) (hEx _ _ hx9)) (xm_kv (fun S27 h1 => ?_))
  refine x_aload_n C 0 dX11_within_4 rfl rfl ?_
  obtain ⟨ht29, h1⟩ := h1
  refine x_callV (rm' := rm_X11_tapeAsRange) (n := h) C (kp_X11_tapeAsRange_met h1) lk_52 gw_342 gw_343 xv_11 rfl rfl ht29 rfl (Nat.le_of_ble_eq_true rfl) ⟨Nat.le_of_ble_eq_true rfl, Nat.le_of_ble_eq_true rfl, (Nat.le_of_ble_eq_true rfl), (Nat.le_of_ble_eq_true rfl)⟩ dX11_within_5 (fun X9 S9 hx9 => x_thru C N (Nat.le_of_ble_eq_true rfl) (Nat.le_of_ble_eq_true rfl) (hEx _ _ hx9)) (xm_kr (fun r31 S30 h1 => ?_))
  refine x_astore_n (L' := [(2, xm_r r31), (0, xm_r (some h)), (1, xm_i x1)]) C dX11_within_8 rfl (by decide) rfl ?_
  refine x_aload_n C 1 dX11_within_9 rfl rfl ?_
  obtain ⟨ht32, h1⟩ := h1
  refine x_getf_r (n := h) C rfl ht32 fd_111 (by decide) dX11_within_10 ?_
  refine x_iload_n C 2 dX11_within_13 rfl rfl ?_
  obtain ⟨n33, hr34, h1⟩ := h1
  obtain ⟨z36, ht35, h1⟩ := h1
  obtain ⟨hi37, h1⟩ := h1
  refine x_aald (n := n33) C hr34 (by decide) rfl ht35 hi37 dX11_within_14 ?_
  refine x_astore_n (L' := [(3, xm_r (st_r S30 n33 (x1).toNatClampNeg)), (2, xm_r r31), (0, xm_r (some h)), (1, xm_i x1)]) C dX11_within_15 rfl (by decide) rfl ?_
  refine x_iconst (v := (0 : Int32)) C dX11_within_16 (by decide) ?_
  refine x_istore (L' := [(4, xm_i (0 : Int32)), (3, xm_r (st_r S30 n33 (x1).toNatClampNeg)), (2, xm_r r31), (0, xm_r (some h)), (1, xm_i x1)]) C dX11_within_17 (by decide) rfl ?_
  refine x_iconst (v := (0 : Int32)) C dX11_within_19 (by decide) ?_
  refine x_istore (L' := [(5, xm_i (0 : Int32)), (4, xm_i (0 : Int32)), (3, xm_r (st_r S30 n33 (x1).toNatClampNeg)), (2, xm_r r31), (0, xm_r (some h)), (1, xm_i x1)]) C dX11_within_20 (by decide) rfl ?_
  refine x_keep (L' := [(2, xm_r r31), (3, xm_r (st_r S30 n33 (x1).toNatClampNeg)), (4, xm_i (0 : Int32)), (5, xm_i (0 : Int32))]) C [3, 2, 1, 0] rfl ?_
  exact kp_X11_within_22 h r31 (st_r S30 n33 (x1).toNatClampNeg) (0 : Int32) (0 : Int32) S30 C N hg hEx  h1
theorem kp_X11_within_met {h : Nat} {x1 : Int32} {S : xm_S} {g : Int32 → xm_S → Prop} {Ex : String → xm_S → Prop}  (h1 : wp_X11_within h x1 S g Ex) : xm_Met yX11_within cX11_within 6 (some (FieldType.int)) rm_X11_within [xm_r (some h), xm_i x1] S (xm_qi g) Ex :=
  xm_ofW RX11 (by decide +kernel) rfl (Nat.le_of_ble_eq_true rfl) (fun K C N hq hx hi => kp_X11_within h x1 S C N (fun v S h => by rw [hq]; exact ⟨v, rfl, h⟩) (fun X S h => by rw [hx]; exact h)  h1)
def rm_X11_yank : Room := { frames := 8, cells := 2, slots := 12, locals := 142 }
theorem dX11_yank_0 : decode cX11_yank 0 = .ok (.aload_n 0, 1) := by decide +kernel
theorem dX11_yank_1 : decode cX11_yank 1 = .ok (.iload_n 1, 1) := by decide +kernel
theorem dX11_yank_2 : decode cX11_yank 2 = .ok (.iload_n 2, 1) := by decide +kernel
theorem dX11_yank_3 : decode cX11_yank 3 = .ok (.invokevirtual 152, 3) := by decide +kernel
theorem dX11_yank_6 : decode cX11_yank 6 = .ok (.aload_n 0, 1) := by decide +kernel
theorem dX11_yank_7 : decode cX11_yank 7 = .ok (.getfield 18, 3) := by decide +kernel
theorem dX11_yank_10 : decode cX11_yank 10 = .ok (.iload_n 1, 1) := by decide +kernel
theorem dX11_yank_11 : decode cX11_yank 11 = .ok (.aaload, 1) := by decide +kernel
theorem dX11_yank_12 : decode cX11_yank 12 = .ok (.getfield 143, 3) := by decide +kernel
theorem dX11_yank_15 : decode cX11_yank 15 = .ok (.iload_n 2, 1) := by decide +kernel
theorem dX11_yank_16 : decode cX11_yank 16 = .ok (.aaload, 1) := by decide +kernel
theorem dX11_yank_17 : decode cX11_yank 17 = .ok (.astore 4, 2) := by decide +kernel
theorem dX11_yank_19 : decode cX11_yank 19 = .ok (.aload 4, 2) := by decide +kernel
theorem dX11_yank_21 : decode cX11_yank 21 = .ok (.getfield 195, 3) := by decide +kernel
theorem dX11_yank_24 : decode cX11_yank 24 = .ok (.istore 5, 2) := by decide +kernel
theorem dX11_yank_26 : decode cX11_yank 26 = .ok (.aload 4, 2) := by decide +kernel
theorem dX11_yank_28 : decode cX11_yank 28 = .ok (.iload_n 3, 1) := by decide +kernel
theorem dX11_yank_29 : decode cX11_yank 29 = .ok (.putfield 195, 3) := by decide +kernel
theorem dX11_yank_32 : decode cX11_yank 32 = .ok (.iload 5, 2) := by decide +kernel
theorem dX11_yank_34 : decode cX11_yank 34 = .ok (.ireturn, 1) := by decide +kernel
def wp_X11_yank (h : Nat) (x1 : Int32) (x2 : Int32) (x3 : Int32) (S : xm_S) (g : Int32 → xm_S → Prop) (Ex : String → xm_S → Prop) : Prop :=
  st_t S h = some (11, 0) ∧ wp_X11_checkVersion h x1 x2 S (fun S2 => st_t S2 h = some (11, 0) ∧ ∃ n5, (st_r S2 h 1) = some n5 ∧ ∃ z8, st_t S2 n5 = some (115, z8) ∧ vp_in x1 z8 ∧ ∃ n10, (st_r S2 n5 (x1).toNatClampNeg) = some n10 ∧ st_t S2 n10 = some (5, 0) ∧ ∃ n13, (st_r S2 n10 1) = some n13 ∧ ∃ z16, st_t S2 n13 = some (120, z16) ∧ vp_in x2 z16 ∧ ∃ n18, (st_r S2 n13 (x2).toNatClampNeg) = some n18 ∧ st_t S2 n18 = some (10, 0) ∧ ∃ n21, (st_r S2 n13 (x2).toNatClampNeg) = some n21 ∧ st_t S2 n21 = some (10, 0) ∧ (x3 = 0 ∨ x3 = 1) ∧ ∀ S25, S25 = st_pi S2 n21 4 x3 → ((st_i S2 n18 4) = 0 ∨ (st_i S2 n18 4) = 1) ∧ g (st_i S2 n18 4) S25) Ex
set_option maxRecDepth 100000 in
set_option maxHeartbeats 4000000 in
theorem kp_X11_yank {K : xm_K} (h : Nat) (x1 : Int32) (x2 : Int32) (x3 : Int32) (S : xm_S) {g : Int32 → xm_S → Prop} {Ex : String → xm_S → Prop} (C : xm_Cx K cX11_yank RX11 6 (some (FieldType.boolean)) rm_X11_yank) (N : xm_Nx K) (hg : ∀ v S, g v S → xm_q K (some (xm_i v)) S) (hEx : ∀ X S, Ex X S → xm_x K X S)  (h1 : wp_X11_yank h x1 x2 x3 S g Ex) : xm_W K 0 0 0 [(0, xm_r (some h)), (1, xm_i x1), (2, xm_i x2), (3, xm_i x3)] [] S := by
  unfold wp_X11_yank at h1
  refine x_aload_n C 0 dX11_yank_0 rfl rfl ?_
  refine x_iload_n C 1 dX11_yank_1 rfl rfl ?_
  refine x_iload_n C 2 dX11_yank_2 rfl rfl ?_
  obtain ⟨ht1, h1⟩ := h1
  refine x_callV (rm' := rm_X11_checkVersion) (n := h) C (kp_X11_checkVersion_met h1) lk_65 gw_407 gw_408 xv_11 rfl rfl ht1 rfl (Nat.le_of_ble_eq_true rfl) ⟨Nat.le_of_ble_eq_true rfl, Nat.le_of_ble_eq_true rfl, (Nat.le_of_ble_eq_true rfl), (Nat.le_of_ble_eq_true rfl)⟩ dX11_yank_3 (fun X9 S9 hx9 => x_thru C N (Nat.le_of_ble_eq_true rfl) (Nat.le_of_ble_eq_true rfl) (hEx _ _ hx9)) (xm_kv (fun S2 h1 => ?_))
  refine x_aload_n C 0 dX11_yank_6 rfl rfl ?_
  obtain ⟨ht4, h1⟩ := h1
  refine x_getf_r (n := h) C rfl ht4 fd_111 (by decide) dX11_yank_7 ?_
  refine x_iload_n C 1 dX11_yank_10 rfl rfl ?_
  obtain ⟨n5, hr6, h1⟩ := h1
  obtain ⟨z8, ht7, h1⟩ := h1
  obtain ⟨hi9, h1⟩ := h1
  refine x_aald (n := n5) C hr6 (by decide) rfl ht7 hi9 dX11_yank_11 ?_
  obtain ⟨n10, hr11, h1⟩ := h1
  obtain ⟨ht12, h1⟩ := h1
  refine x_getf_r (n := n10) C hr11 ht12 fd_112 (by decide) dX11_yank_12 ?_
  refine x_iload_n C 2 dX11_yank_15 rfl rfl ?_
  obtain ⟨n13, hr14, h1⟩ := h1
  obtain ⟨z16, ht15, h1⟩ := h1
  obtain ⟨hi17, h1⟩ := h1
  refine x_aald (n := n13) C hr14 (by decide) rfl ht15 hi17 dX11_yank_16 ?_
  refine x_astore (L' := [(4, xm_r (st_r S2 n13 (x2).toNatClampNeg)), (0, xm_r (some h)), (1, xm_i x1), (2, xm_i x2), (3, xm_i x3)]) C dX11_yank_17 (by decide) rfl ?_
  refine x_aload C 0 dX11_yank_19 rfl ?_
  obtain ⟨n18, hr19, h1⟩ := h1
  obtain ⟨ht20, h1⟩ := h1
  refine x_getf_i (n := n18) C hr19 ht20 fd_157 (by decide) dX11_yank_21 ?_
  refine x_istore (L' := [(5, xm_i (st_i S2 n18 4)), (4, xm_r (st_r S2 n13 (x2).toNatClampNeg)), (0, xm_r (some h)), (1, xm_i x1), (2, xm_i x2), (3, xm_i x3)]) C dX11_yank_24 (by decide) rfl ?_
  refine x_aload C 1 dX11_yank_26 rfl ?_
  refine x_iload_n C 5 dX11_yank_28 rfl rfl ?_
  obtain ⟨n21, hr22, h1⟩ := h1
  obtain ⟨ht23, h1⟩ := h1
  obtain ⟨hz24, h1⟩ := h1
  refine x_putf_i (n := n21) C hr22 ht23 fd_157 xc_10 (by decide) rfl (xm_nz hz24) dX11_yank_29 ?_
  refine x_topS (fun S25 e26 => ?_)
  have h1 := h1 S25 e26
  refine x_iload C 0 dX11_yank_32 rfl ?_
  exact x_zret C (Nat.le_of_ble_eq_true rfl) (Nat.le_of_ble_eq_true rfl) rfl h1.1 dX11_yank_34 (hg _ _ h1.2)
theorem kp_X11_yank_met {h : Nat} {x1 : Int32} {x2 : Int32} {x3 : Int32} {S : xm_S} {g : Int32 → xm_S → Prop} {Ex : String → xm_S → Prop}  (h1 : wp_X11_yank h x1 x2 x3 S g Ex) : xm_Met yX11_yank cX11_yank 6 (some (FieldType.boolean)) rm_X11_yank [xm_r (some h), xm_i x1, xm_i x2, xm_i x3] S (xm_qi g) Ex :=
  xm_ofW RX11 (by decide +kernel) rfl (Nat.le_of_ble_eq_true rfl) (fun K C N hq hx hi => kp_X11_yank h x1 x2 x3 S C N (fun v S h => by rw [hq]; exact ⟨v, rfl, h⟩) (fun X S h => by rw [hx]; exact h)  h1)
def rm_X12_in : Room := { frames := 1, cells := 0, slots := 0, locals := 20 }
theorem dX12_in_0 : decode cX12_in 0 = .ok (.iload_n 0, 1) := by decide +kernel
theorem dX12_in_1 : decode cX12_in 1 = .ok (.iload_n 1, 1) := by decide +kernel
theorem dX12_in_2 : decode cX12_in 2 = .ok (.if_icmp .lt 12, 3) := by decide +kernel
theorem dX12_in_5 : decode cX12_in 5 = .ok (.iload_n 0, 1) := by decide +kernel
theorem dX12_in_6 : decode cX12_in 6 = .ok (.iload_n 2, 1) := by decide +kernel
theorem dX12_in_7 : decode cX12_in 7 = .ok (.if_icmp .gt 7, 3) := by decide +kernel
theorem dX12_in_10 : decode cX12_in 10 = .ok (.iconst 1, 1) := by decide +kernel
theorem dX12_in_11 : decode cX12_in 11 = .ok (.goto 4, 3) := by decide +kernel
theorem dX12_in_14 : decode cX12_in 14 = .ok (.iconst 0, 1) := by decide +kernel
theorem dX12_in_15 : decode cX12_in 15 = .ok (.ireturn, 1) := by decide +kernel
def wp_X12_in_15 (s0 : Int32) (S : xm_S) (g : Int32 → xm_S → Prop) : Prop :=
  (s0 = 0 ∨ s0 = 1) ∧ g s0 S
set_option maxRecDepth 100000 in
set_option maxHeartbeats 4000000 in
theorem kp_X12_in_15 {K : xm_K} (s0 : Int32) (S : xm_S) {g : Int32 → xm_S → Prop} (C : xm_Cx K cX12_in RX12 3 (some (FieldType.boolean)) rm_X12_in) (N : xm_Nx K) (hg : ∀ v S, g v S → xm_q K (some (xm_i v)) S)  (h1 : wp_X12_in_15 s0 S g) : xm_W K 0 0 15 [] [xm_i s0] S := by
  unfold wp_X12_in_15 at h1
  exact x_zret C (Nat.le_of_ble_eq_true rfl) (Nat.le_of_ble_eq_true rfl) rfl h1.1 dX12_in_15 (hg _ _ h1.2)
def wp_X12_in_14  (S : xm_S) (g : Int32 → xm_S → Prop) : Prop :=
  wp_X12_in_15 (0 : Int32) S g
set_option maxRecDepth 100000 in
set_option maxHeartbeats 4000000 in
theorem kp_X12_in_14 {K : xm_K}  (S : xm_S) {g : Int32 → xm_S → Prop} (C : xm_Cx K cX12_in RX12 3 (some (FieldType.boolean)) rm_X12_in) (N : xm_Nx K) (hg : ∀ v S, g v S → xm_q K (some (xm_i v)) S)  (h1 : wp_X12_in_14  S g) : xm_W K 0 0 14 [] [] S := by
  unfold wp_X12_in_14 at h1
  refine x_iconst (v := (0 : Int32)) C dX12_in_14 (by decide) ?_
  exact kp_X12_in_15 (0 : Int32) S C N hg  h1
def wp_X12_in (x0 : Int32) (x1 : Int32) (x2 : Int32) (S : xm_S) (g : Int32 → xm_S → Prop) : Prop :=
  (x0 < x1 → wp_X12_in_14 S g) ∧ (¬ x0 < x1 → (x2 < x0 → wp_X12_in_14 S g) ∧ (¬ x2 < x0 → wp_X12_in_15 (1 : Int32) S g))
set_option maxRecDepth 100000 in
set_option maxHeartbeats 4000000 in
theorem kp_X12_in {K : xm_K} (x0 : Int32) (x1 : Int32) (x2 : Int32) (S : xm_S) {g : Int32 → xm_S → Prop} (C : xm_Cx K cX12_in RX12 3 (some (FieldType.boolean)) rm_X12_in) (N : xm_Nx K) (hg : ∀ v S, g v S → xm_q K (some (xm_i v)) S)  (h1 : wp_X12_in x0 x1 x2 S g) : xm_W K 0 0 0 [(0, xm_i x0), (1, xm_i x1), (2, xm_i x2)] [] S := by
  unfold wp_X12_in at h1
  refine x_iload_n C 0 dX12_in_0 rfl rfl ?_
  refine x_iload_n C 1 dX12_in_1 rfl rfl ?_
  refine x_icmp_lt (tgt := 14) C dX12_in_2 (by decide) (fun z9 => ?_) (fun z9 => ?_)
  · have h1 := h1.1 z9
    refine x_keep (L' := []) C [] rfl ?_
    exact kp_X12_in_14 S C N hg  h1
  · have h1 := h1.2 z9
    refine x_iload_n C 0 dX12_in_5 rfl rfl ?_
    refine x_iload_n C 2 dX12_in_6 rfl rfl ?_
    refine x_icmp_gt (tgt := 14) C dX12_in_7 (by decide) (fun z9 => ?_) (fun z9 => ?_)
    · have h1 := h1.1 z9
      refine x_keep (L' := []) C [] rfl ?_
      exact kp_X12_in_14 S C N hg  h1
    · have h1 := h1.2 z9
      refine x_iconst (v := (1 : Int32)) C dX12_in_10 (by decide) ?_
      refine x_goto (tgt := 15) C dX12_in_11 (by decide) ?_
      refine x_keep (L' := []) C [] rfl ?_
      exact kp_X12_in_15 (1 : Int32) S C N hg  h1
theorem kp_X12_in_met {x0 : Int32} {x1 : Int32} {x2 : Int32} {S : xm_S} {g : Int32 → xm_S → Prop}  (h1 : wp_X12_in x0 x1 x2 S g) : xm_Met yX12_in cX12_in 3 (some (FieldType.boolean)) rm_X12_in [xm_i x0, xm_i x1, xm_i x2] S (xm_qi g) xm_nox :=
  xm_ofW RX12 (by decide +kernel) rfl (Nat.le_of_ble_eq_true rfl) (fun K C N hq hx hi => kp_X12_in x0 x1 x2 S C N (fun v S h => by rw [hq]; exact ⟨v, rfl, h⟩)  h1)
def rm_X12_isPack : Room := { frames := 2, cells := 0, slots := 0, locals := 42 }
theorem dX12_isPack_0 : decode cX12_isPack 0 = .ok (.iload_n 0, 1) := by decide +kernel
theorem dX12_isPack_1 : decode cX12_isPack 1 = .ok (.iconst 0, 1) := by decide +kernel
theorem dX12_isPack_2 : decode cX12_isPack 2 = .ok (.iconst 5, 1) := by decide +kernel
theorem dX12_isPack_3 : decode cX12_isPack 3 = .ok (.invokestatic 172, 3) := by decide +kernel
theorem dX12_isPack_6 : decode cX12_isPack 6 = .ok (.ireturn, 1) := by decide +kernel
def wp_X12_isPack (x0 : Int32) (S : xm_S) (g : Int32 → xm_S → Prop) : Prop :=
  wp_X12_in x0 (0 : Int32) (nI 5) S (fun r2 S1 => (r2 = 0 ∨ r2 = 1) ∧ g r2 S1)
set_option maxRecDepth 100000 in
set_option maxHeartbeats 4000000 in
theorem kp_X12_isPack {K : xm_K} (x0 : Int32) (S : xm_S) {g : Int32 → xm_S → Prop} (C : xm_Cx K cX12_isPack RX12 1 (some (FieldType.boolean)) rm_X12_isPack) (N : xm_Nx K) (hg : ∀ v S, g v S → xm_q K (some (xm_i v)) S)  (h1 : wp_X12_isPack x0 S g) : xm_W K 0 0 0 [(0, xm_i x0)] [] S := by
  unfold wp_X12_isPack at h1
  refine x_iload_n C 0 dX12_isPack_0 rfl rfl ?_
  refine x_iconst (v := (0 : Int32)) C dX12_isPack_1 (by decide) ?_
  refine x_iconst (v := (nI 5)) C dX12_isPack_2 (by decide) ?_
  refine x_callS (rm' := rm_X12_in) C (kp_X12_in_met h1) lk_87 gw_533 rfl (Nat.le_of_ble_eq_true rfl) ⟨Nat.le_of_ble_eq_true rfl, Nat.le_of_ble_eq_true rfl, (Nat.le_of_ble_eq_true rfl), (Nat.le_of_ble_eq_true rfl)⟩ dX12_isPack_3 xm_kx (xm_ki (fun r2 S1 h1 => ?_))
  exact x_zret C (Nat.le_of_ble_eq_true rfl) (Nat.le_of_ble_eq_true rfl) rfl h1.1 dX12_isPack_6 (hg _ _ h1.2)
theorem kp_X12_isPack_met {x0 : Int32} {S : xm_S} {g : Int32 → xm_S → Prop}  (h1 : wp_X12_isPack x0 S g) : xm_Met yX12_isPack cX12_isPack 1 (some (FieldType.boolean)) rm_X12_isPack [xm_i x0] S (xm_qi g) xm_nox :=
  xm_ofW RX12 (by decide +kernel) rfl (Nat.le_of_ble_eq_true rfl) (fun K C N hq hx hi => kp_X12_isPack x0 S C N (fun v S h => by rw [hq]; exact ⟨v, rfl, h⟩)  h1)
def rm_X12_next : Room := { frames := 1, cells := 0, slots := 0, locals := 20 }
theorem dX12_next_0 : decode cX12_next 0 = .ok (.aload_n 0, 1) := by decide +kernel
theorem dX12_next_1 : decode cX12_next 1 = .ok (.getfield 185, 3) := by decide +kernel
theorem dX12_next_4 : decode cX12_next 4 = .ok (.aload_n 0, 1) := by decide +kernel
theorem dX12_next_5 : decode cX12_next 5 = .ok (.getfield 77, 3) := by decide +kernel
theorem dX12_next_8 : decode cX12_next 8 = .ok (.aload_n 0, 1) := by decide +kernel
theorem dX12_next_9 : decode cX12_next 9 = .ok (.getfield 188, 3) := by decide +kernel
theorem dX12_next_12 : decode cX12_next 12 = .ok (.iaload, 1) := by decide +kernel
theorem dX12_next_13 : decode cX12_next 13 = .ok (.if_icmp .ge 23, 3) := by decide +kernel
theorem dX12_next_16 : decode cX12_next 16 = .ok (.aload_n 0, 1) := by decide +kernel
theorem dX12_next_17 : decode cX12_next 17 = .ok (.getfield 74, 3) := by decide +kernel
theorem dX12_next_20 : decode cX12_next 20 = .ok (.bipush 40, 2) := by decide +kernel
theorem dX12_next_22 : decode cX12_next 22 = .ok (.aload_n 0, 1) := by decide +kernel
theorem dX12_next_23 : decode cX12_next 23 = .ok (.getfield 188, 3) := by decide +kernel
theorem dX12_next_26 : decode cX12_next 26 = .ok (.imul, 1) := by decide +kernel
theorem dX12_next_27 : decode cX12_next 27 = .ok (.aload_n 0, 1) := by decide +kernel
theorem dX12_next_28 : decode cX12_next 28 = .ok (.getfield 185, 3) := by decide +kernel
theorem dX12_next_31 : decode cX12_next 31 = .ok (.iadd, 1) := by decide +kernel
theorem dX12_next_32 : decode cX12_next 32 = .ok (.iaload, 1) := by decide +kernel
theorem dX12_next_33 : decode cX12_next 33 = .ok (.goto 4, 3) := by decide +kernel
theorem dX12_next_36 : decode cX12_next 36 = .ok (.iconst 0, 1) := by decide +kernel
theorem dX12_next_37 : decode cX12_next 37 = .ok (.ireturn, 1) := by decide +kernel
def wp_X12_next_37 (h : Nat) (s0 : Int32) (S : xm_S) (g : Int32 → xm_S → Prop) : Prop :=
  g s0 S
set_option maxRecDepth 100000 in
set_option maxHeartbeats 4000000 in
theorem kp_X12_next_37 {K : xm_K} (h : Nat) (s0 : Int32) (S : xm_S) {g : Int32 → xm_S → Prop} (C : xm_Cx K cX12_next RX12 1 (some (FieldType.int)) rm_X12_next) (N : xm_Nx K) (hg : ∀ v S, g v S → xm_q K (some (xm_i v)) S)  (h1 : wp_X12_next_37 h s0 S g) : xm_W K 0 0 37 [] [xm_i s0] S := by
  unfold wp_X12_next_37 at h1
  exact x_iret C (Nat.le_of_ble_eq_true rfl) (Nat.le_of_ble_eq_true rfl) rfl dX12_next_37 (hg _ _ h1)
def wp_X12_next (h : Nat)  (S : xm_S) (g : Int32 → xm_S → Prop) : Prop :=
  st_t S h = some (12, 0) ∧ ∃ n2, (st_r S h 25) = some n2 ∧ ∃ z5, st_t S n2 = some (100, z5) ∧ vp_in (st_i S h 61) z5 ∧ ((st_i S n2 ((st_i S h 61)).toNatClampNeg) ≤ (st_i S h 60) → wp_X12_next_37 h (0 : Int32) S g) ∧ (¬ (st_i S n2 ((st_i S h 61)).toNatClampNeg) ≤ (st_i S h 60) → ∃ n7, (st_r S h 24) = some n7 ∧ ∃ z10, st_t S n7 = some (100, z10) ∧ vp_in (((nI 40) * (st_i S h 61)) + (st_i S h 60)) z10 ∧ wp_X12_next_37 h (st_i S n7 ((((nI 40) * (st_i S h 61)) + (st_i S h 60))).toNatClampNeg) S g)
set_option maxRecDepth 100000 in
set_option maxHeartbeats 4000000 in
theorem kp_X12_next {K : xm_K} (h : Nat)  (S : xm_S) {g : Int32 → xm_S → Prop} (C : xm_Cx K cX12_next RX12 1 (some (FieldType.int)) rm_X12_next) (N : xm_Nx K) (hg : ∀ v S, g v S → xm_q K (some (xm_i v)) S)  (h1 : wp_X12_next h  S g) : xm_W K 0 0 0 [(0, xm_r (some h))] [] S := by
  unfold wp_X12_next at h1
  refine x_aload_n C 0 dX12_next_0 rfl rfl ?_
  obtain ⟨ht1, h1⟩ := h1
  refine x_getf_i (n := h) C rfl ht1 fd_158 (by decide) dX12_next_1 ?_
  refine x_aload_n C 0 dX12_next_4 rfl rfl ?_
  refine x_getf_r (n := h) C rfl ht1 fd_159 (by decide) dX12_next_5 ?_
  refine x_aload_n C 0 dX12_next_8 rfl rfl ?_
  refine x_getf_i (n := h) C rfl ht1 fd_160 (by decide) dX12_next_9 ?_
  obtain ⟨n2, hr3, h1⟩ := h1
  obtain ⟨z5, ht4, h1⟩ := h1
  obtain ⟨hi6, h1⟩ := h1
  refine x_iald (n := n2) C hr3 ht4 hi6 dX12_next_12 ?_
  refine x_icmp_ge (tgt := 36) C dX12_next_13 (by decide) (fun z9 => ?_) (fun z9 => ?_)
  · have h1 := h1.1 z9
    refine x_iconst (v := (0 : Int32)) C dX12_next_36 (by decide) ?_
    refine x_keep (L' := []) C [] rfl ?_
    exact kp_X12_next_37 h (0 : Int32) S C N hg  h1
  · have h1 := h1.2 z9
    refine x_aload_n C 0 dX12_next_16 rfl rfl ?_
    refine x_getf_r (n := h) C rfl ht1 fd_161 (by decide) dX12_next_17 ?_
    refine x_bipush (v := (nI 40)) C dX12_next_20 (by decide) ?_
    refine x_aload_n C 0 dX12_next_22 rfl rfl ?_
    refine x_getf_i (n := h) C rfl ht1 fd_160 (by decide) dX12_next_23 ?_
    refine x_imul C dX12_next_26 ?_
    refine x_aload_n C 0 dX12_next_27 rfl rfl ?_
    refine x_getf_i (n := h) C rfl ht1 fd_158 (by decide) dX12_next_28 ?_
    refine x_iadd C dX12_next_31 ?_
    obtain ⟨n7, hr8, h1⟩ := h1
    obtain ⟨z10, ht9, h1⟩ := h1
    obtain ⟨hi11, h1⟩ := h1
    refine x_iald (n := n7) C hr8 ht9 hi11 dX12_next_32 ?_
    refine x_goto (tgt := 37) C dX12_next_33 (by decide) ?_
    refine x_keep (L' := []) C [] rfl ?_
    exact kp_X12_next_37 h (st_i S n7 ((((nI 40) * (st_i S h 61)) + (st_i S h 60))).toNatClampNeg) S C N hg  h1
theorem kp_X12_next_met {h : Nat}  {S : xm_S} {g : Int32 → xm_S → Prop}  (h1 : wp_X12_next h  S g) : xm_Met yX12_next cX12_next 1 (some (FieldType.int)) rm_X12_next [xm_r (some h)] S (xm_qi g) xm_nox :=
  xm_ofW RX12 (by decide +kernel) rfl (Nat.le_of_ble_eq_true rfl) (fun K C N hq hx hi => kp_X12_next h  S C N (fun v S h => by rw [hq]; exact ⟨v, rfl, h⟩)  h1)
def rm_X12_isDigit : Room := { frames := 2, cells := 0, slots := 0, locals := 42 }
theorem dX12_isDigit_0 : decode cX12_isDigit 0 = .ok (.aload_n 0, 1) := by decide +kernel
theorem dX12_isDigit_1 : decode cX12_isDigit 1 = .ok (.invokevirtual 191, 3) := by decide +kernel
theorem dX12_isDigit_4 : decode cX12_isDigit 4 = .ok (.bipush 48, 2) := by decide +kernel
theorem dX12_isDigit_6 : decode cX12_isDigit 6 = .ok (.bipush 57, 2) := by decide +kernel
theorem dX12_isDigit_8 : decode cX12_isDigit 8 = .ok (.invokestatic 172, 3) := by decide +kernel
theorem dX12_isDigit_11 : decode cX12_isDigit 11 = .ok (.ireturn, 1) := by decide +kernel
def wp_X12_isDigit (h : Nat)  (S : xm_S) (g : Int32 → xm_S → Prop) : Prop :=
  st_t S h = some (12, 0) ∧ wp_X12_next h S (fun r3 S2 => wp_X12_in r3 (nI 48) (nI 57) S2 (fun r5 S4 => (r5 = 0 ∨ r5 = 1) ∧ g r5 S4))
set_option maxRecDepth 100000 in
set_option maxHeartbeats 4000000 in
theorem kp_X12_isDigit {K : xm_K} (h : Nat)  (S : xm_S) {g : Int32 → xm_S → Prop} (C : xm_Cx K cX12_isDigit RX12 1 (some (FieldType.boolean)) rm_X12_isDigit) (N : xm_Nx K) (hg : ∀ v S, g v S → xm_q K (some (xm_i v)) S)  (h1 : wp_X12_isDigit h  S g) : xm_W K 0 0 0 [(0, xm_r (some h))] [] S := by
  unfold wp_X12_isDigit at h1
  refine x_aload_n C 0 dX12_isDigit_0 rfl rfl ?_
  obtain ⟨ht1, h1⟩ := h1
  refine x_callV (rm' := rm_X12_next) (n := h) C (kp_X12_next_met h1) lk_88 gw_540 gw_541 xv_12 rfl rfl ht1 rfl (Nat.le_of_ble_eq_true rfl) ⟨Nat.le_of_ble_eq_true rfl, Nat.le_of_ble_eq_true rfl, (Nat.le_of_ble_eq_true rfl), (Nat.le_of_ble_eq_true rfl)⟩ dX12_isDigit_1 xm_kx (xm_ki (fun r3 S2 h1 => ?_))
  refine x_bipush (v := (nI 48)) C dX12_isDigit_4 (by decide) ?_
  refine x_bipush (v := (nI 57)) C dX12_isDigit_6 (by decide) ?_
  refine x_callS (rm' := rm_X12_in) C (kp_X12_in_met h1) lk_87 gw_533 rfl (Nat.le_of_ble_eq_true rfl) ⟨Nat.le_of_ble_eq_true rfl, Nat.le_of_ble_eq_true rfl, (Nat.le_of_ble_eq_true rfl), (Nat.le_of_ble_eq_true rfl)⟩ dX12_isDigit_8 xm_kx (xm_ki (fun r5 S4 h1 => ?_))
  exact x_zret C (Nat.le_of_ble_eq_true rfl) (Nat.le_of_ble_eq_true rfl) rfl h1.1 dX12_isDigit_11 (hg _ _ h1.2)
theorem kp_X12_isDigit_met {h : Nat}  {S : xm_S} {g : Int32 → xm_S → Prop}  (h1 : wp_X12_isDigit h  S g) : xm_Met yX12_isDigit cX12_isDigit 1 (some (FieldType.boolean)) rm_X12_isDigit [xm_r (some h)] S (xm_qi g) xm_nox :=
  xm_ofW RX12 (by decide +kernel) rfl (Nat.le_of_ble_eq_true rfl) (fun K C N hq hx hi => kp_X12_isDigit h  S C N (fun v S h => by rw [hq]; exact ⟨v, rfl, h⟩)  h1)
def rm_X12_readsDigit : Room := { frames := 3, cells := 0, slots := 0, locals := 62 }
theorem dX12_readsDigit_0 : decode cX12_readsDigit 0 = .ok (.aload_n 0, 1) := by decide +kernel
theorem dX12_readsDigit_1 : decode cX12_readsDigit 1 = .ok (.invokevirtual 195, 3) := by decide +kernel
theorem dX12_readsDigit_4 : decode cX12_readsDigit 4 = .ok (.istore_n 2, 1) := by decide +kernel
theorem dX12_readsDigit_5 : decode cX12_readsDigit 5 = .ok (.aload_n 0, 1) := by decide +kernel
theorem dX12_readsDigit_6 : decode cX12_readsDigit 6 = .ok (.getfield 166, 3) := by decide +kernel
theorem dX12_readsDigit_9 : decode cX12_readsDigit 9 = .ok (.iload_n 1, 1) := by decide +kernel
theorem dX12_readsDigit_10 : decode cX12_readsDigit 10 = .ok (.iload_n 2, 1) := by decide +kernel
theorem dX12_readsDigit_11 : decode cX12_readsDigit 11 = .ok (.ifCond .eq 13, 3) := by decide +kernel
theorem dX12_readsDigit_14 : decode cX12_readsDigit 14 = .ok (.aload_n 0, 1) := by decide +kernel
theorem dX12_readsDigit_15 : decode cX12_readsDigit 15 = .ok (.invokevirtual 191, 3) := by decide +kernel
theorem dX12_readsDigit_18 : decode cX12_readsDigit 18 = .ok (.bipush 48, 2) := by decide +kernel
theorem dX12_readsDigit_20 : decode cX12_readsDigit 20 = .ok (.isub, 1) := by decide +kernel
theorem dX12_readsDigit_21 : decode cX12_readsDigit 21 = .ok (.goto 4, 3) := by decide +kernel
theorem dX12_readsDigit_24 : decode cX12_readsDigit 24 = .ok (.iconst 0, 1) := by decide +kernel
theorem dX12_readsDigit_25 : decode cX12_readsDigit 25 = .ok (.iastore, 1) := by decide +kernel
theorem dX12_readsDigit_26 : decode cX12_readsDigit 26 = .ok (.aload_n 0, 1) := by decide +kernel
theorem dX12_readsDigit_27 : decode cX12_readsDigit 27 = .ok (.dup, 1) := by decide +kernel
theorem dX12_readsDigit_28 : decode cX12_readsDigit 28 = .ok (.getfield 185, 3) := by decide +kernel
theorem dX12_readsDigit_31 : decode cX12_readsDigit 31 = .ok (.iload_n 2, 1) := by decide +kernel
theorem dX12_readsDigit_32 : decode cX12_readsDigit 32 = .ok (.ifCond .eq 7, 3) := by decide +kernel
theorem dX12_readsDigit_35 : decode cX12_readsDigit 35 = .ok (.iconst 1, 1) := by decide +kernel
theorem dX12_readsDigit_36 : decode cX12_readsDigit 36 = .ok (.goto 4, 3) := by decide +kernel
theorem dX12_readsDigit_39 : decode cX12_readsDigit 39 = .ok (.iconst 0, 1) := by decide +kernel
theorem dX12_readsDigit_40 : decode cX12_readsDigit 40 = .ok (.iadd, 1) := by decide +kernel
theorem dX12_readsDigit_41 : decode cX12_readsDigit 41 = .ok (.putfield 185, 3) := by decide +kernel
theorem dX12_readsDigit_44 : decode cX12_readsDigit 44 = .ok (.iload_n 2, 1) := by decide +kernel
theorem dX12_readsDigit_45 : decode cX12_readsDigit 45 = .ok (.ireturn, 1) := by decide +kernel
def wp_X12_readsDigit_40 (h : Nat) (x2 : Int32) (s0 : Int32) (s1 : Int32) (s2 : Option Nat) (S : xm_S) (g : Int32 → xm_S → Prop) : Prop :=
  ∃ n1, s2 = some n1 ∧ st_t S n1 = some (12, 0) ∧ ∀ S4, S4 = st_pi S n1 60 (s1 + s0) → (x2 = 0 ∨ x2 = 1) ∧ g x2 S4
set_option maxRecDepth 100000 in
set_option maxHeartbeats 4000000 in
theorem kp_X12_readsDigit_40 {K : xm_K} (h : Nat) (x2 : Int32) (s0 : Int32) (s1 : Int32) (s2 : Option Nat) (S : xm_S) {g : Int32 → xm_S → Prop} (C : xm_Cx K cX12_readsDigit RX12 3 (some (FieldType.boolean)) rm_X12_readsDigit) (N : xm_Nx K) (hg : ∀ v S, g v S → xm_q K (some (xm_i v)) S)  (h1 : wp_X12_readsDigit_40 h x2 s0 s1 s2 S g) : xm_W K 0 0 40 [(2, xm_i x2)] [xm_i s0, xm_i s1, xm_r s2] S := by
  unfold wp_X12_readsDigit_40 at h1
  refine x_iadd C dX12_readsDigit_40 ?_
  obtain ⟨n1, hr2, h1⟩ := h1
  obtain ⟨ht3, h1⟩ := h1
  refine x_putf_i (n := n1) C hr2 ht3 fd_158 xc_12 (by decide) rfl ⟨rfl, rfl⟩ dX12_readsDigit_41 ?_
  refine x_topS (fun S4 e5 => ?_)
  have h1 := h1 S4 e5
  refine x_iload_n C 0 dX12_readsDigit_44 rfl rfl ?_
  exact x_zret C (Nat.le_of_ble_eq_true rfl) (Nat.le_of_ble_eq_true rfl) rfl h1.1 dX12_readsDigit_45 (hg _ _ h1.2)
def wp_X12_readsDigit_25 (h : Nat) (x2 : Int32) (s0 : Int32) (s1 : Int32) (s2 : Option Nat) (S : xm_S) (g : Int32 → xm_S → Prop) : Prop :=
  ∃ n6, s2 = some n6 ∧ ∃ z9, st_t S n6 = some (100, z9) ∧ vp_in s1 z9 ∧ ∀ S11, S11 = st_pi S n6 (s1).toNatClampNeg s0 → st_t S11 h = some (12, 0) ∧ (x2 = 0 → wp_X12_readsDigit_40 h x2 (0 : Int32) (st_i S11 h 60) (some h) S11 g) ∧ (¬ x2 = 0 → wp_X12_readsDigit_40 h x2 (1 : Int32) (st_i S11 h 60) (some h) S11 g)
set_option maxRecDepth 100000 in
set_option maxHeartbeats 4000000 in
theorem kp_X12_readsDigit_25 {K : xm_K} (h : Nat) (x2 : Int32) (s0 : Int32) (s1 : Int32) (s2 : Option Nat) (S : xm_S) {g : Int32 → xm_S → Prop} (C : xm_Cx K cX12_readsDigit RX12 3 (some (FieldType.boolean)) rm_X12_readsDigit) (N : xm_Nx K) (hg : ∀ v S, g v S → xm_q K (some (xm_i v)) S)  (h1 : wp_X12_readsDigit_25 h x2 s0 s1 s2 S g) : xm_W K 0 0 25 [(0, xm_r (some h)), (2, xm_i x2)] [xm_i s0, xm_i s1, xm_r s2] S := by
  unfold wp_X12_readsDigit_25 at h1
  obtain ⟨n6, hr7, h1⟩ := h1
  obtain ⟨z9, ht8, h1⟩ := h1
  obtain ⟨hi10, h1⟩ := h1
  refine x_iast (n := n6) C hr7 ht8 hi10 dX12_readsDigit_25 ?_
  refine x_topS (fun S11 e12 => ?_)
  have h1 := h1 S11 e12
  refine x_aload_n C 0 dX12_readsDigit_26 rfl rfl ?_
  refine x_dup_r C dX12_readsDigit_27 ?_
  obtain ⟨ht13, h1⟩ := h1
  refine x_getf_i (n := h) C rfl ht13 fd_158 (by decide) dX12_readsDigit_28 ?_
  refine x_iload_n C 1 dX12_readsDigit_31 rfl rfl ?_
  refine x_if_eq (tgt := 39) C dX12_readsDigit_32 (by decide) (fun z9 => ?_) (fun z9 => ?_)
  · have h1 := h1.1 z9
    refine x_iconst (v := (0 : Int32)) C dX12_readsDigit_39 (by decide) ?_
    refine x_keep (L' := [(2, xm_i x2)]) C [1] rfl ?_
    exact kp_X12_readsDigit_40 h x2 (0 : Int32) (st_i S11 h 60) (some h) S11 C N hg  h1
  · have h1 := h1.2 z9
    refine x_iconst (v := (1 : Int32)) C dX12_readsDigit_35 (by decide) ?_
    refine x_goto (tgt := 40) C dX12_readsDigit_36 (by decide) ?_
    refine x_keep (L' := [(2, xm_i x2)]) C [1] rfl ?_
    exact kp_X12_readsDigit_40 h x2 (1 : Int32) (st_i S11 h 60) (some h) S11 C N hg  h1
def wp_X12_readsDigit (h : Nat) (x1 : Int32) (S : xm_S) (g : Int32 → xm_S → Prop) : Prop :=
  st_t S h = some (12, 0) ∧ wp_X12_isDigit h S (fun r16 S15 => st_t S15 h = some (12, 0) ∧ (r16 = 0 → wp_X12_readsDigit_25 h r16 (0 : Int32) x1 (st_r S15 h 63) S15 g) ∧ (¬ r16 = 0 → wp_X12_next h S15 (fun r19 S18 => wp_X12_readsDigit_25 h r16 (r19 - (nI 48)) x1 (st_r S15 h 63) S18 g)))
set_option maxRecDepth 100000 in
set_option maxHeartbeats 4000000 in
theorem kp_X12_readsDigit {K : xm_K} (h : Nat) (x1 : Int32) (S : xm_S) {g : Int32 → xm_S → Prop} (C : xm_Cx K cX12_readsDigit RX12 3 (some (FieldType.boolean)) rm_X12_readsDigit) (N : xm_Nx K) (hg : ∀ v S, g v S → xm_q K (some (xm_i v)) S)  (h1 : wp_X12_readsDigit h x1 S g) : xm_W K 0 0 0 [(0, xm_r (some h)), (1, xm_i x1)] [] S := by
  unfold wp_X12_readsDigit at h1
  refine x_aload_n C 0 dX12_readsDigit_0 rfl rfl ?_
  obtain ⟨ht14, h1⟩ := h1
  refine x_callV (rm' := rm_X12_isDigit) (n := h) C (kp_X12_isDigit_met h1) lk_89 gw_544 gw_545 xv_12 rfl rfl ht14 rfl (Nat.le_of_ble_eq_true rfl) ⟨Nat.le_of_ble_eq_true rfl, Nat.le_of_ble_eq_true rfl, (Nat.le_of_ble_eq_true rfl), (Nat.le_of_ble_eq_true rfl)⟩ dX12_readsDigit_1 xm_kx (xm_ki (fun r16 S15 h1 => ?_))
  refine x_istore_n (L' := [(2, xm_i r16), (0, xm_r (some h)), (1, xm_i x1)]) C dX12_readsDigit_4 rfl (by decide) rfl ?_
  refine x_aload_n C 1 dX12_readsDigit_5 rfl rfl ?_
  obtain ⟨ht17, h1⟩ := h1
  refine x_getf_r (n := h) C rfl ht17 fd_162 (by decide) dX12_readsDigit_6 ?_
  refine x_iload_n C 2 dX12_readsDigit_9 rfl rfl ?_
  refine x_iload_n C 0 dX12_readsDigit_10 rfl rfl ?_
  refine x_if_eq (tgt := 24) C dX12_readsDigit_11 (by decide) (fun z9 => ?_) (fun z9 => ?_)
  · have h1 := h1.1 z9
    refine x_iconst (v := (0 : Int32)) C dX12_readsDigit_24 (by decide) ?_
    refine x_keep (L' := [(0, xm_r (some h)), (2, xm_i r16)]) C [1, 0] rfl ?_
    exact kp_X12_readsDigit_25 h r16 (0 : Int32) x1 (st_r S15 h 63) S15 C N hg  h1
  · have h1 := h1.2 z9
    refine x_aload_n C 1 dX12_readsDigit_14 rfl rfl ?_
    refine x_callV (rm' := rm_X12_next) (n := h) C (kp_X12_next_met h1) lk_88 gw_540 gw_541 xv_12 rfl rfl ht17 rfl (Nat.le_of_ble_eq_true rfl) ⟨Nat.le_of_ble_eq_true rfl, Nat.le_of_ble_eq_true rfl, (Nat.le_of_ble_eq_true rfl), (Nat.le_of_ble_eq_true rfl)⟩ dX12_readsDigit_15 xm_kx (xm_ki (fun r19 S18 h1 => ?_))
    refine x_bipush (v := (nI 48)) C dX12_readsDigit_18 (by decide) ?_
    refine x_isub C dX12_readsDigit_20 ?_
    refine x_goto (tgt := 25) C dX12_readsDigit_21 (by decide) ?_
    refine x_keep (L' := [(0, xm_r (some h)), (2, xm_i r16)]) C [1, 0] rfl ?_
    exact kp_X12_readsDigit_25 h r16 (r19 - (nI 48)) x1 (st_r S15 h 63) S18 C N hg  h1
theorem kp_X12_readsDigit_met {h : Nat} {x1 : Int32} {S : xm_S} {g : Int32 → xm_S → Prop}  (h1 : wp_X12_readsDigit h x1 S g) : xm_Met yX12_readsDigit cX12_readsDigit 3 (some (FieldType.boolean)) rm_X12_readsDigit [xm_r (some h), xm_i x1] S (xm_qi g) xm_nox :=
  xm_ofW RX12 (by decide +kernel) rfl (Nat.le_of_ble_eq_true rfl) (fun K C N hq hx hi => kp_X12_readsDigit h x1 S C N (fun v S h => by rw [hq]; exact ⟨v, rfl, h⟩)  h1)
def rm_X12_takes : Room := { frames := 2, cells := 0, slots := 0, locals := 40 }
theorem dX12_takes_0 : decode cX12_takes 0 = .ok (.aload_n 0, 1) := by decide +kernel
theorem dX12_takes_1 : decode cX12_takes 1 = .ok (.invokevirtual 191, 3) := by decide +kernel
theorem dX12_takes_4 : decode cX12_takes 4 = .ok (.iload_n 1, 1) := by decide +kernel
theorem dX12_takes_5 : decode cX12_takes 5 = .ok (.if_icmp .ne 7, 3) := by decide +kernel
theorem dX12_takes_8 : decode cX12_takes 8 = .ok (.iconst 1, 1) := by decide +kernel
theorem dX12_takes_9 : decode cX12_takes 9 = .ok (.goto 4, 3) := by decide +kernel
theorem dX12_takes_12 : decode cX12_takes 12 = .ok (.iconst 0, 1) := by decide +kernel
theorem dX12_takes_13 : decode cX12_takes 13 = .ok (.istore_n 2, 1) := by decide +kernel
theorem dX12_takes_14 : decode cX12_takes 14 = .ok (.aload_n 0, 1) := by decide +kernel
theorem dX12_takes_15 : decode cX12_takes 15 = .ok (.dup, 1) := by decide +kernel
theorem dX12_takes_16 : decode cX12_takes 16 = .ok (.getfield 185, 3) := by decide +kernel
theorem dX12_takes_19 : decode cX12_takes 19 = .ok (.iload_n 2, 1) := by decide +kernel
theorem dX12_takes_20 : decode cX12_takes 20 = .ok (.ifCond .eq 7, 3) := by decide +kernel
theorem dX12_takes_23 : decode cX12_takes 23 = .ok (.iconst 1, 1) := by decide +kernel
theorem dX12_takes_24 : decode cX12_takes 24 = .ok (.goto 4, 3) := by decide +kernel
theorem dX12_takes_27 : decode cX12_takes 27 = .ok (.iconst 0, 1) := by decide +kernel
theorem dX12_takes_28 : decode cX12_takes 28 = .ok (.iadd, 1) := by decide +kernel
theorem dX12_takes_29 : decode cX12_takes 29 = .ok (.putfield 185, 3) := by decide +kernel
theorem dX12_takes_32 : decode cX12_takes 32 = .ok (.iload_n 2, 1) := by decide +kernel
theorem dX12_takes_33 : decode cX12_takes 33 = .ok (.ireturn, 1) := by decide +kernel
def wp_X12_takes_28 (h : Nat) (x2 : Int32) (s0 : Int32) (s1 : Int32) (s2 : Option Nat) (S : xm_S) (g : Int32 → xm_S → Prop) : Prop :=
  ∃ n1, s2 = some n1 ∧ st_t S n1 = some (12, 0) ∧ ∀ S4, S4 = st_pi S n1 60 (s1 + s0) → (x2 = 0 ∨ x2 = 1) ∧ g x2 S4
set_option maxRecDepth 100000 in
set_option maxHeartbeats 4000000 in
theorem kp_X12_takes_28 {K : xm_K} (h : Nat) (x2 : Int32) (s0 : Int32) (s1 : Int32) (s2 : Option Nat) (S : xm_S) {g : Int32 → xm_S → Prop} (C : xm_Cx K cX12_takes RX12 3 (some (FieldType.boolean)) rm_X12_takes) (N : xm_Nx K) (hg : ∀ v S, g v S → xm_q K (some (xm_i v)) S)  (h1 : wp_X12_takes_28 h x2 s0 s1 s2 S g) : xm_W K 0 0 28 [(2, xm_i x2)] [xm_i s0, xm_i s1, xm_r s2] S := by
  unfold wp_X12_takes_28 at h1
  refine x_iadd C dX12_takes_28 ?_
  obtain ⟨n1, hr2, h1⟩ := h1
  obtain ⟨ht3, h1⟩ := h1
  refine x_putf_i (n := n1) C hr2 ht3 fd_158 xc_12 (by decide) rfl ⟨rfl, rfl⟩ dX12_takes_29 ?_
  refine x_topS (fun S4 e5 => ?_)
  have h1 := h1 S4 e5
  refine x_iload_n C 0 dX12_takes_32 rfl rfl ?_
  exact x_zret C (Nat.le_of_ble_eq_true rfl) (Nat.le_of_ble_eq_true rfl) rfl h1.1 dX12_takes_33 (hg _ _ h1.2)
def wp_X12_takes_13 (h : Nat) (s0 : Int32) (S : xm_S) (g : Int32 → xm_S → Prop) : Prop :=
  st_t S h = some (12, 0) ∧ (s0 = 0 → wp_X12_takes_28 h s0 (0 : Int32) (st_i S h 60) (some h) S g) ∧ (¬ s0 = 0 → wp_X12_takes_28 h s0 (1 : Int32) (st_i S h 60) (some h) S g)
set_option maxRecDepth 100000 in
set_option maxHeartbeats 4000000 in
theorem kp_X12_takes_13 {K : xm_K} (h : Nat) (s0 : Int32) (S : xm_S) {g : Int32 → xm_S → Prop} (C : xm_Cx K cX12_takes RX12 3 (some (FieldType.boolean)) rm_X12_takes) (N : xm_Nx K) (hg : ∀ v S, g v S → xm_q K (some (xm_i v)) S)  (h1 : wp_X12_takes_13 h s0 S g) : xm_W K 0 0 13 [(0, xm_r (some h))] [xm_i s0] S := by
  unfold wp_X12_takes_13 at h1
  refine x_istore_n (L' := [(2, xm_i s0), (0, xm_r (some h))]) C dX12_takes_13 rfl (by decide) rfl ?_
  refine x_aload_n C 1 dX12_takes_14 rfl rfl ?_
  refine x_dup_r C dX12_takes_15 ?_
  obtain ⟨ht6, h1⟩ := h1
  refine x_getf_i (n := h) C rfl ht6 fd_158 (by decide) dX12_takes_16 ?_
  refine x_iload_n C 0 dX12_takes_19 rfl rfl ?_
  refine x_if_eq (tgt := 27) C dX12_takes_20 (by decide) (fun z9 => ?_) (fun z9 => ?_)
  · have h1 := h1.1 z9
    refine x_iconst (v := (0 : Int32)) C dX12_takes_27 (by decide) ?_
    refine x_keep (L' := [(2, xm_i s0)]) C [0] rfl ?_
    exact kp_X12_takes_28 h s0 (0 : Int32) (st_i S h 60) (some h) S C N hg  h1
  · have h1 := h1.2 z9
    refine x_iconst (v := (1 : Int32)) C dX12_takes_23 (by decide) ?_
    refine x_goto (tgt := 28) C dX12_takes_24 (by decide) ?_
    refine x_keep (L' := [(2, xm_i s0)]) C [0] rfl ?_
    exact kp_X12_takes_28 h s0 (1 : Int32) (st_i S h 60) (some h) S C N hg  h1
def wp_X12_takes (h : Nat) (x1 : Int32) (S : xm_S) (g : Int32 → xm_S → Prop) : Prop :=
  st_t S h = some (12, 0) ∧ wp_X12_next h S (fun r9 S8 => (¬ r9 = x1 → wp_X12_takes_13 h (0 : Int32) S8 g) ∧ (r9 = x1 → wp_X12_takes_13 h (1 : Int32) S8 g))
set_option maxRecDepth 100000 in
set_option maxHeartbeats 4000000 in
theorem kp_X12_takes {K : xm_K} (h : Nat) (x1 : Int32) (S : xm_S) {g : Int32 → xm_S → Prop} (C : xm_Cx K cX12_takes RX12 3 (some (FieldType.boolean)) rm_X12_takes) (N : xm_Nx K) (hg : ∀ v S, g v S → xm_q K (some (xm_i v)) S)  (h1 : wp_X12_takes h x1 S g) : xm_W K 0 0 0 [(0, xm_r (some h)), (1, xm_i x1)] [] S := by
  unfold wp_X12_takes at h1
  refine x_aload_n C 0 dX12_takes_0 rfl rfl ?_
  obtain ⟨ht7, h1⟩ := h1
  refine x_callV (rm' := rm_X12_next) (n := h) C (kp_X12_next_met h1) lk_88 gw_540 gw_541 xv_12 rfl rfl ht7 rfl (Nat.le_of_ble_eq_true rfl) ⟨Nat.le_of_ble_eq_true rfl, Nat.le_of_ble_eq_true rfl, (Nat.le_of_ble_eq_true rfl), (Nat.le_of_ble_eq_true rfl)⟩ dX12_takes_1 xm_kx (xm_ki (fun r9 S8 h1 => ?_))
  refine x_iload_n C 1 dX12_takes_4 rfl rfl ?_
  refine x_icmp_ne (tgt := 12) C dX12_takes_5 (by decide) (fun z9 => ?_) (fun z9 => ?_)
  · have h1 := h1.1 z9
    refine x_iconst (v := (0 : Int32)) C dX12_takes_12 (by decide) ?_
    refine x_keep (L' := [(0, xm_r (some h))]) C [0] rfl ?_
    exact kp_X12_takes_13 h (0 : Int32) S8 C N hg  h1
  · have h1 := h1.2 z9
    refine x_iconst (v := (1 : Int32)) C dX12_takes_8 (by decide) ?_
    refine x_goto (tgt := 13) C dX12_takes_9 (by decide) ?_
    refine x_keep (L' := [(0, xm_r (some h))]) C [0] rfl ?_
    exact kp_X12_takes_13 h (1 : Int32) S8 C N hg  h1
theorem kp_X12_takes_met {h : Nat} {x1 : Int32} {S : xm_S} {g : Int32 → xm_S → Prop}  (h1 : wp_X12_takes h x1 S g) : xm_Met yX12_takes cX12_takes 3 (some (FieldType.boolean)) rm_X12_takes [xm_r (some h), xm_i x1] S (xm_qi g) xm_nox :=
  xm_ofW RX12 (by decide +kernel) rfl (Nat.le_of_ble_eq_true rfl) (fun K C N hq hx hi => kp_X12_takes h x1 S C N (fun v S h => by rw [hq]; exact ⟨v, rfl, h⟩)  h1)
def rm_X12_readsVersion : Room := { frames := 4, cells := 0, slots := 0, locals := 84 }
theorem dX12_readsVersion_0 : decode cX12_readsVersion 0 = .ok (.iconst 0, 1) := by decide +kernel
theorem dX12_readsVersion_1 : decode cX12_readsVersion 1 = .ok (.istore_n 1, 1) := by decide +kernel
theorem dX12_readsVersion_2 : decode cX12_readsVersion 2 = .ok (.iload_n 1, 1) := by decide +kernel
theorem dX12_readsVersion_3 : decode cX12_readsVersion 3 = .ok (.iconst 5, 1) := by decide +kernel
theorem dX12_readsVersion_4 : decode cX12_readsVersion 4 = .ok (.if_icmp .ge 16, 3) := by decide +kernel
theorem dX12_readsVersion_7 : decode cX12_readsVersion 7 = .ok (.aload_n 0, 1) := by decide +kernel
theorem dX12_readsVersion_8 : decode cX12_readsVersion 8 = .ok (.getfield 166, 3) := by decide +kernel
theorem dX12_readsVersion_11 : decode cX12_readsVersion 11 = .ok (.iload_n 1, 1) := by decide +kernel
theorem dX12_readsVersion_12 : decode cX12_readsVersion 12 = .ok (.iconst 0, 1) := by decide +kernel
theorem dX12_readsVersion_13 : decode cX12_readsVersion 13 = .ok (.iastore, 1) := by decide +kernel
theorem dX12_readsVersion_14 : decode cX12_readsVersion 14 = .ok (.iinc 1 1, 3) := by decide +kernel
theorem dX12_readsVersion_17 : decode cX12_readsVersion 17 = .ok (.goto (-15), 3) := by decide +kernel
theorem dX12_readsVersion_20 : decode cX12_readsVersion 20 = .ok (.aload_n 0, 1) := by decide +kernel
theorem dX12_readsVersion_21 : decode cX12_readsVersion 21 = .ok (.iconst 1, 1) := by decide +kernel
theorem dX12_readsVersion_22 : decode cX12_readsVersion 22 = .ok (.putfield 199, 3) := by decide +kernel
theorem dX12_readsVersion_25 : decode cX12_readsVersion 25 = .ok (.aload_n 0, 1) := by decide +kernel
theorem dX12_readsVersion_26 : decode cX12_readsVersion 26 = .ok (.iconst 1, 1) := by decide +kernel
theorem dX12_readsVersion_27 : decode cX12_readsVersion 27 = .ok (.invokevirtual 202, 3) := by decide +kernel
theorem dX12_readsVersion_30 : decode cX12_readsVersion 30 = .ok (.ifCond .ne 5, 3) := by decide +kernel
theorem dX12_readsVersion_33 : decode cX12_readsVersion 33 = .ok (.iconst 0, 1) := by decide +kernel
theorem dX12_readsVersion_34 : decode cX12_readsVersion 34 = .ok (.ireturn, 1) := by decide +kernel
theorem dX12_readsVersion_35 : decode cX12_readsVersion 35 = .ok (.aload_n 0, 1) := by decide +kernel
theorem dX12_readsVersion_36 : decode cX12_readsVersion 36 = .ok (.bipush 58, 2) := by decide +kernel
theorem dX12_readsVersion_38 : decode cX12_readsVersion 38 = .ok (.invokevirtual 205, 3) := by decide +kernel
theorem dX12_readsVersion_41 : decode cX12_readsVersion 41 = .ok (.ifCond .eq 25, 3) := by decide +kernel
theorem dX12_readsVersion_44 : decode cX12_readsVersion 44 = .ok (.aload_n 0, 1) := by decide +kernel
theorem dX12_readsVersion_45 : decode cX12_readsVersion 45 = .ok (.getfield 166, 3) := by decide +kernel
theorem dX12_readsVersion_48 : decode cX12_readsVersion 48 = .ok (.iconst 0, 1) := by decide +kernel
theorem dX12_readsVersion_49 : decode cX12_readsVersion 49 = .ok (.aload_n 0, 1) := by decide +kernel
theorem dX12_readsVersion_50 : decode cX12_readsVersion 50 = .ok (.getfield 166, 3) := by decide +kernel
theorem dX12_readsVersion_53 : decode cX12_readsVersion 53 = .ok (.iconst 1, 1) := by decide +kernel
theorem dX12_readsVersion_54 : decode cX12_readsVersion 54 = .ok (.iaload, 1) := by decide +kernel
theorem dX12_readsVersion_55 : decode cX12_readsVersion 55 = .ok (.iastore, 1) := by decide +kernel
theorem dX12_readsVersion_56 : decode cX12_readsVersion 56 = .ok (.aload_n 0, 1) := by decide +kernel
theorem dX12_readsVersion_57 : decode cX12_readsVersion 57 = .ok (.iconst 1, 1) := by decide +kernel
theorem dX12_readsVersion_58 : decode cX12_readsVersion 58 = .ok (.invokevirtual 202, 3) := by decide +kernel
theorem dX12_readsVersion_61 : decode cX12_readsVersion 61 = .ok (.ifCond .ne 5, 3) := by decide +kernel
theorem dX12_readsVersion_64 : decode cX12_readsVersion 64 = .ok (.iconst 0, 1) := by decide +kernel
theorem dX12_readsVersion_65 : decode cX12_readsVersion 65 = .ok (.ireturn, 1) := by decide +kernel
theorem dX12_readsVersion_66 : decode cX12_readsVersion 66 = .ok (.iconst 2, 1) := by decide +kernel
theorem dX12_readsVersion_67 : decode cX12_readsVersion 67 = .ok (.istore_n 1, 1) := by decide +kernel
theorem dX12_readsVersion_68 : decode cX12_readsVersion 68 = .ok (.iload_n 1, 1) := by decide +kernel
theorem dX12_readsVersion_69 : decode cX12_readsVersion 69 = .ok (.iconst 4, 1) := by decide +kernel
theorem dX12_readsVersion_70 : decode cX12_readsVersion 70 = .ok (.if_icmp .ge 38, 3) := by decide +kernel
theorem dX12_readsVersion_73 : decode cX12_readsVersion 73 = .ok (.aload_n 0, 1) := by decide +kernel
theorem dX12_readsVersion_74 : decode cX12_readsVersion 74 = .ok (.bipush 46, 2) := by decide +kernel
theorem dX12_readsVersion_76 : decode cX12_readsVersion 76 = .ok (.invokevirtual 205, 3) := by decide +kernel
theorem dX12_readsVersion_79 : decode cX12_readsVersion 79 = .ok (.ifCond .eq 29, 3) := by decide +kernel
theorem dX12_readsVersion_82 : decode cX12_readsVersion 82 = .ok (.aload_n 0, 1) := by decide +kernel
theorem dX12_readsVersion_83 : decode cX12_readsVersion 83 = .ok (.iload_n 1, 1) := by decide +kernel
theorem dX12_readsVersion_84 : decode cX12_readsVersion 84 = .ok (.invokevirtual 202, 3) := by decide +kernel
theorem dX12_readsVersion_87 : decode cX12_readsVersion 87 = .ok (.ifCond .ne 5, 3) := by decide +kernel
theorem dX12_readsVersion_90 : decode cX12_readsVersion 90 = .ok (.iconst 0, 1) := by decide +kernel
theorem dX12_readsVersion_91 : decode cX12_readsVersion 91 = .ok (.ireturn, 1) := by decide +kernel
theorem dX12_readsVersion_92 : decode cX12_readsVersion 92 = .ok (.aload_n 0, 1) := by decide +kernel
theorem dX12_readsVersion_93 : decode cX12_readsVersion 93 = .ok (.dup, 1) := by decide +kernel
theorem dX12_readsVersion_94 : decode cX12_readsVersion 94 = .ok (.getfield 199, 3) := by decide +kernel
theorem dX12_readsVersion_97 : decode cX12_readsVersion 97 = .ok (.iconst 1, 1) := by decide +kernel
theorem dX12_readsVersion_98 : decode cX12_readsVersion 98 = .ok (.iadd, 1) := by decide +kernel
theorem dX12_readsVersion_99 : decode cX12_readsVersion 99 = .ok (.putfield 199, 3) := by decide +kernel
theorem dX12_readsVersion_102 : decode cX12_readsVersion 102 = .ok (.iinc 1 1, 3) := by decide +kernel
theorem dX12_readsVersion_105 : decode cX12_readsVersion 105 = .ok (.goto (-37), 3) := by decide +kernel
theorem dX12_readsVersion_108 : decode cX12_readsVersion 108 = .ok (.aload_n 0, 1) := by decide +kernel
theorem dX12_readsVersion_109 : decode cX12_readsVersion 109 = .ok (.bipush 45, 2) := by decide +kernel
theorem dX12_readsVersion_111 : decode cX12_readsVersion 111 = .ok (.invokevirtual 205, 3) := by decide +kernel
theorem dX12_readsVersion_114 : decode cX12_readsVersion 114 = .ok (.ifCond .eq 11, 3) := by decide +kernel
theorem dX12_readsVersion_117 : decode cX12_readsVersion 117 = .ok (.aload_n 0, 1) := by decide +kernel
theorem dX12_readsVersion_118 : decode cX12_readsVersion 118 = .ok (.iconst 4, 1) := by decide +kernel
theorem dX12_readsVersion_119 : decode cX12_readsVersion 119 = .ok (.invokevirtual 202, 3) := by decide +kernel
theorem dX12_readsVersion_122 : decode cX12_readsVersion 122 = .ok (.ifCond .eq 7, 3) := by decide +kernel
theorem dX12_readsVersion_125 : decode cX12_readsVersion 125 = .ok (.iconst 1, 1) := by decide +kernel
theorem dX12_readsVersion_126 : decode cX12_readsVersion 126 = .ok (.goto 4, 3) := by decide +kernel
theorem dX12_readsVersion_129 : decode cX12_readsVersion 129 = .ok (.iconst 0, 1) := by decide +kernel
theorem dX12_readsVersion_130 : decode cX12_readsVersion 130 = .ok (.ireturn, 1) := by decide +kernel
def wp_X12_readsVersion_130 (h : Nat) (s0 : Int32) (S : xm_S) (g : Int32 → xm_S → Prop) : Prop :=
  (s0 = 0 ∨ s0 = 1) ∧ g s0 S
set_option maxRecDepth 100000 in
set_option maxHeartbeats 4000000 in
theorem kp_X12_readsVersion_130 {K : xm_K} (h : Nat) (s0 : Int32) (S : xm_S) {g : Int32 → xm_S → Prop} (C : xm_Cx K cX12_readsVersion RX12 2 (some (FieldType.boolean)) rm_X12_readsVersion) (N : xm_Nx K) (hg : ∀ v S, g v S → xm_q K (some (xm_i v)) S)  (h1 : wp_X12_readsVersion_130 h s0 S g) : xm_W K 0 0 130 [] [xm_i s0] S := by
  unfold wp_X12_readsVersion_130 at h1
  exact x_zret C (Nat.le_of_ble_eq_true rfl) (Nat.le_of_ble_eq_true rfl) rfl h1.1 dX12_readsVersion_130 (hg _ _ h1.2)
def wp_X12_readsVersion_125 (h : Nat)  (S : xm_S) (g : Int32 → xm_S → Prop) : Prop :=
  wp_X12_readsVersion_130 h (1 : Int32) S g
set_option maxRecDepth 100000 in
set_option maxHeartbeats 4000000 in
theorem kp_X12_readsVersion_125 {K : xm_K} (h : Nat)  (S : xm_S) {g : Int32 → xm_S → Prop} (C : xm_Cx K cX12_readsVersion RX12 2 (some (FieldType.boolean)) rm_X12_readsVersion) (N : xm_Nx K) (hg : ∀ v S, g v S → xm_q K (some (xm_i v)) S)  (h1 : wp_X12_readsVersion_125 h  S g) : xm_W K 0 0 125 [] [] S := by
  unfold wp_X12_readsVersion_125 at h1
  refine x_iconst (v := (1 : Int32)) C dX12_readsVersion_125 (by decide) ?_
  refine x_goto (tgt := 130) C dX12_readsVersion_126 (by decide) ?_
  exact kp_X12_readsVersion_130 h (1 : Int32) S C N hg  h1
def wp_X12_readsVersion_108 (h : Nat)  (S : xm_S) (g : Int32 → xm_S → Prop) : Prop :=
  st_t S h = some (12, 0) ∧ wp_X12_takes h (nI 45) S (fun r3 S2 => (r3 = 0 → wp_X12_readsVersion_125 h S2 g) ∧ (¬ r3 = 0 → st_t S2 h = some (12, 0) ∧ wp_X12_readsDigit h (nI 4) S2 (fun r6 S5 => (r6 = 0 → wp_X12_readsVersion_130 h (0 : Int32) S5 g) ∧ (¬ r6 = 0 → wp_X12_readsVersion_125 h S5 g))))
set_option maxRecDepth 100000 in
set_option maxHeartbeats 4000000 in
theorem kp_X12_readsVersion_108 {K : xm_K} (h : Nat)  (S : xm_S) {g : Int32 → xm_S → Prop} (C : xm_Cx K cX12_readsVersion RX12 2 (some (FieldType.boolean)) rm_X12_readsVersion) (N : xm_Nx K) (hg : ∀ v S, g v S → xm_q K (some (xm_i v)) S)  (h1 : wp_X12_readsVersion_108 h  S g) : xm_W K 0 0 108 [(0, xm_r (some h))] [] S := by
  unfold wp_X12_readsVersion_108 at h1
  refine x_aload_n C 0 dX12_readsVersion_108 rfl rfl ?_
  refine x_bipush (v := (nI 45)) C dX12_readsVersion_109 (by decide) ?_
  obtain ⟨ht1, h1⟩ := h1
  refine x_callV (rm' := rm_X12_takes) (n := h) C (kp_X12_takes_met h1) lk_90 gw_549 gw_550 xv_12 rfl rfl ht1 rfl (Nat.le_of_ble_eq_true rfl) ⟨Nat.le_of_ble_eq_true rfl, Nat.le_of_ble_eq_true rfl, (Nat.le_of_ble_eq_true rfl), (Nat.le_of_ble_eq_true rfl)⟩ dX12_readsVersion_111 xm_kx (xm_ki (fun r3 S2 h1 => ?_))
  refine x_if_eq (tgt := 125) C dX12_readsVersion_114 (by decide) (fun z9 => ?_) (fun z9 => ?_)
  · have h1 := h1.1 z9
    refine x_keep (L' := []) C [] rfl ?_
    exact kp_X12_readsVersion_125 h S2 C N hg  h1
  · have h1 := h1.2 z9
    refine x_aload_n C 0 dX12_readsVersion_117 rfl rfl ?_
    refine x_iconst (v := (nI 4)) C dX12_readsVersion_118 (by decide) ?_
    obtain ⟨ht4, h1⟩ := h1
    refine x_callV (rm' := rm_X12_readsDigit) (n := h) C (kp_X12_readsDigit_met h1) lk_91 gw_553 gw_554 xv_12 rfl rfl ht4 rfl (Nat.le_of_ble_eq_true rfl) ⟨Nat.le_of_ble_eq_true rfl, Nat.le_of_ble_eq_true rfl, (Nat.le_of_ble_eq_true rfl), (Nat.le_of_ble_eq_true rfl)⟩ dX12_readsVersion_119 xm_kx (xm_ki (fun r6 S5 h1 => ?_))
    refine x_if_eq (tgt := 129) C dX12_readsVersion_122 (by decide) (fun z9 => ?_) (fun z9 => ?_)
    · have h1 := h1.1 z9
      refine x_iconst (v := (0 : Int32)) C dX12_readsVersion_129 (by decide) ?_
      refine x_keep (L' := []) C [] rfl ?_
      exact kp_X12_readsVersion_130 h (0 : Int32) S5 C N hg  h1
    · have h1 := h1.2 z9
      refine x_keep (L' := []) C [] rfl ?_
      exact kp_X12_readsVersion_125 h S5 C N hg  h1
def wp_X12_readsVersion_68B (h : Nat) (x1 : Int32) (S : xm_S) (g : Int32 → xm_S → Prop) (Z68 : Int32 → xm_S → Prop) : Prop :=
  ((nI 4) ≤ x1 → wp_X12_readsVersion_108 h S g) ∧ (¬ (nI 4) ≤ x1 → st_t S h = some (12, 0) ∧ wp_X12_takes h (nI 46) S (fun r9 S8 => (r9 = 0 → wp_X12_readsVersion_108 h S8 g) ∧ (¬ r9 = 0 → st_t S8 h = some (12, 0) ∧ wp_X12_readsDigit h x1 S8 (fun r12 S11 => (¬ r12 = 0 → st_t S11 h = some (12, 0) ∧ ∀ S14, S14 = st_pi S11 h 64 ((st_i S11 h 64) + (1 : Int32)) → ∀ y16, y16 = (x1 + (1 : Int32)) → Z68 y16 S14) ∧ (r12 = 0 → g (0 : Int32) S11)))))
def wp_X12_readsVersion_68 (h : Nat) (x1 : Int32) (S : xm_S) (g : Int32 → xm_S → Prop) : Prop :=
  ∀ Z68 : Int32 → xm_S → Prop, (∀ x1 S, wp_X12_readsVersion_68B h x1 S g Z68 → Z68 x1 S) → Z68 x1 S
set_option maxRecDepth 100000 in
set_option maxHeartbeats 4000000 in
theorem kp_X12_readsVersion_68B {K : xm_K} (h : Nat) (x1 : Int32) (S : xm_S) {g : Int32 → xm_S → Prop} {Z68 : Int32 → xm_S → Prop} (C : xm_Cx K cX12_readsVersion RX12 2 (some (FieldType.boolean)) rm_X12_readsVersion) (N : xm_Nx K) (hg : ∀ v S, g v S → xm_q K (some (xm_i v)) S) (hZ68 : ∀ x1 S, Z68 x1 S → xm_W K 0 0 68 [(0, xm_r (some h)), (1, xm_i x1)] [] S) (h1 : wp_X12_readsVersion_68B h x1 S g Z68) : xm_W K 0 0 68 [(0, xm_r (some h)), (1, xm_i x1)] [] S := by
  unfold wp_X12_readsVersion_68B at h1
  refine x_iload_n C 1 dX12_readsVersion_68 rfl rfl ?_
  refine x_iconst (v := (nI 4)) C dX12_readsVersion_69 (by decide) ?_
  refine x_icmp_ge (tgt := 108) C dX12_readsVersion_70 (by decide) (fun z9 => ?_) (fun z9 => ?_)
  · have h1 := h1.1 z9
    refine x_keep (L' := [(0, xm_r (some h))]) C [0] rfl ?_
    exact kp_X12_readsVersion_108 h S C N hg  h1
  · have h1 := h1.2 z9
    refine x_aload_n C 0 dX12_readsVersion_73 rfl rfl ?_
    refine x_bipush (v := (nI 46)) C dX12_readsVersion_74 (by decide) ?_
    obtain ⟨ht7, h1⟩ := h1
    refine x_callV (rm' := rm_X12_takes) (n := h) C (kp_X12_takes_met h1) lk_90 gw_549 gw_550 xv_12 rfl rfl ht7 rfl (Nat.le_of_ble_eq_true rfl) ⟨Nat.le_of_ble_eq_true rfl, Nat.le_of_ble_eq_true rfl, (Nat.le_of_ble_eq_true rfl), (Nat.le_of_ble_eq_true rfl)⟩ dX12_readsVersion_76 xm_kx (xm_ki (fun r9 S8 h1 => ?_))
    refine x_if_eq (tgt := 108) C dX12_readsVersion_79 (by decide) (fun z9 => ?_) (fun z9 => ?_)
    · have h1 := h1.1 z9
      refine x_keep (L' := [(0, xm_r (some h))]) C [0] rfl ?_
      exact kp_X12_readsVersion_108 h S8 C N hg  h1
    · have h1 := h1.2 z9
      refine x_aload_n C 0 dX12_readsVersion_82 rfl rfl ?_
      refine x_iload_n C 1 dX12_readsVersion_83 rfl rfl ?_
      obtain ⟨ht10, h1⟩ := h1
      refine x_callV (rm' := rm_X12_readsDigit) (n := h) C (kp_X12_readsDigit_met h1) lk_91 gw_553 gw_554 xv_12 rfl rfl ht10 rfl (Nat.le_of_ble_eq_true rfl) ⟨Nat.le_of_ble_eq_true rfl, Nat.le_of_ble_eq_true rfl, (Nat.le_of_ble_eq_true rfl), (Nat.le_of_ble_eq_true rfl)⟩ dX12_readsVersion_84 xm_kx (xm_ki (fun r12 S11 h1 => ?_))
      refine x_if_ne (tgt := 92) C dX12_readsVersion_87 (by decide) (fun z9 => ?_) (fun z9 => ?_)
      · have h1 := h1.1 z9
        refine x_aload_n C 0 dX12_readsVersion_92 rfl rfl ?_
        refine x_dup_r C dX12_readsVersion_93 ?_
        obtain ⟨ht13, h1⟩ := h1
        refine x_getf_i (n := h) C rfl ht13 fd_163 (by decide) dX12_readsVersion_94 ?_
        refine x_iconst (v := (1 : Int32)) C dX12_readsVersion_97 (by decide) ?_
        refine x_iadd C dX12_readsVersion_98 ?_
        refine x_putf_i (n := h) C rfl ht13 fd_163 xc_12 (by decide) rfl ⟨rfl, rfl⟩ dX12_readsVersion_99 ?_
        refine x_topS (fun S14 e15 => ?_)
        have h1 := h1 S14 e15
        obtain ⟨y16, e17⟩ : ∃ y16, y16 = (x1 + (1 : Int32)) := ⟨_, rfl⟩
        have h1 := h1 y16 e17
        refine x_iinc (v := y16) (L' := [(1, xm_i y16), (0, xm_r (some h))]) C 1 dX12_readsVersion_102 rfl (by rw [e17]; rfl) (by decide) rfl ?_
        refine x_goto (tgt := 68) C dX12_readsVersion_105 (by decide) ?_
        refine x_keep (L' := [(0, xm_r (some h)), (1, xm_i y16)]) C [1, 0] rfl ?_
        exact hZ68 y16 S14 h1
      · have h1 := h1.2 z9
        refine x_iconst (v := (0 : Int32)) C dX12_readsVersion_90 (by decide) ?_
        exact x_zret C (Nat.le_of_ble_eq_true rfl) (Nat.le_of_ble_eq_true rfl) rfl (by decide) dX12_readsVersion_91 (hg _ _ h1)
theorem kp_X12_readsVersion_68 {K : xm_K} (h : Nat) (x1 : Int32) (S : xm_S) {g : Int32 → xm_S → Prop} (C : xm_Cx K cX12_readsVersion RX12 2 (some (FieldType.boolean)) rm_X12_readsVersion) (N : xm_Nx K) (hg : ∀ v S, g v S → xm_q K (some (xm_i v)) S)  (h1 : wp_X12_readsVersion_68 h x1 S g) : xm_W K 0 0 68 [(0, xm_r (some h)), (1, xm_i x1)] [] S :=
  h1 (fun x1 S => xm_W K 0 0 68 [(0, xm_r (some h)), (1, xm_i x1)] [] S) (fun x1 S hb => kp_X12_readsVersion_68B h x1 S C N hg (fun x1 S hz => hz) hb)
def wp_X12_readsVersion_66 (h : Nat)  (S : xm_S) (g : Int32 → xm_S → Prop) : Prop :=
  wp_X12_readsVersion_68 h (nI 2) S g
set_option maxRecDepth 100000 in
set_option maxHeartbeats 4000000 in
theorem kp_X12_readsVersion_66 {K : xm_K} (h : Nat)  (S : xm_S) {g : Int32 → xm_S → Prop} (C : xm_Cx K cX12_readsVersion RX12 2 (some (FieldType.boolean)) rm_X12_readsVersion) (N : xm_Nx K) (hg : ∀ v S, g v S → xm_q K (some (xm_i v)) S)  (h1 : wp_X12_readsVersion_66 h  S g) : xm_W K 0 0 66 [(0, xm_r (some h))] [] S := by
  unfold wp_X12_readsVersion_66 at h1
  refine x_iconst (v := (nI 2)) C dX12_readsVersion_66 (by decide) ?_
  refine x_istore_n (L' := [(1, xm_i (nI 2)), (0, xm_r (some h))]) C dX12_readsVersion_67 rfl (by decide) rfl ?_
  refine x_keep (L' := [(0, xm_r (some h)), (1, xm_i (nI 2))]) C [1, 0] rfl ?_
  exact kp_X12_readsVersion_68 h (nI 2) S C N hg  h1
def wp_X12_readsVersion_2B (h : Nat) (x1 : Int32) (S : xm_S) (g : Int32 → xm_S → Prop) (Z2 : Int32 → xm_S → Prop) : Prop :=
  ((nI 5) ≤ x1 → st_t S h = some (12, 0) ∧ ∀ S19, S19 = st_pi S h 64 (1 : Int32) → wp_X12_readsDigit h (1 : Int32) S19 (fun r22 S21 => (¬ r22 = 0 → st_t S21 h = some (12, 0) ∧ wp_X12_takes h (nI 58) S21 (fun r25 S24 => (r25 = 0 → wp_X12_readsVersion_66 h S24 g) ∧ (¬ r25 = 0 → st_t S24 h = some (12, 0) ∧ ∃ n27, (st_r S24 h 63) = some n27 ∧ ∃ z30, st_t S24 n27 = some (100, z30) ∧ vp_in (1 : Int32) z30 ∧ ∃ n32, (st_r S24 h 63) = some n32 ∧ ∃ z35, st_t S24 n32 = some (100, z35) ∧ vp_in (0 : Int32) z35 ∧ ∀ S37, S37 = st_pi S24 n32 ((0 : Int32)).toNatClampNeg (st_i S24 n27 ((1 : Int32)).toNatClampNeg) → wp_X12_readsDigit h (1 : Int32) S37 (fun r40 S39 => (¬ r40 = 0 → wp_X12_readsVersion_66 h S39 g) ∧ (r40 = 0 → g (0 : Int32) S39))))) ∧ (r22 = 0 → g (0 : Int32) S21))) ∧ (¬ (nI 5) ≤ x1 → st_t S h = some (12, 0) ∧ ∃ n42, (st_r S h 63) = some n42 ∧ ∃ z45, st_t S n42 = some (100, z45) ∧ vp_in x1 z45 ∧ ∀ S47, S47 = st_pi S n42 (x1).toNatClampNeg (0 : Int32) → ∀ y49, y49 = (x1 + (1 : Int32)) → Z2 y49 S47)
def wp_X12_readsVersion_2 (h : Nat) (x1 : Int32) (S : xm_S) (g : Int32 → xm_S → Prop) : Prop :=
  ∀ Z2 : Int32 → xm_S → Prop, (∀ x1 S, wp_X12_readsVersion_2B h x1 S g Z2 → Z2 x1 S) → Z2 x1 S
set_option maxRecDepth 100000 in
set_option maxHeartbeats 4000000 in
theorem kp_X12_readsVersion_2B {K : xm_K} (h : Nat) (x1 : Int32) (S : xm_S) {g : Int32 → xm_S → Prop} {Z2 : Int32 → xm_S → Prop} (C : xm_Cx K cX12_readsVersion RX12 2 (some (FieldType.boolean)) rm_X12_readsVersion) (N : xm_Nx K) (hg : ∀ v S, g v S → xm_q K (some (xm_i v)) S) (hZ2 : ∀ x1 S, Z2 x1 S → xm_W K 0 0 2 [(0, xm_r (some h)), (1, xm_i x1)] [] S) (h1 : wp_X12_readsVersion_2B h x1 S g Z2) : xm_W K 0 0 2 [(0, xm_r (some h)), (1, xm_i x1)] [] S := by
  unfold wp_X12_readsVersion_2B at h1
  refine x_iload_n C 1 dX12_readsVersion_2 rfl rfl ?_
  refine x_iconst (v := (nI 5)) C dX12_readsVersion_3 (by decide) ?_
  refine x_icmp_ge (tgt := 20) C dX12_readsVersion_4 (by decide) (fun z9 => ?_) (fun z9 => ?_)
  · have h1 := h1.1 z9
    refine x_aload_n C 0 dX12_readsVersion_20 rfl rfl ?_
    refine x_iconst (v := (1 : Int32)) C dX12_readsVersion_21 (by decide) ?_
    obtain ⟨ht18, h1⟩ := h1
    refine x_putf_i (n := h) C rfl ht18 fd_163 xc_12 (by decide) rfl ⟨rfl, rfl⟩ dX12_readsVersion_22 ?_
    refine x_topS (fun S19 e20 => ?_)
    have h1 := h1 S19 e20
    refine x_aload_n C 0 dX12_readsVersion_25 rfl rfl ?_
    refine x_iconst (v := (1 : Int32)) C dX12_readsVersion_26 (by decide) ?_
    refine x_callV (rm' := rm_X12_readsDigit) (n := h) C (kp_X12_readsDigit_met h1) lk_91 gw_553 gw_554 xv_12 rfl rfl (tk_p e20 ht18) rfl (Nat.le_of_ble_eq_true rfl) ⟨Nat.le_of_ble_eq_true rfl, Nat.le_of_ble_eq_true rfl, (Nat.le_of_ble_eq_true rfl), (Nat.le_of_ble_eq_true rfl)⟩ dX12_readsVersion_27 xm_kx (xm_ki (fun r22 S21 h1 => ?_))
    refine x_if_ne (tgt := 35) C dX12_readsVersion_30 (by decide) (fun z9 => ?_) (fun z9 => ?_)
    · have h1 := h1.1 z9
      refine x_aload_n C 0 dX12_readsVersion_35 rfl rfl ?_
      refine x_bipush (v := (nI 58)) C dX12_readsVersion_36 (by decide) ?_
      obtain ⟨ht23, h1⟩ := h1
      refine x_callV (rm' := rm_X12_takes) (n := h) C (kp_X12_takes_met h1) lk_90 gw_549 gw_550 xv_12 rfl rfl ht23 rfl (Nat.le_of_ble_eq_true rfl) ⟨Nat.le_of_ble_eq_true rfl, Nat.le_of_ble_eq_true rfl, (Nat.le_of_ble_eq_true rfl), (Nat.le_of_ble_eq_true rfl)⟩ dX12_readsVersion_38 xm_kx (xm_ki (fun r25 S24 h1 => ?_))
      refine x_if_eq (tgt := 66) C dX12_readsVersion_41 (by decide) (fun z9 => ?_) (fun z9 => ?_)
      · have h1 := h1.1 z9
        refine x_keep (L' := [(0, xm_r (some h))]) C [0] rfl ?_
        exact kp_X12_readsVersion_66 h S24 C N hg  h1
      · have h1 := h1.2 z9
        refine x_aload_n C 0 dX12_readsVersion_44 rfl rfl ?_
        obtain ⟨ht26, h1⟩ := h1
        refine x_getf_r (n := h) C rfl ht26 fd_162 (by decide) dX12_readsVersion_45 ?_
        refine x_iconst (v := (0 : Int32)) C dX12_readsVersion_48 (by decide) ?_
        refine x_aload_n C 0 dX12_readsVersion_49 rfl rfl ?_
        refine x_getf_r (n := h) C rfl ht26 fd_162 (by decide) dX12_readsVersion_50 ?_
        refine x_iconst (v := (1 : Int32)) C dX12_readsVersion_53 (by decide) ?_
        obtain ⟨n27, hr28, h1⟩ := h1
        obtain ⟨z30, ht29, h1⟩ := h1
        obtain ⟨hi31, h1⟩ := h1
        refine x_iald (n := n27) C hr28 ht29 hi31 dX12_readsVersion_54 ?_
        obtain ⟨n32, hr33, h1⟩ := h1
        obtain ⟨z35, ht34, h1⟩ := h1
        obtain ⟨hi36, h1⟩ := h1
        refine x_iast (n := n32) C hr33 ht34 hi36 dX12_readsVersion_55 ?_
        refine x_topS (fun S37 e38 => ?_)
        have h1 := h1 S37 e38
        refine x_aload_n C 0 dX12_readsVersion_56 rfl rfl ?_
        refine x_iconst (v := (1 : Int32)) C dX12_readsVersion_57 (by decide) ?_
        refine x_callV (rm' := rm_X12_readsDigit) (n := h) C (kp_X12_readsDigit_met h1) lk_91 gw_553 gw_554 xv_12 rfl rfl (tk_p e38 ht26) rfl (Nat.le_of_ble_eq_true rfl) ⟨Nat.le_of_ble_eq_true rfl, Nat.le_of_ble_eq_true rfl, (Nat.le_of_ble_eq_true rfl), (Nat.le_of_ble_eq_true rfl)⟩ dX12_readsVersion_58 xm_kx (xm_ki (fun r40 S39 h1 => ?_))
        refine x_if_ne (tgt := 66) C dX12_readsVersion_61 (by decide) (fun z9 => ?_) (fun z9 => ?_)
        · have h1 := h1.1 z9
          refine x_keep (L' := [(0, xm_r (some h))]) C [0] rfl ?_
          exact kp_X12_readsVersion_66 h S39 C N hg  h1
        · have h1 := h1.2 z9
          refine x_iconst (v := (0 : Int32)) C dX12_readsVersion_64 (by decide) ?_
          exact x_zret C (Nat.le_of_ble_eq_true rfl) (Nat.le_of_ble_eq_true rfl) rfl (by decide) dX12_readsVersion_65 (hg _ _ h1)
    · have h1 := h1.2 z9
      refine x_iconst (v := (0 : Int32)) C dX12_readsVersion_33 (by decide) ?_
      exact x_zret C (Nat.le_of_ble_eq_true rfl) (Nat.le_of_ble_eq_true rfl) rfl (by decide) dX12_readsVersion_34 (hg _ _ h1)
  · have h1 := h1.2 z9
    refine x_aload_n C 0 dX12_readsVersion_7 rfl rfl ?_
    obtain ⟨ht41, h1⟩ := h1
    refine x_getf_r (n := h) C rfl ht41 fd_162 (by decide) dX12_readsVersion_8 ?_
    refine x_iload_n C 1 dX12_readsVersion_11 rfl rfl ?_
    refine x_iconst (v := (0 : Int32)) C dX12_readsVersion_12 (by decide) ?_
    obtain ⟨n42, hr43, h1⟩ := h1
    obtain ⟨z45, ht44, h1⟩ := h1
    obtain ⟨hi46, h1⟩ := h1
    refine x_iast (n := n42) C hr43 ht44 hi46 dX12_readsVersion_13 ?_
    refine x_topS (fun S47 e48 => ?_)
    have h1 := h1 S47 e48
    obtain ⟨y49, e50⟩ : ∃ y49, y49 = (x1 + (1 : Int32)) := ⟨_, rfl⟩
    have h1 := h1 y49 e50
    refine x_iinc (v := y49) (L' := [(1, xm_i y49), (0, xm_r (some h))]) C 1 dX12_readsVersion_14 rfl (by rw [e50]; rfl) (by decide) rfl ?_
    refine x_goto (tgt := 2) C dX12_readsVersion_17 (by decide) ?_
    refine x_keep (L' := [(0, xm_r (some h)), (1, xm_i y49)]) C [1, 0] rfl ?_
    exact hZ2 y49 S47 h1
theorem kp_X12_readsVersion_2 {K : xm_K} (h : Nat) (x1 : Int32) (S : xm_S) {g : Int32 → xm_S → Prop} (C : xm_Cx K cX12_readsVersion RX12 2 (some (FieldType.boolean)) rm_X12_readsVersion) (N : xm_Nx K) (hg : ∀ v S, g v S → xm_q K (some (xm_i v)) S)  (h1 : wp_X12_readsVersion_2 h x1 S g) : xm_W K 0 0 2 [(0, xm_r (some h)), (1, xm_i x1)] [] S :=
  h1 (fun x1 S => xm_W K 0 0 2 [(0, xm_r (some h)), (1, xm_i x1)] [] S) (fun x1 S hb => kp_X12_readsVersion_2B h x1 S C N hg (fun x1 S hz => hz) hb)
def wp_X12_readsVersion (h : Nat)  (S : xm_S) (g : Int32 → xm_S → Prop) : Prop :=
  wp_X12_readsVersion_2 h (0 : Int32) S g
set_option maxRecDepth 100000 in
set_option maxHeartbeats 4000000 in
theorem kp_X12_readsVersion {K : xm_K} (h : Nat)  (S : xm_S) {g : Int32 → xm_S → Prop} (C : xm_Cx K cX12_readsVersion RX12 2 (some (FieldType.boolean)) rm_X12_readsVersion) (N : xm_Nx K) (hg : ∀ v S, g v S → xm_q K (some (xm_i v)) S)  (h1 : wp_X12_readsVersion h  S g) : xm_W K 0 0 0 [(0, xm_r (some h))] [] S := by
  unfold wp_X12_readsVersion at h1
  refine x_iconst (v := (0 : Int32)) C dX12_readsVersion_0 (by decide) ?_
  refine x_istore_n (L' := [(1, xm_i (0 : Int32)), (0, xm_r (some h))]) C dX12_readsVersion_1 rfl (by decide) rfl ?_
  refine x_keep (L' := [(0, xm_r (some h)), (1, xm_i (0 : Int32))]) C [1, 0] rfl ?_
  exact kp_X12_readsVersion_2 h (0 : Int32) S C N hg  h1
theorem kp_X12_readsVersion_met {h : Nat}  {S : xm_S} {g : Int32 → xm_S → Prop}  (h1 : wp_X12_readsVersion h  S g) : xm_Met yX12_readsVersion cX12_readsVersion 2 (some (FieldType.boolean)) rm_X12_readsVersion [xm_r (some h)] S (xm_qi g) xm_nox :=
  xm_ofW RX12 (by decide +kernel) rfl (Nat.le_of_ble_eq_true rfl) (fun K C N hq hx hi => kp_X12_readsVersion h  S C N (fun v S h => by rw [hq]; exact ⟨v, rfl, h⟩)  h1)
