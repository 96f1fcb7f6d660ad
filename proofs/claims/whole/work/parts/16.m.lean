def rm_X12_readsTest : Room := { frames := 5, cells := 0, slots := 0, locals := 105 }
theorem dX12_readsTest_0 : decode cX12_readsTest 0 = .ok (.aload_n 0, 1) := by decide +kernel
theorem dX12_readsTest_1 : decode cX12_readsTest 1 = .ok (.invokevirtual 191, 3) := by decide +kernel
theorem dX12_readsTest_4 : decode cX12_readsTest 4 = .ok (.istore_n 1, 1) := by decide +kernel
theorem dX12_readsTest_5 : decode cX12_readsTest 5 = .ok (.aload_n 0, 1) := by decide +kernel
theorem dX12_readsTest_6 : decode cX12_readsTest 6 = .ok (.iload_n 1, 1) := by decide +kernel
theorem dX12_readsTest_7 : decode cX12_readsTest 7 = .ok (.bipush 61, 2) := by decide +kernel
theorem dX12_readsTest_9 : decode cX12_readsTest 9 = .ok (.if_icmp .ne 7, 3) := by decide +kernel
theorem dX12_readsTest_12 : decode cX12_readsTest 12 = .ok (.iconst 0, 1) := by decide +kernel
theorem dX12_readsTest_13 : decode cX12_readsTest 13 = .ok (.goto 45, 3) := by decide +kernel
theorem dX12_readsTest_16 : decode cX12_readsTest 16 = .ok (.iload_n 1, 1) := by decide +kernel
theorem dX12_readsTest_17 : decode cX12_readsTest 17 = .ok (.bipush 62, 2) := by decide +kernel
theorem dX12_readsTest_19 : decode cX12_readsTest 19 = .ok (.if_icmp .ne 7, 3) := by decide +kernel
theorem dX12_readsTest_22 : decode cX12_readsTest 22 = .ok (.iconst 1, 1) := by decide +kernel
theorem dX12_readsTest_23 : decode cX12_readsTest 23 = .ok (.goto 35, 3) := by decide +kernel
theorem dX12_readsTest_26 : decode cX12_readsTest 26 = .ok (.iload_n 1, 1) := by decide +kernel
theorem dX12_readsTest_27 : decode cX12_readsTest 27 = .ok (.bipush 60, 2) := by decide +kernel
theorem dX12_readsTest_29 : decode cX12_readsTest 29 = .ok (.if_icmp .ne 7, 3) := by decide +kernel
theorem dX12_readsTest_32 : decode cX12_readsTest 32 = .ok (.iconst 2, 1) := by decide +kernel
theorem dX12_readsTest_33 : decode cX12_readsTest 33 = .ok (.goto 25, 3) := by decide +kernel
theorem dX12_readsTest_36 : decode cX12_readsTest 36 = .ok (.iload_n 1, 1) := by decide +kernel
theorem dX12_readsTest_37 : decode cX12_readsTest 37 = .ok (.bipush 94, 2) := by decide +kernel
theorem dX12_readsTest_39 : decode cX12_readsTest 39 = .ok (.if_icmp .ne 7, 3) := by decide +kernel
theorem dX12_readsTest_42 : decode cX12_readsTest 42 = .ok (.iconst 5, 1) := by decide +kernel
theorem dX12_readsTest_43 : decode cX12_readsTest 43 = .ok (.goto 15, 3) := by decide +kernel
theorem dX12_readsTest_46 : decode cX12_readsTest 46 = .ok (.iload_n 1, 1) := by decide +kernel
theorem dX12_readsTest_47 : decode cX12_readsTest 47 = .ok (.bipush 126, 2) := by decide +kernel
theorem dX12_readsTest_49 : decode cX12_readsTest 49 = .ok (.if_icmp .ne 8, 3) := by decide +kernel
theorem dX12_readsTest_52 : decode cX12_readsTest 52 = .ok (.bipush 6, 2) := by decide +kernel
theorem dX12_readsTest_54 : decode cX12_readsTest 54 = .ok (.goto 4, 3) := by decide +kernel
theorem dX12_readsTest_57 : decode cX12_readsTest 57 = .ok (.iconst (-1), 1) := by decide +kernel
theorem dX12_readsTest_58 : decode cX12_readsTest 58 = .ok (.putfield 208, 3) := by decide +kernel
theorem dX12_readsTest_61 : decode cX12_readsTest 61 = .ok (.aload_n 0, 1) := by decide +kernel
theorem dX12_readsTest_62 : decode cX12_readsTest 62 = .ok (.getfield 208, 3) := by decide +kernel
theorem dX12_readsTest_65 : decode cX12_readsTest 65 = .ok (.iconst (-1), 1) := by decide +kernel
theorem dX12_readsTest_66 : decode cX12_readsTest 66 = .ok (.if_icmp .ne 5, 3) := by decide +kernel
theorem dX12_readsTest_69 : decode cX12_readsTest 69 = .ok (.iconst 0, 1) := by decide +kernel
theorem dX12_readsTest_70 : decode cX12_readsTest 70 = .ok (.ireturn, 1) := by decide +kernel
theorem dX12_readsTest_71 : decode cX12_readsTest 71 = .ok (.aload_n 0, 1) := by decide +kernel
theorem dX12_readsTest_72 : decode cX12_readsTest 72 = .ok (.dup, 1) := by decide +kernel
theorem dX12_readsTest_73 : decode cX12_readsTest 73 = .ok (.getfield 185, 3) := by decide +kernel
theorem dX12_readsTest_76 : decode cX12_readsTest 76 = .ok (.iconst 1, 1) := by decide +kernel
theorem dX12_readsTest_77 : decode cX12_readsTest 77 = .ok (.iadd, 1) := by decide +kernel
theorem dX12_readsTest_78 : decode cX12_readsTest 78 = .ok (.putfield 185, 3) := by decide +kernel
theorem dX12_readsTest_81 : decode cX12_readsTest 81 = .ok (.aload_n 0, 1) := by decide +kernel
theorem dX12_readsTest_82 : decode cX12_readsTest 82 = .ok (.dup, 1) := by decide +kernel
theorem dX12_readsTest_83 : decode cX12_readsTest 83 = .ok (.getfield 208, 3) := by decide +kernel
theorem dX12_readsTest_86 : decode cX12_readsTest 86 = .ok (.aload_n 0, 1) := by decide +kernel
theorem dX12_readsTest_87 : decode cX12_readsTest 87 = .ok (.getfield 208, 3) := by decide +kernel
theorem dX12_readsTest_90 : decode cX12_readsTest 90 = .ok (.iconst 1, 1) := by decide +kernel
theorem dX12_readsTest_91 : decode cX12_readsTest 91 = .ok (.if_icmp .eq 11, 3) := by decide +kernel
theorem dX12_readsTest_94 : decode cX12_readsTest 94 = .ok (.aload_n 0, 1) := by decide +kernel
theorem dX12_readsTest_95 : decode cX12_readsTest 95 = .ok (.getfield 208, 3) := by decide +kernel
theorem dX12_readsTest_98 : decode cX12_readsTest 98 = .ok (.iconst 2, 1) := by decide +kernel
theorem dX12_readsTest_99 : decode cX12_readsTest 99 = .ok (.if_icmp .ne 16, 3) := by decide +kernel
theorem dX12_readsTest_102 : decode cX12_readsTest 102 = .ok (.aload_n 0, 1) := by decide +kernel
theorem dX12_readsTest_103 : decode cX12_readsTest 103 = .ok (.bipush 61, 2) := by decide +kernel
theorem dX12_readsTest_105 : decode cX12_readsTest 105 = .ok (.invokevirtual 205, 3) := by decide +kernel
theorem dX12_readsTest_108 : decode cX12_readsTest 108 = .ok (.ifCond .eq 7, 3) := by decide +kernel
theorem dX12_readsTest_111 : decode cX12_readsTest 111 = .ok (.iconst 2, 1) := by decide +kernel
theorem dX12_readsTest_112 : decode cX12_readsTest 112 = .ok (.goto 4, 3) := by decide +kernel
theorem dX12_readsTest_115 : decode cX12_readsTest 115 = .ok (.iconst 0, 1) := by decide +kernel
theorem dX12_readsTest_116 : decode cX12_readsTest 116 = .ok (.iadd, 1) := by decide +kernel
theorem dX12_readsTest_117 : decode cX12_readsTest 117 = .ok (.putfield 208, 3) := by decide +kernel
theorem dX12_readsTest_120 : decode cX12_readsTest 120 = .ok (.aload_n 0, 1) := by decide +kernel
theorem dX12_readsTest_121 : decode cX12_readsTest 121 = .ok (.invokevirtual 211, 3) := by decide +kernel
theorem dX12_readsTest_124 : decode cX12_readsTest 124 = .ok (.ireturn, 1) := by decide +kernel
def wp_X12_readsTest_116 (h : Nat) (s0 : Int32) (s1 : Int32) (s2 : Option Nat) (S : xm_S) (g : Int32 → xm_S → Prop) : Prop :=
  ∃ n1, s2 = some n1 ∧ st_t S n1 = some (12, 0) ∧ ∀ S4, S4 = st_pi S n1 62 (s1 + s0) → st_t S4 h = some (12, 0) ∧ wp_X12_readsVersion h S4 (fun r8 S7 => (r8 = 0 ∨ r8 = 1) ∧ g r8 S7)
set_option maxRecDepth 100000 in
set_option maxHeartbeats 4000000 in
theorem kp_X12_readsTest_116 {K : xm_K} (h : Nat) (s0 : Int32) (s1 : Int32) (s2 : Option Nat) (S : xm_S) {g : Int32 → xm_S → Prop} (C : xm_Cx K cX12_readsTest RX12 2 (some (FieldType.boolean)) rm_X12_readsTest) (N : xm_Nx K) (hg : ∀ v S, g v S → xm_q K (some (xm_i v)) S)  (h1 : wp_X12_readsTest_116 h s0 s1 s2 S g) : xm_W K 0 0 116 [(0, xm_r (some h))] [xm_i s0, xm_i s1, xm_r s2] S := by
  unfold wp_X12_readsTest_116 at h1
  refine x_iadd C dX12_readsTest_116 ?_
  obtain ⟨n1, hr2, h1⟩ := h1
  obtain ⟨ht3, h1⟩ := h1
  refine x_putf_i (n := n1) C hr2 ht3 fd_164 xc_12 (by decide) rfl ⟨rfl, rfl⟩ dX12_readsTest_117 ?_
  refine x_topS (fun S4 e5 => ?_)
  have h1 := h1 S4 e5
  refine x_aload_n C 0 dX12_readsTest_120 rfl rfl ?_
  obtain ⟨ht6, h1⟩ := h1
  refine x_callV (rm' := rm_X12_readsVersion) (n := h) C (kp_X12_readsVersion_met h1) lk_92 gw_559 gw_560 xv_12 rfl rfl ht6 rfl (Nat.le_of_ble_eq_true rfl) ⟨Nat.le_of_ble_eq_true rfl, Nat.le_of_ble_eq_true rfl, (Nat.le_of_ble_eq_true rfl), (Nat.le_of_ble_eq_true rfl)⟩ dX12_readsTest_121 xm_kx (xm_ki (fun r8 S7 h1 => ?_))
  exact x_zret C (Nat.le_of_ble_eq_true rfl) (Nat.le_of_ble_eq_true rfl) rfl h1.1 dX12_readsTest_124 (hg _ _ h1.2)
def wp_X12_readsTest_115 (h : Nat) (s0 : Int32) (s1 : Option Nat) (S : xm_S) (g : Int32 → xm_S → Prop) : Prop :=
  wp_X12_readsTest_116 h (0 : Int32) s0 s1 S g
set_option maxRecDepth 100000 in
set_option maxHeartbeats 4000000 in
theorem kp_X12_readsTest_115 {K : xm_K} (h : Nat) (s0 : Int32) (s1 : Option Nat) (S : xm_S) {g : Int32 → xm_S → Prop} (C : xm_Cx K cX12_readsTest RX12 2 (some (FieldType.boolean)) rm_X12_readsTest) (N : xm_Nx K) (hg : ∀ v S, g v S → xm_q K (some (xm_i v)) S)  (h1 : wp_X12_readsTest_115 h s0 s1 S g) : xm_W K 0 0 115 [(0, xm_r (some h))] [xm_i s0, xm_r s1] S := by
  unfold wp_X12_readsTest_115 at h1
  refine x_iconst (v := (0 : Int32)) C dX12_readsTest_115 (by decide) ?_
  exact kp_X12_readsTest_116 h (0 : Int32) s0 s1 S C N hg  h1
def wp_X12_readsTest_102 (h : Nat) (s0 : Int32) (s1 : Option Nat) (S : xm_S) (g : Int32 → xm_S → Prop) : Prop :=
  st_t S h = some (12, 0) ∧ wp_X12_takes h (nI 61) S (fun r11 S10 => (r11 = 0 → wp_X12_readsTest_115 h s0 s1 S10 g) ∧ (¬ r11 = 0 → wp_X12_readsTest_116 h (nI 2) s0 s1 S10 g))
set_option maxRecDepth 100000 in
set_option maxHeartbeats 4000000 in
theorem kp_X12_readsTest_102 {K : xm_K} (h : Nat) (s0 : Int32) (s1 : Option Nat) (S : xm_S) {g : Int32 → xm_S → Prop} (C : xm_Cx K cX12_readsTest RX12 2 (some (FieldType.boolean)) rm_X12_readsTest) (N : xm_Nx K) (hg : ∀ v S, g v S → xm_q K (some (xm_i v)) S)  (h1 : wp_X12_readsTest_102 h s0 s1 S g) : xm_W K 0 0 102 [(0, xm_r (some h))] [xm_i s0, xm_r s1] S := by
  unfold wp_X12_readsTest_102 at h1
  refine x_aload_n C 0 dX12_readsTest_102 rfl rfl ?_
  refine x_bipush (v := (nI 61)) C dX12_readsTest_103 (by decide) ?_
  obtain ⟨ht9, h1⟩ := h1
  refine x_callV (rm' := rm_X12_takes) (n := h) C (kp_X12_takes_met h1) lk_90 gw_549 gw_550 xv_12 rfl rfl ht9 rfl (Nat.le_of_ble_eq_true rfl) ⟨Nat.le_of_ble_eq_true rfl, Nat.le_of_ble_eq_true rfl, (Nat.le_of_ble_eq_true rfl), (Nat.le_of_ble_eq_true rfl)⟩ dX12_readsTest_105 xm_kx (xm_ki (fun r11 S10 h1 => ?_))
  refine x_if_eq (tgt := 115) C dX12_readsTest_108 (by decide) (fun z9 => ?_) (fun z9 => ?_)
  · have h1 := h1.1 z9
    exact kp_X12_readsTest_115 h s0 s1 S10 C N hg  h1
  · have h1 := h1.2 z9
    refine x_iconst (v := (nI 2)) C dX12_readsTest_111 (by decide) ?_
    refine x_goto (tgt := 116) C dX12_readsTest_112 (by decide) ?_
    exact kp_X12_readsTest_116 h (nI 2) s0 s1 S10 C N hg  h1
def wp_X12_readsTest_58 (h : Nat) (s0 : Int32) (s1 : Option Nat) (S : xm_S) (g : Int32 → xm_S → Prop) : Prop :=
  ∃ n12, s1 = some n12 ∧ st_t S n12 = some (12, 0) ∧ ∀ S15, S15 = st_pi S n12 62 s0 → st_t S15 h = some (12, 0) ∧ (¬ (st_i S15 h 62) = (-1 : Int32) → ∀ S18, S18 = st_pi S15 h 60 ((st_i S15 h 60) + (1 : Int32)) → ((st_i S18 h 62) = (1 : Int32) → wp_X12_readsTest_102 h (st_i S18 h 62) (some h) S18 g) ∧ (¬ (st_i S18 h 62) = (1 : Int32) → (¬ (st_i S18 h 62) = (nI 2) → wp_X12_readsTest_115 h (st_i S18 h 62) (some h) S18 g) ∧ ((st_i S18 h 62) = (nI 2) → wp_X12_readsTest_102 h (st_i S18 h 62) (some h) S18 g))) ∧ ((st_i S15 h 62) = (-1 : Int32) → g (0 : Int32) S15)
set_option maxRecDepth 100000 in
set_option maxHeartbeats 4000000 in
theorem kp_X12_readsTest_58 {K : xm_K} (h : Nat) (s0 : Int32) (s1 : Option Nat) (S : xm_S) {g : Int32 → xm_S → Prop} (C : xm_Cx K cX12_readsTest RX12 2 (some (FieldType.boolean)) rm_X12_readsTest) (N : xm_Nx K) (hg : ∀ v S, g v S → xm_q K (some (xm_i v)) S)  (h1 : wp_X12_readsTest_58 h s0 s1 S g) : xm_W K 0 0 58 [(0, xm_r (some h))] [xm_i s0, xm_r s1] S := by
  unfold wp_X12_readsTest_58 at h1
  obtain ⟨n12, hr13, h1⟩ := h1
  obtain ⟨ht14, h1⟩ := h1
  refine x_putf_i (n := n12) C hr13 ht14 fd_164 xc_12 (by decide) rfl ⟨rfl, rfl⟩ dX12_readsTest_58 ?_
  refine x_topS (fun S15 e16 => ?_)
  have h1 := h1 S15 e16
  refine x_aload_n C 0 dX12_readsTest_61 rfl rfl ?_
  obtain ⟨ht17, h1⟩ := h1
  refine x_getf_i (n := h) C rfl ht17 fd_164 (by decide) dX12_readsTest_62 ?_
  refine x_iconst (v := (-1 : Int32)) C dX12_readsTest_65 (by decide) ?_
  refine x_icmp_ne (tgt := 71) C dX12_readsTest_66 (by decide) (fun z9 => ?_) (fun z9 => ?_)
  · have h1 := h1.1 z9
    refine x_aload_n C 0 dX12_readsTest_71 rfl rfl ?_
    refine x_dup_r C dX12_readsTest_72 ?_
    refine x_getf_i (n := h) C rfl ht17 fd_158 (by decide) dX12_readsTest_73 ?_
    refine x_iconst (v := (1 : Int32)) C dX12_readsTest_76 (by decide) ?_
    refine x_iadd C dX12_readsTest_77 ?_
    refine x_putf_i (n := h) C rfl ht17 fd_158 xc_12 (by decide) rfl ⟨rfl, rfl⟩ dX12_readsTest_78 ?_
    refine x_topS (fun S18 e19 => ?_)
    have h1 := h1 S18 e19
    refine x_aload_n C 0 dX12_readsTest_81 rfl rfl ?_
    refine x_dup_r C dX12_readsTest_82 ?_
    refine x_getf_i (n := h) C rfl (tk_p e19 ht17) fd_164 (by decide) dX12_readsTest_83 ?_
    refine x_aload_n C 0 dX12_readsTest_86 rfl rfl ?_
    refine x_getf_i (n := h) C rfl (tk_p e19 ht17) fd_164 (by decide) dX12_readsTest_87 ?_
    refine x_iconst (v := (1 : Int32)) C dX12_readsTest_90 (by decide) ?_
    refine x_icmp_eq (tgt := 102) C dX12_readsTest_91 (by decide) (fun z9 => ?_) (fun z9 => ?_)
    · have h1 := h1.1 z9
      exact kp_X12_readsTest_102 h (st_i S18 h 62) (some h) S18 C N hg  h1
    · have h1 := h1.2 z9
      refine x_aload_n C 0 dX12_readsTest_94 rfl rfl ?_
      refine x_getf_i (n := h) C rfl (tk_p e19 ht17) fd_164 (by decide) dX12_readsTest_95 ?_
      refine x_iconst (v := (nI 2)) C dX12_readsTest_98 (by decide) ?_
      refine x_icmp_ne (tgt := 115) C dX12_readsTest_99 (by decide) (fun z9 => ?_) (fun z9 => ?_)
      · have h1 := h1.1 z9
        exact kp_X12_readsTest_115 h (st_i S18 h 62) (some h) S18 C N hg  h1
      · have h1 := h1.2 z9
        exact kp_X12_readsTest_102 h (st_i S18 h 62) (some h) S18 C N hg  h1
  · have h1 := h1.2 z9
    refine x_iconst (v := (0 : Int32)) C dX12_readsTest_69 (by decide) ?_
    exact x_zret C (Nat.le_of_ble_eq_true rfl) (Nat.le_of_ble_eq_true rfl) rfl (by decide) dX12_readsTest_70 (hg _ _ h1)
def wp_X12_readsTest (h : Nat)  (S : xm_S) (g : Int32 → xm_S → Prop) : Prop :=
  st_t S h = some (12, 0) ∧ wp_X12_next h S (fun r22 S21 => (¬ r22 = (nI 61) → (¬ r22 = (nI 62) → (¬ r22 = (nI 60) → (¬ r22 = (nI 94) → (¬ r22 = (nI 126) → wp_X12_readsTest_58 h (-1 : Int32) (some h) S21 g) ∧ (r22 = (nI 126) → wp_X12_readsTest_58 h (nI 6) (some h) S21 g)) ∧ (r22 = (nI 94) → wp_X12_readsTest_58 h (nI 5) (some h) S21 g)) ∧ (r22 = (nI 60) → wp_X12_readsTest_58 h (nI 2) (some h) S21 g)) ∧ (r22 = (nI 62) → wp_X12_readsTest_58 h (1 : Int32) (some h) S21 g)) ∧ (r22 = (nI 61) → wp_X12_readsTest_58 h (0 : Int32) (some h) S21 g))
set_option maxRecDepth 100000 in
set_option maxHeartbeats 4000000 in
theorem kp_X12_readsTest {K : xm_K} (h : Nat)  (S : xm_S) {g : Int32 → xm_S → Prop} (C : xm_Cx K cX12_readsTest RX12 2 (some (FieldType.boolean)) rm_X12_readsTest) (N : xm_Nx K) (hg : ∀ v S, g v S → xm_q K (some (xm_i v)) S)  (h1 : wp_X12_readsTest h  S g) : xm_W K 0 0 0 [(0, xm_r (some h))] [] S := by
  unfold wp_X12_readsTest at h1
  refine x_aload_n C 0 dX12_readsTest_0 rfl rfl ?_
  obtain ⟨ht20, h1⟩ := h1
  refine x_callV (rm' := rm_X12_next) (n := h) C (kp_X12_next_met h1) lk_88 gw_540 gw_541 xv_12 rfl rfl ht20 rfl (Nat.le_of_ble_eq_true rfl) ⟨Nat.le_of_ble_eq_true rfl, Nat.le_of_ble_eq_true rfl, (Nat.le_of_ble_eq_true rfl), (Nat.le_of_ble_eq_true rfl)⟩ dX12_readsTest_1 xm_kx (xm_ki (fun r22 S21 h1 => ?_))
  refine x_istore_n (L' := [(1, xm_i r22), (0, xm_r (some h))]) C dX12_readsTest_4 rfl (by decide) rfl ?_
  refine x_aload_n C 1 dX12_readsTest_5 rfl rfl ?_
  refine x_iload_n C 0 dX12_readsTest_6 rfl rfl ?_
  refine x_bipush (v := (nI 61)) C dX12_readsTest_7 (by decide) ?_
  refine x_icmp_ne (tgt := 16) C dX12_readsTest_9 (by decide) (fun z9 => ?_) (fun z9 => ?_)
  · have h1 := h1.1 z9
    refine x_iload_n C 0 dX12_readsTest_16 rfl rfl ?_
    refine x_bipush (v := (nI 62)) C dX12_readsTest_17 (by decide) ?_
    refine x_icmp_ne (tgt := 26) C dX12_readsTest_19 (by decide) (fun z9 => ?_) (fun z9 => ?_)
    · have h1 := h1.1 z9
      refine x_iload_n C 0 dX12_readsTest_26 rfl rfl ?_
      refine x_bipush (v := (nI 60)) C dX12_readsTest_27 (by decide) ?_
      refine x_icmp_ne (tgt := 36) C dX12_readsTest_29 (by decide) (fun z9 => ?_) (fun z9 => ?_)
      · have h1 := h1.1 z9
        refine x_iload_n C 0 dX12_readsTest_36 rfl rfl ?_
        refine x_bipush (v := (nI 94)) C dX12_readsTest_37 (by decide) ?_
        refine x_icmp_ne (tgt := 46) C dX12_readsTest_39 (by decide) (fun z9 => ?_) (fun z9 => ?_)
        · have h1 := h1.1 z9
          refine x_iload_n C 0 dX12_readsTest_46 rfl rfl ?_
          refine x_bipush (v := (nI 126)) C dX12_readsTest_47 (by decide) ?_
          refine x_icmp_ne (tgt := 57) C dX12_readsTest_49 (by decide) (fun z9 => ?_) (fun z9 => ?_)
          · have h1 := h1.1 z9
            refine x_iconst (v := (-1 : Int32)) C dX12_readsTest_57 (by decide) ?_
            refine x_keep (L' := [(0, xm_r (some h))]) C [1] rfl ?_
            exact kp_X12_readsTest_58 h (-1 : Int32) (some h) S21 C N hg  h1
          · have h1 := h1.2 z9
            refine x_bipush (v := (nI 6)) C dX12_readsTest_52 (by decide) ?_
            refine x_goto (tgt := 58) C dX12_readsTest_54 (by decide) ?_
            refine x_keep (L' := [(0, xm_r (some h))]) C [1] rfl ?_
            exact kp_X12_readsTest_58 h (nI 6) (some h) S21 C N hg  h1
        · have h1 := h1.2 z9
          refine x_iconst (v := (nI 5)) C dX12_readsTest_42 (by decide) ?_
          refine x_goto (tgt := 58) C dX12_readsTest_43 (by decide) ?_
          refine x_keep (L' := [(0, xm_r (some h))]) C [1] rfl ?_
          exact kp_X12_readsTest_58 h (nI 5) (some h) S21 C N hg  h1
      · have h1 := h1.2 z9
        refine x_iconst (v := (nI 2)) C dX12_readsTest_32 (by decide) ?_
        refine x_goto (tgt := 58) C dX12_readsTest_33 (by decide) ?_
        refine x_keep (L' := [(0, xm_r (some h))]) C [1] rfl ?_
        exact kp_X12_readsTest_58 h (nI 2) (some h) S21 C N hg  h1
    · have h1 := h1.2 z9
      refine x_iconst (v := (1 : Int32)) C dX12_readsTest_22 (by decide) ?_
      refine x_goto (tgt := 58) C dX12_readsTest_23 (by decide) ?_
      refine x_keep (L' := [(0, xm_r (some h))]) C [1] rfl ?_
      exact kp_X12_readsTest_58 h (1 : Int32) (some h) S21 C N hg  h1
  · have h1 := h1.2 z9
    refine x_iconst (v := (0 : Int32)) C dX12_readsTest_12 (by decide) ?_
    refine x_goto (tgt := 58) C dX12_readsTest_13 (by decide) ?_
    refine x_keep (L' := [(0, xm_r (some h))]) C [1] rfl ?_
    exact kp_X12_readsTest_58 h (0 : Int32) (some h) S21 C N hg  h1
theorem kp_X12_readsTest_met {h : Nat}  {S : xm_S} {g : Int32 → xm_S → Prop}  (h1 : wp_X12_readsTest h  S g) : xm_Met yX12_readsTest cX12_readsTest 2 (some (FieldType.boolean)) rm_X12_readsTest [xm_r (some h)] S (xm_qi g) xm_nox :=
  xm_ofW RX12 (by decide +kernel) rfl (Nat.le_of_ble_eq_true rfl) (fun K C N hq hx hi => kp_X12_readsTest h  S C N (fun v S h => by rw [hq]; exact ⟨v, rfl, h⟩)  h1)
def rm_X12_faultOf : Room := { frames := 6, cells := 0, slots := 0, locals := 126 }
theorem dX12_faultOf_0 : decode cX12_faultOf 0 = .ok (.aload_n 0, 1) := by decide +kernel
theorem dX12_faultOf_1 : decode cX12_faultOf 1 = .ok (.iload_n 1, 1) := by decide +kernel
theorem dX12_faultOf_2 : decode cX12_faultOf 2 = .ok (.putfield 188, 3) := by decide +kernel
theorem dX12_faultOf_5 : decode cX12_faultOf 5 = .ok (.aload_n 0, 1) := by decide +kernel
theorem dX12_faultOf_6 : decode cX12_faultOf 6 = .ok (.iconst 0, 1) := by decide +kernel
theorem dX12_faultOf_7 : decode cX12_faultOf 7 = .ok (.putfield 185, 3) := by decide +kernel
theorem dX12_faultOf_10 : decode cX12_faultOf 10 = .ok (.iconst 1, 1) := by decide +kernel
theorem dX12_faultOf_11 : decode cX12_faultOf 11 = .ok (.istore_n 2, 1) := by decide +kernel
theorem dX12_faultOf_12 : decode cX12_faultOf 12 = .ok (.iload_n 2, 1) := by decide +kernel
theorem dX12_faultOf_13 : decode cX12_faultOf 13 = .ok (.ifCond .eq 55, 3) := by decide +kernel
theorem dX12_faultOf_16 : decode cX12_faultOf 16 = .ok (.aload_n 0, 1) := by decide +kernel
theorem dX12_faultOf_17 : decode cX12_faultOf 17 = .ok (.bipush 42, 2) := by decide +kernel
theorem dX12_faultOf_19 : decode cX12_faultOf 19 = .ok (.invokevirtual 205, 3) := by decide +kernel
theorem dX12_faultOf_22 : decode cX12_faultOf 22 = .ok (.ifCond .ne 36, 3) := by decide +kernel
theorem dX12_faultOf_25 : decode cX12_faultOf 25 = .ok (.aload_n 0, 1) := by decide +kernel
theorem dX12_faultOf_26 : decode cX12_faultOf 26 = .ok (.invokevirtual 214, 3) := by decide +kernel
theorem dX12_faultOf_29 : decode cX12_faultOf 29 = .ok (.ifCond .ne 8, 3) := by decide +kernel
theorem dX12_faultOf_32 : decode cX12_faultOf 32 = .ok (.aload_n 0, 1) := by decide +kernel
theorem dX12_faultOf_33 : decode cX12_faultOf 33 = .ok (.getfield 185, 3) := by decide +kernel
theorem dX12_faultOf_36 : decode cX12_faultOf 36 = .ok (.ireturn, 1) := by decide +kernel
theorem dX12_faultOf_37 : decode cX12_faultOf 37 = .ok (.aload_n 0, 1) := by decide +kernel
theorem dX12_faultOf_38 : decode cX12_faultOf 38 = .ok (.bipush 44, 2) := by decide +kernel
theorem dX12_faultOf_40 : decode cX12_faultOf 40 = .ok (.invokevirtual 205, 3) := by decide +kernel
theorem dX12_faultOf_43 : decode cX12_faultOf 43 = .ok (.ifCond .eq 15, 3) := by decide +kernel
theorem dX12_faultOf_46 : decode cX12_faultOf 46 = .ok (.aload_n 0, 1) := by decide +kernel
theorem dX12_faultOf_47 : decode cX12_faultOf 47 = .ok (.invokevirtual 214, 3) := by decide +kernel
theorem dX12_faultOf_50 : decode cX12_faultOf 50 = .ok (.ifCond .ne (-13), 3) := by decide +kernel
theorem dX12_faultOf_53 : decode cX12_faultOf 53 = .ok (.aload_n 0, 1) := by decide +kernel
theorem dX12_faultOf_54 : decode cX12_faultOf 54 = .ok (.getfield 185, 3) := by decide +kernel
theorem dX12_faultOf_57 : decode cX12_faultOf 57 = .ok (.ireturn, 1) := by decide +kernel
theorem dX12_faultOf_58 : decode cX12_faultOf 58 = .ok (.aload_n 0, 1) := by decide +kernel
theorem dX12_faultOf_59 : decode cX12_faultOf 59 = .ok (.bipush 124, 2) := by decide +kernel
theorem dX12_faultOf_61 : decode cX12_faultOf 61 = .ok (.invokevirtual 205, 3) := by decide +kernel
theorem dX12_faultOf_64 : decode cX12_faultOf 64 = .ok (.istore_n 2, 1) := by decide +kernel
theorem dX12_faultOf_65 : decode cX12_faultOf 65 = .ok (.goto (-53), 3) := by decide +kernel
theorem dX12_faultOf_68 : decode cX12_faultOf 68 = .ok (.aload_n 0, 1) := by decide +kernel
theorem dX12_faultOf_69 : decode cX12_faultOf 69 = .ok (.getfield 185, 3) := by decide +kernel
theorem dX12_faultOf_72 : decode cX12_faultOf 72 = .ok (.aload_n 0, 1) := by decide +kernel
theorem dX12_faultOf_73 : decode cX12_faultOf 73 = .ok (.getfield 77, 3) := by decide +kernel
theorem dX12_faultOf_76 : decode cX12_faultOf 76 = .ok (.iload_n 1, 1) := by decide +kernel
theorem dX12_faultOf_77 : decode cX12_faultOf 77 = .ok (.iaload, 1) := by decide +kernel
theorem dX12_faultOf_78 : decode cX12_faultOf 78 = .ok (.if_icmp .ge 10, 3) := by decide +kernel
theorem dX12_faultOf_81 : decode cX12_faultOf 81 = .ok (.aload_n 0, 1) := by decide +kernel
theorem dX12_faultOf_82 : decode cX12_faultOf 82 = .ok (.getfield 185, 3) := by decide +kernel
theorem dX12_faultOf_85 : decode cX12_faultOf 85 = .ok (.goto 4, 3) := by decide +kernel
theorem dX12_faultOf_88 : decode cX12_faultOf 88 = .ok (.iconst (-1), 1) := by decide +kernel
theorem dX12_faultOf_89 : decode cX12_faultOf 89 = .ok (.ireturn, 1) := by decide +kernel
def wp_X12_faultOf_58 (h : Nat) (x1 : Int32) (S : xm_S) (g : Int32 → xm_S → Prop) (Z12 : Int32 → Int32 → xm_S → Prop) : Prop :=
  st_t S h = some (12, 0) ∧ wp_X12_takes h (nI 124) S (fun r3 S2 => Z12 x1 r3 S2)
set_option maxRecDepth 100000 in
set_option maxHeartbeats 4000000 in
theorem kp_X12_faultOf_58 {K : xm_K} (h : Nat) (x1 : Int32) (S : xm_S) {g : Int32 → xm_S → Prop} {Z12 : Int32 → Int32 → xm_S → Prop} (C : xm_Cx K cX12_faultOf RX12 3 (some (FieldType.int)) rm_X12_faultOf) (N : xm_Nx K) (hg : ∀ v S, g v S → xm_q K (some (xm_i v)) S) (hZ12 : ∀ x1 x2 S, Z12 x1 x2 S → xm_W K 0 0 12 [(0, xm_r (some h)), (1, xm_i x1), (2, xm_i x2)] [] S) (h1 : wp_X12_faultOf_58 h x1 S g Z12) : xm_W K 0 0 58 [(0, xm_r (some h)), (1, xm_i x1)] [] S := by
  unfold wp_X12_faultOf_58 at h1
  refine x_aload_n C 0 dX12_faultOf_58 rfl rfl ?_
  refine x_bipush (v := (nI 124)) C dX12_faultOf_59 (by decide) ?_
  obtain ⟨ht1, h1⟩ := h1
  refine x_callV (rm' := rm_X12_takes) (n := h) C (kp_X12_takes_met h1) lk_90 gw_549 gw_550 xv_12 rfl rfl ht1 rfl (Nat.le_of_ble_eq_true rfl) ⟨Nat.le_of_ble_eq_true rfl, Nat.le_of_ble_eq_true rfl, (Nat.le_of_ble_eq_true rfl), (Nat.le_of_ble_eq_true rfl)⟩ dX12_faultOf_61 xm_kx (xm_ki (fun r3 S2 h1 => ?_))
  refine x_istore_n (L' := [(2, xm_i r3), (0, xm_r (some h)), (1, xm_i x1)]) C dX12_faultOf_64 rfl (by decide) rfl ?_
  refine x_goto (tgt := 12) C dX12_faultOf_65 (by decide) ?_
  refine x_keep (L' := [(0, xm_r (some h)), (1, xm_i x1), (2, xm_i r3)]) C [1, 2, 0] rfl ?_
  exact hZ12 x1 r3 S2 h1
def wp_X12_faultOf_37B (h : Nat) (x1 : Int32) (S : xm_S) (g : Int32 → xm_S → Prop) (Z12 : Int32 → Int32 → xm_S → Prop) (Z37 : Int32 → xm_S → Prop) : Prop :=
  st_t S h = some (12, 0) ∧ wp_X12_takes h (nI 44) S (fun r6 S5 => (r6 = 0 → wp_X12_faultOf_58 h x1 S5 g Z12) ∧ (¬ r6 = 0 → st_t S5 h = some (12, 0) ∧ wp_X12_readsTest h S5 (fun r9 S8 => (¬ r9 = 0 → Z37 x1 S8) ∧ (r9 = 0 → st_t S8 h = some (12, 0) ∧ g (st_i S8 h 60) S8))))
def wp_X12_faultOf_37 (h : Nat) (x1 : Int32) (S : xm_S) (g : Int32 → xm_S → Prop) (Z12 : Int32 → Int32 → xm_S → Prop) : Prop :=
  ∀ Z37 : Int32 → xm_S → Prop, (∀ x1 S, wp_X12_faultOf_37B h x1 S g Z12 Z37 → Z37 x1 S) → Z37 x1 S
set_option maxRecDepth 100000 in
set_option maxHeartbeats 4000000 in
theorem kp_X12_faultOf_37B {K : xm_K} (h : Nat) (x1 : Int32) (S : xm_S) {g : Int32 → xm_S → Prop} {Z12 : Int32 → Int32 → xm_S → Prop} {Z37 : Int32 → xm_S → Prop} (C : xm_Cx K cX12_faultOf RX12 3 (some (FieldType.int)) rm_X12_faultOf) (N : xm_Nx K) (hg : ∀ v S, g v S → xm_q K (some (xm_i v)) S) (hZ12 : ∀ x1 x2 S, Z12 x1 x2 S → xm_W K 0 0 12 [(0, xm_r (some h)), (1, xm_i x1), (2, xm_i x2)] [] S) (hZ37 : ∀ x1 S, Z37 x1 S → xm_W K 0 0 37 [(0, xm_r (some h)), (1, xm_i x1)] [] S) (h1 : wp_X12_faultOf_37B h x1 S g Z12 Z37) : xm_W K 0 0 37 [(0, xm_r (some h)), (1, xm_i x1)] [] S := by
  unfold wp_X12_faultOf_37B at h1
  refine x_aload_n C 0 dX12_faultOf_37 rfl rfl ?_
  refine x_bipush (v := (nI 44)) C dX12_faultOf_38 (by decide) ?_
  obtain ⟨ht4, h1⟩ := h1
  refine x_callV (rm' := rm_X12_takes) (n := h) C (kp_X12_takes_met h1) lk_90 gw_549 gw_550 xv_12 rfl rfl ht4 rfl (Nat.le_of_ble_eq_true rfl) ⟨Nat.le_of_ble_eq_true rfl, Nat.le_of_ble_eq_true rfl, (Nat.le_of_ble_eq_true rfl), (Nat.le_of_ble_eq_true rfl)⟩ dX12_faultOf_40 xm_kx (xm_ki (fun r6 S5 h1 => ?_))
  refine x_if_eq (tgt := 58) C dX12_faultOf_43 (by decide) (fun z9 => ?_) (fun z9 => ?_)
  · have h1 := h1.1 z9
    exact kp_X12_faultOf_58 h x1 S5 C N hg hZ12 h1
  · have h1 := h1.2 z9
    refine x_aload_n C 0 dX12_faultOf_46 rfl rfl ?_
    obtain ⟨ht7, h1⟩ := h1
    refine x_callV (rm' := rm_X12_readsTest) (n := h) C (kp_X12_readsTest_met h1) lk_93 gw_563 gw_564 xv_12 rfl rfl ht7 rfl (Nat.le_of_ble_eq_true rfl) ⟨Nat.le_of_ble_eq_true rfl, Nat.le_of_ble_eq_true rfl, (Nat.le_of_ble_eq_true rfl), (Nat.le_of_ble_eq_true rfl)⟩ dX12_faultOf_47 xm_kx (xm_ki (fun r9 S8 h1 => ?_))
    refine x_if_ne (tgt := 37) C dX12_faultOf_50 (by decide) (fun z9 => ?_) (fun z9 => ?_)
    · have h1 := h1.1 z9
      exact hZ37 x1 S8 h1
    · have h1 := h1.2 z9
      refine x_aload_n C 0 dX12_faultOf_53 rfl rfl ?_
      obtain ⟨ht10, h1⟩ := h1
      refine x_getf_i (n := h) C rfl ht10 fd_158 (by decide) dX12_faultOf_54 ?_
      exact x_iret C (Nat.le_of_ble_eq_true rfl) (Nat.le_of_ble_eq_true rfl) rfl dX12_faultOf_57 (hg _ _ h1)
theorem kp_X12_faultOf_37 {K : xm_K} (h : Nat) (x1 : Int32) (S : xm_S) {g : Int32 → xm_S → Prop} {Z12 : Int32 → Int32 → xm_S → Prop} (C : xm_Cx K cX12_faultOf RX12 3 (some (FieldType.int)) rm_X12_faultOf) (N : xm_Nx K) (hg : ∀ v S, g v S → xm_q K (some (xm_i v)) S) (hZ12 : ∀ x1 x2 S, Z12 x1 x2 S → xm_W K 0 0 12 [(0, xm_r (some h)), (1, xm_i x1), (2, xm_i x2)] [] S) (h1 : wp_X12_faultOf_37 h x1 S g Z12) : xm_W K 0 0 37 [(0, xm_r (some h)), (1, xm_i x1)] [] S :=
  h1 (fun x1 S => xm_W K 0 0 37 [(0, xm_r (some h)), (1, xm_i x1)] [] S) (fun x1 S hb => kp_X12_faultOf_37B h x1 S C N hg hZ12 (fun x1 S hz => hz) hb)
def wp_X12_faultOf_89 (h : Nat) (s0 : Int32) (S : xm_S) (g : Int32 → xm_S → Prop) : Prop :=
  g s0 S
set_option maxRecDepth 100000 in
set_option maxHeartbeats 4000000 in
theorem kp_X12_faultOf_89 {K : xm_K} (h : Nat) (s0 : Int32) (S : xm_S) {g : Int32 → xm_S → Prop} (C : xm_Cx K cX12_faultOf RX12 3 (some (FieldType.int)) rm_X12_faultOf) (N : xm_Nx K) (hg : ∀ v S, g v S → xm_q K (some (xm_i v)) S)  (h1 : wp_X12_faultOf_89 h s0 S g) : xm_W K 0 0 89 [] [xm_i s0] S := by
  unfold wp_X12_faultOf_89 at h1
  exact x_iret C (Nat.le_of_ble_eq_true rfl) (Nat.le_of_ble_eq_true rfl) rfl dX12_faultOf_89 (hg _ _ h1)
def wp_X12_faultOf_12B (h : Nat) (x1 : Int32) (x2 : Int32) (S : xm_S) (g : Int32 → xm_S → Prop) (Z12 : Int32 → Int32 → xm_S → Prop) : Prop :=
  (x2 = 0 → st_t S h = some (12, 0) ∧ ∃ n12, (st_r S h 25) = some n12 ∧ ∃ z15, st_t S n12 = some (100, z15) ∧ vp_in x1 z15 ∧ ((st_i S n12 (x1).toNatClampNeg) ≤ (st_i S h 60) → wp_X12_faultOf_89 h (-1 : Int32) S g) ∧ (¬ (st_i S n12 (x1).toNatClampNeg) ≤ (st_i S h 60) → wp_X12_faultOf_89 h (st_i S h 60) S g)) ∧ (¬ x2 = 0 → st_t S h = some (12, 0) ∧ wp_X12_takes h (nI 42) S (fun r19 S18 => (¬ r19 = 0 → wp_X12_faultOf_58 h x1 S18 g Z12) ∧ (r19 = 0 → st_t S18 h = some (12, 0) ∧ wp_X12_readsTest h S18 (fun r22 S21 => (¬ r22 = 0 → wp_X12_faultOf_37 h x1 S21 g Z12) ∧ (r22 = 0 → st_t S21 h = some (12, 0) ∧ g (st_i S21 h 60) S21)))))
def wp_X12_faultOf_12 (h : Nat) (x1 : Int32) (x2 : Int32) (S : xm_S) (g : Int32 → xm_S → Prop) : Prop :=
  ∀ Z12 : Int32 → Int32 → xm_S → Prop, (∀ x1 x2 S, wp_X12_faultOf_12B h x1 x2 S g Z12 → Z12 x1 x2 S) → Z12 x1 x2 S
set_option maxRecDepth 100000 in
set_option maxHeartbeats 4000000 in
theorem kp_X12_faultOf_12B {K : xm_K} (h : Nat) (x1 : Int32) (x2 : Int32) (S : xm_S) {g : Int32 → xm_S → Prop} {Z12 : Int32 → Int32 → xm_S → Prop} (C : xm_Cx K cX12_faultOf RX12 3 (some (FieldType.int)) rm_X12_faultOf) (N : xm_Nx K) (hg : ∀ v S, g v S → xm_q K (some (xm_i v)) S) (hZ12 : ∀ x1 x2 S, Z12 x1 x2 S → xm_W K 0 0 12 [(0, xm_r (some h)), (1, xm_i x1), (2, xm_i x2)] [] S) (h1 : wp_X12_faultOf_12B h x1 x2 S g Z12) : xm_W K 0 0 12 [(0, xm_r (some h)), (1, xm_i x1), (2, xm_i x2)] [] S := by
  unfold wp_X12_faultOf_12B at h1
  refine x_iload_n C 2 dX12_faultOf_12 rfl rfl ?_
  refine x_if_eq (tgt := 68) C dX12_faultOf_13 (by decide) (fun z9 => ?_) (fun z9 => ?_)
  · have h1 := h1.1 z9
    refine x_aload_n C 0 dX12_faultOf_68 rfl rfl ?_
    obtain ⟨ht11, h1⟩ := h1
    refine x_getf_i (n := h) C rfl ht11 fd_158 (by decide) dX12_faultOf_69 ?_
    refine x_aload_n C 0 dX12_faultOf_72 rfl rfl ?_
    refine x_getf_r (n := h) C rfl ht11 fd_159 (by decide) dX12_faultOf_73 ?_
    refine x_iload_n C 1 dX12_faultOf_76 rfl rfl ?_
    obtain ⟨n12, hr13, h1⟩ := h1
    obtain ⟨z15, ht14, h1⟩ := h1
    obtain ⟨hi16, h1⟩ := h1
    refine x_iald (n := n12) C hr13 ht14 hi16 dX12_faultOf_77 ?_
    refine x_icmp_ge (tgt := 88) C dX12_faultOf_78 (by decide) (fun z9 => ?_) (fun z9 => ?_)
    · have h1 := h1.1 z9
      refine x_iconst (v := (-1 : Int32)) C dX12_faultOf_88 (by decide) ?_
      refine x_keep (L' := []) C [] rfl ?_
      exact kp_X12_faultOf_89 h (-1 : Int32) S C N hg  h1
    · have h1 := h1.2 z9
      refine x_aload_n C 0 dX12_faultOf_81 rfl rfl ?_
      refine x_getf_i (n := h) C rfl ht11 fd_158 (by decide) dX12_faultOf_82 ?_
      refine x_goto (tgt := 89) C dX12_faultOf_85 (by decide) ?_
      refine x_keep (L' := []) C [] rfl ?_
      exact kp_X12_faultOf_89 h (st_i S h 60) S C N hg  h1
  · have h1 := h1.2 z9
    refine x_aload_n C 0 dX12_faultOf_16 rfl rfl ?_
    refine x_bipush (v := (nI 42)) C dX12_faultOf_17 (by decide) ?_
    obtain ⟨ht17, h1⟩ := h1
    refine x_callV (rm' := rm_X12_takes) (n := h) C (kp_X12_takes_met h1) lk_90 gw_549 gw_550 xv_12 rfl rfl ht17 rfl (Nat.le_of_ble_eq_true rfl) ⟨Nat.le_of_ble_eq_true rfl, Nat.le_of_ble_eq_true rfl, (Nat.le_of_ble_eq_true rfl), (Nat.le_of_ble_eq_true rfl)⟩ dX12_faultOf_19 xm_kx (xm_ki (fun r19 S18 h1 => ?_))
    refine x_if_ne (tgt := 58) C dX12_faultOf_22 (by decide) (fun z9 => ?_) (fun z9 => ?_)
    · have h1 := h1.1 z9
      refine x_keep (L' := [(0, xm_r (some h)), (1, xm_i x1)]) C [0, 1] rfl ?_
      exact kp_X12_faultOf_58 h x1 S18 C N hg hZ12 h1
    · have h1 := h1.2 z9
      refine x_aload_n C 0 dX12_faultOf_25 rfl rfl ?_
      obtain ⟨ht20, h1⟩ := h1
      refine x_callV (rm' := rm_X12_readsTest) (n := h) C (kp_X12_readsTest_met h1) lk_93 gw_563 gw_564 xv_12 rfl rfl ht20 rfl (Nat.le_of_ble_eq_true rfl) ⟨Nat.le_of_ble_eq_true rfl, Nat.le_of_ble_eq_true rfl, (Nat.le_of_ble_eq_true rfl), (Nat.le_of_ble_eq_true rfl)⟩ dX12_faultOf_26 xm_kx (xm_ki (fun r22 S21 h1 => ?_))
      refine x_if_ne (tgt := 37) C dX12_faultOf_29 (by decide) (fun z9 => ?_) (fun z9 => ?_)
      · have h1 := h1.1 z9
        refine x_keep (L' := [(0, xm_r (some h)), (1, xm_i x1)]) C [0, 1] rfl ?_
        exact kp_X12_faultOf_37 h x1 S21 C N hg hZ12 h1
      · have h1 := h1.2 z9
        refine x_aload_n C 0 dX12_faultOf_32 rfl rfl ?_
        obtain ⟨ht23, h1⟩ := h1
        refine x_getf_i (n := h) C rfl ht23 fd_158 (by decide) dX12_faultOf_33 ?_
        exact x_iret C (Nat.le_of_ble_eq_true rfl) (Nat.le_of_ble_eq_true rfl) rfl dX12_faultOf_36 (hg _ _ h1)
theorem kp_X12_faultOf_12 {K : xm_K} (h : Nat) (x1 : Int32) (x2 : Int32) (S : xm_S) {g : Int32 → xm_S → Prop} (C : xm_Cx K cX12_faultOf RX12 3 (some (FieldType.int)) rm_X12_faultOf) (N : xm_Nx K) (hg : ∀ v S, g v S → xm_q K (some (xm_i v)) S)  (h1 : wp_X12_faultOf_12 h x1 x2 S g) : xm_W K 0 0 12 [(0, xm_r (some h)), (1, xm_i x1), (2, xm_i x2)] [] S :=
  h1 (fun x1 x2 S => xm_W K 0 0 12 [(0, xm_r (some h)), (1, xm_i x1), (2, xm_i x2)] [] S) (fun x1 x2 S hb => kp_X12_faultOf_12B h x1 x2 S C N hg (fun x1 x2 S hz => hz) hb)
def wp_X12_faultOf (h : Nat) (x1 : Int32) (S : xm_S) (g : Int32 → xm_S → Prop) : Prop :=
  st_t S h = some (12, 0) ∧ ∀ S25, S25 = st_pi S h 61 x1 → ∀ S27, S27 = st_pi S25 h 60 (0 : Int32) → wp_X12_faultOf_12 h x1 (1 : Int32) S27 g
set_option maxRecDepth 100000 in
set_option maxHeartbeats 4000000 in
theorem kp_X12_faultOf {K : xm_K} (h : Nat) (x1 : Int32) (S : xm_S) {g : Int32 → xm_S → Prop} (C : xm_Cx K cX12_faultOf RX12 3 (some (FieldType.int)) rm_X12_faultOf) (N : xm_Nx K) (hg : ∀ v S, g v S → xm_q K (some (xm_i v)) S)  (h1 : wp_X12_faultOf h x1 S g) : xm_W K 0 0 0 [(0, xm_r (some h)), (1, xm_i x1)] [] S := by
  unfold wp_X12_faultOf at h1
  refine x_aload_n C 0 dX12_faultOf_0 rfl rfl ?_
  refine x_iload_n C 1 dX12_faultOf_1 rfl rfl ?_
  obtain ⟨ht24, h1⟩ := h1
  refine x_putf_i (n := h) C rfl ht24 fd_160 xc_12 (by decide) rfl ⟨rfl, rfl⟩ dX12_faultOf_2 ?_
  refine x_topS (fun S25 e26 => ?_)
  have h1 := h1 S25 e26
  refine x_aload_n C 0 dX12_faultOf_5 rfl rfl ?_
  refine x_iconst (v := (0 : Int32)) C dX12_faultOf_6 (by decide) ?_
  refine x_putf_i (n := h) C rfl (tk_p e26 ht24) fd_158 xc_12 (by decide) rfl ⟨rfl, rfl⟩ dX12_faultOf_7 ?_
  refine x_topS (fun S27 e28 => ?_)
  have h1 := h1 S27 e28
  refine x_iconst (v := (1 : Int32)) C dX12_faultOf_10 (by decide) ?_
  refine x_istore_n (L' := [(2, xm_i (1 : Int32)), (0, xm_r (some h)), (1, xm_i x1)]) C dX12_faultOf_11 rfl (by decide) rfl ?_
  refine x_keep (L' := [(0, xm_r (some h)), (1, xm_i x1), (2, xm_i (1 : Int32))]) C [1, 2, 0] rfl ?_
  exact kp_X12_faultOf_12 h x1 (1 : Int32) S27 C N hg  h1
theorem kp_X12_faultOf_met {h : Nat} {x1 : Int32} {S : xm_S} {g : Int32 → xm_S → Prop}  (h1 : wp_X12_faultOf h x1 S g) : xm_Met yX12_faultOf cX12_faultOf 3 (some (FieldType.int)) rm_X12_faultOf [xm_r (some h), xm_i x1] S (xm_qi g) xm_nox :=
  xm_ofW RX12 (by decide +kernel) rfl (Nat.le_of_ble_eq_true rfl) (fun K C N hq hx hi => kp_X12_faultOf h x1 S C N (fun v S h => by rw [hq]; exact ⟨v, rfl, h⟩)  h1)
def rm_X12_isTyped : Room := { frames := 7, cells := 0, slots := 0, locals := 148 }
theorem dX12_isTyped_0 : decode cX12_isTyped 0 = .ok (.aload_n 0, 1) := by decide +kernel
theorem dX12_isTyped_1 : decode cX12_isTyped 1 = .ok (.sipush 154, 3) := by decide +kernel
theorem dX12_isTyped_4 : decode cX12_isTyped 4 = .ok (.invokevirtual 217, 3) := by decide +kernel
theorem dX12_isTyped_7 : decode cX12_isTyped 7 = .ok (.iconst (-1), 1) := by decide +kernel
theorem dX12_isTyped_8 : decode cX12_isTyped 8 = .ok (.if_icmp .ne 7, 3) := by decide +kernel
theorem dX12_isTyped_11 : decode cX12_isTyped 11 = .ok (.iconst 1, 1) := by decide +kernel
theorem dX12_isTyped_12 : decode cX12_isTyped 12 = .ok (.goto 4, 3) := by decide +kernel
theorem dX12_isTyped_15 : decode cX12_isTyped 15 = .ok (.iconst 0, 1) := by decide +kernel
theorem dX12_isTyped_16 : decode cX12_isTyped 16 = .ok (.ireturn, 1) := by decide +kernel
def wp_X12_isTyped_16 (h : Nat) (s0 : Int32) (S : xm_S) (g : Int32 → xm_S → Prop) : Prop :=
  (s0 = 0 ∨ s0 = 1) ∧ g s0 S
set_option maxRecDepth 100000 in
set_option maxHeartbeats 4000000 in
theorem kp_X12_isTyped_16 {K : xm_K} (h : Nat) (s0 : Int32) (S : xm_S) {g : Int32 → xm_S → Prop} (C : xm_Cx K cX12_isTyped RX12 1 (some (FieldType.boolean)) rm_X12_isTyped) (N : xm_Nx K) (hg : ∀ v S, g v S → xm_q K (some (xm_i v)) S)  (h1 : wp_X12_isTyped_16 h s0 S g) : xm_W K 0 0 16 [] [xm_i s0] S := by
  unfold wp_X12_isTyped_16 at h1
  exact x_zret C (Nat.le_of_ble_eq_true rfl) (Nat.le_of_ble_eq_true rfl) rfl h1.1 dX12_isTyped_16 (hg _ _ h1.2)
def wp_X12_isTyped (h : Nat)  (S : xm_S) (g : Int32 → xm_S → Prop) : Prop :=
  st_t S h = some (12, 0) ∧ wp_X12_faultOf h (nI 154) S (fun r3 S2 => (¬ r3 = (-1 : Int32) → wp_X12_isTyped_16 h (0 : Int32) S2 g) ∧ (r3 = (-1 : Int32) → wp_X12_isTyped_16 h (1 : Int32) S2 g))
set_option maxRecDepth 100000 in
set_option maxHeartbeats 4000000 in
theorem kp_X12_isTyped {K : xm_K} (h : Nat)  (S : xm_S) {g : Int32 → xm_S → Prop} (C : xm_Cx K cX12_isTyped RX12 1 (some (FieldType.boolean)) rm_X12_isTyped) (N : xm_Nx K) (hg : ∀ v S, g v S → xm_q K (some (xm_i v)) S)  (h1 : wp_X12_isTyped h  S g) : xm_W K 0 0 0 [(0, xm_r (some h))] [] S := by
  unfold wp_X12_isTyped at h1
  refine x_aload_n C 0 dX12_isTyped_0 rfl rfl ?_
  refine x_sipush (v := (nI 154)) C dX12_isTyped_1 (by decide) ?_
  obtain ⟨ht1, h1⟩ := h1
  refine x_callV (rm' := rm_X12_faultOf) (n := h) C (kp_X12_faultOf_met h1) lk_94 gw_567 gw_568 xv_12 rfl rfl ht1 rfl (Nat.le_of_ble_eq_true rfl) ⟨Nat.le_of_ble_eq_true rfl, Nat.le_of_ble_eq_true rfl, (Nat.le_of_ble_eq_true rfl), (Nat.le_of_ble_eq_true rfl)⟩ dX12_isTyped_4 xm_kx (xm_ki (fun r3 S2 h1 => ?_))
  refine x_iconst (v := (-1 : Int32)) C dX12_isTyped_7 (by decide) ?_
  refine x_icmp_ne (tgt := 15) C dX12_isTyped_8 (by decide) (fun z9 => ?_) (fun z9 => ?_)
  · have h1 := h1.1 z9
    refine x_iconst (v := (0 : Int32)) C dX12_isTyped_15 (by decide) ?_
    refine x_keep (L' := []) C [] rfl ?_
    exact kp_X12_isTyped_16 h (0 : Int32) S2 C N hg  h1
  · have h1 := h1.2 z9
    refine x_iconst (v := (1 : Int32)) C dX12_isTyped_11 (by decide) ?_
    refine x_goto (tgt := 16) C dX12_isTyped_12 (by decide) ?_
    refine x_keep (L' := []) C [] rfl ?_
    exact kp_X12_isTyped_16 h (1 : Int32) S2 C N hg  h1
theorem kp_X12_isTyped_met {h : Nat}  {S : xm_S} {g : Int32 → xm_S → Prop}  (h1 : wp_X12_isTyped h  S g) : xm_Met yX12_isTyped cX12_isTyped 1 (some (FieldType.boolean)) rm_X12_isTyped [xm_r (some h)] S (xm_qi g) xm_nox :=
  xm_ofW RX12 (by decide +kernel) rfl (Nat.le_of_ble_eq_true rfl) (fun K C N hq hx hi => kp_X12_isTyped h  S C N (fun v S h => by rw [hq]; exact ⟨v, rfl, h⟩)  h1)
def rm_X12_keeps : Room := { frames := 1, cells := 0, slots := 0, locals := 20 }
theorem dX12_keeps_0 : decode cX12_keeps 0 = .ok (.aload_n 0, 1) := by decide +kernel
theorem dX12_keeps_1 : decode cX12_keeps 1 = .ok (.getfield 77, 3) := by decide +kernel
theorem dX12_keeps_4 : decode cX12_keeps 4 = .ok (.iload_n 1, 1) := by decide +kernel
theorem dX12_keeps_5 : decode cX12_keeps 5 = .ok (.aload_n 0, 1) := by decide +kernel
theorem dX12_keeps_6 : decode cX12_keeps 6 = .ok (.getfield 77, 3) := by decide +kernel
theorem dX12_keeps_9 : decode cX12_keeps 9 = .ok (.sipush 154, 3) := by decide +kernel
theorem dX12_keeps_12 : decode cX12_keeps 12 = .ok (.iaload, 1) := by decide +kernel
theorem dX12_keeps_13 : decode cX12_keeps 13 = .ok (.iastore, 1) := by decide +kernel
theorem dX12_keeps_14 : decode cX12_keeps 14 = .ok (.iconst 0, 1) := by decide +kernel
theorem dX12_keeps_15 : decode cX12_keeps 15 = .ok (.istore_n 2, 1) := by decide +kernel
theorem dX12_keeps_16 : decode cX12_keeps 16 = .ok (.iload_n 2, 1) := by decide +kernel
theorem dX12_keeps_17 : decode cX12_keeps 17 = .ok (.aload_n 0, 1) := by decide +kernel
theorem dX12_keeps_18 : decode cX12_keeps 18 = .ok (.getfield 77, 3) := by decide +kernel
theorem dX12_keeps_21 : decode cX12_keeps 21 = .ok (.sipush 154, 3) := by decide +kernel
theorem dX12_keeps_24 : decode cX12_keeps 24 = .ok (.iaload, 1) := by decide +kernel
theorem dX12_keeps_25 : decode cX12_keeps 25 = .ok (.if_icmp .ge 30, 3) := by decide +kernel
theorem dX12_keeps_28 : decode cX12_keeps 28 = .ok (.aload_n 0, 1) := by decide +kernel
theorem dX12_keeps_29 : decode cX12_keeps 29 = .ok (.getfield 74, 3) := by decide +kernel
theorem dX12_keeps_32 : decode cX12_keeps 32 = .ok (.bipush 40, 2) := by decide +kernel
theorem dX12_keeps_34 : decode cX12_keeps 34 = .ok (.iload_n 1, 1) := by decide +kernel
theorem dX12_keeps_35 : decode cX12_keeps 35 = .ok (.imul, 1) := by decide +kernel
theorem dX12_keeps_36 : decode cX12_keeps 36 = .ok (.iload_n 2, 1) := by decide +kernel
theorem dX12_keeps_37 : decode cX12_keeps 37 = .ok (.iadd, 1) := by decide +kernel
theorem dX12_keeps_38 : decode cX12_keeps 38 = .ok (.aload_n 0, 1) := by decide +kernel
theorem dX12_keeps_39 : decode cX12_keeps 39 = .ok (.getfield 74, 3) := by decide +kernel
theorem dX12_keeps_42 : decode cX12_keeps 42 = .ok (.sipush 6160, 3) := by decide +kernel
theorem dX12_keeps_45 : decode cX12_keeps 45 = .ok (.iload_n 2, 1) := by decide +kernel
theorem dX12_keeps_46 : decode cX12_keeps 46 = .ok (.iadd, 1) := by decide +kernel
theorem dX12_keeps_47 : decode cX12_keeps 47 = .ok (.iaload, 1) := by decide +kernel
theorem dX12_keeps_48 : decode cX12_keeps 48 = .ok (.iastore, 1) := by decide +kernel
theorem dX12_keeps_49 : decode cX12_keeps 49 = .ok (.iinc 2 1, 3) := by decide +kernel
theorem dX12_keeps_52 : decode cX12_keeps 52 = .ok (.goto (-36), 3) := by decide +kernel
theorem dX12_keeps_55 : decode cX12_keeps 55 = .ok (.aload_n 0, 1) := by decide +kernel
theorem dX12_keeps_56 : decode cX12_keeps 56 = .ok (.getfield 77, 3) := by decide +kernel
theorem dX12_keeps_59 : decode cX12_keeps 59 = .ok (.sipush 154, 3) := by decide +kernel
theorem dX12_keeps_62 : decode cX12_keeps 62 = .ok (.iconst 0, 1) := by decide +kernel
theorem dX12_keeps_63 : decode cX12_keeps 63 = .ok (.iastore, 1) := by decide +kernel
theorem dX12_keeps_64 : decode cX12_keeps 64 = .ok (.return_, 1) := by decide +kernel
def wp_X12_keeps_16B (h : Nat) (x1 : Int32) (x2 : Int32) (S : xm_S) (g : xm_S → Prop) (Z16 : Int32 → Int32 → xm_S → Prop) : Prop :=
  st_t S h = some (12, 0) ∧ ∃ n2, (st_r S h 25) = some n2 ∧ ∃ z5, st_t S n2 = some (100, z5) ∧ vp_in (nI 154) z5 ∧ ((st_i S n2 ((nI 154)).toNatClampNeg) ≤ x2 → ∃ n7, (st_r S h 25) = some n7 ∧ ∃ z10, st_t S n7 = some (100, z10) ∧ vp_in (nI 154) z10 ∧ ∀ S12, S12 = st_pi S n7 ((nI 154)).toNatClampNeg (0 : Int32) → g S12) ∧ (¬ (st_i S n2 ((nI 154)).toNatClampNeg) ≤ x2 → ∃ n14, (st_r S h 24) = some n14 ∧ ∃ z17, st_t S n14 = some (100, z17) ∧ vp_in ((nI 6160) + x2) z17 ∧ ∃ n19, (st_r S h 24) = some n19 ∧ ∃ z22, st_t S n19 = some (100, z22) ∧ vp_in (((nI 40) * x1) + x2) z22 ∧ ∀ S24, S24 = st_pi S n19 ((((nI 40) * x1) + x2)).toNatClampNeg (st_i S n14 (((nI 6160) + x2)).toNatClampNeg) → ∀ y26, y26 = (x2 + (1 : Int32)) → Z16 x1 y26 S24)
def wp_X12_keeps_16 (h : Nat) (x1 : Int32) (x2 : Int32) (S : xm_S) (g : xm_S → Prop) : Prop :=
  ∀ Z16 : Int32 → Int32 → xm_S → Prop, (∀ x1 x2 S, wp_X12_keeps_16B h x1 x2 S g Z16 → Z16 x1 x2 S) → Z16 x1 x2 S
set_option maxRecDepth 100000 in
set_option maxHeartbeats 4000000 in
theorem kp_X12_keeps_16B {K : xm_K} (h : Nat) (x1 : Int32) (x2 : Int32) (S : xm_S) {g : xm_S → Prop} {Z16 : Int32 → Int32 → xm_S → Prop} (C : xm_Cx K cX12_keeps RX12 3 none rm_X12_keeps) (N : xm_Nx K) (hg : ∀ S, g S → xm_q K none S) (hZ16 : ∀ x1 x2 S, Z16 x1 x2 S → xm_W K 0 0 16 [(0, xm_r (some h)), (1, xm_i x1), (2, xm_i x2)] [] S) (h1 : wp_X12_keeps_16B h x1 x2 S g Z16) : xm_W K 0 0 16 [(0, xm_r (some h)), (1, xm_i x1), (2, xm_i x2)] [] S := by
  unfold wp_X12_keeps_16B at h1
  refine x_iload_n C 2 dX12_keeps_16 rfl rfl ?_
  refine x_aload_n C 0 dX12_keeps_17 rfl rfl ?_
  obtain ⟨ht1, h1⟩ := h1
  refine x_getf_r (n := h) C rfl ht1 fd_159 (by decide) dX12_keeps_18 ?_
  refine x_sipush (v := (nI 154)) C dX12_keeps_21 (by decide) ?_
  obtain ⟨n2, hr3, h1⟩ := h1
  obtain ⟨z5, ht4, h1⟩ := h1
  obtain ⟨hi6, h1⟩ := h1
  refine x_iald (n := n2) C hr3 ht4 hi6 dX12_keeps_24 ?_
  refine x_icmp_ge (tgt := 55) C dX12_keeps_25 (by decide) (fun z9 => ?_) (fun z9 => ?_)
  · have h1 := h1.1 z9
    refine x_aload_n C 0 dX12_keeps_55 rfl rfl ?_
    refine x_getf_r (n := h) C rfl ht1 fd_159 (by decide) dX12_keeps_56 ?_
    refine x_sipush (v := (nI 154)) C dX12_keeps_59 (by decide) ?_
    refine x_iconst (v := (0 : Int32)) C dX12_keeps_62 (by decide) ?_
    obtain ⟨n7, hr8, h1⟩ := h1
    obtain ⟨z10, ht9, h1⟩ := h1
    obtain ⟨hi11, h1⟩ := h1
    refine x_iast (n := n7) C hr8 ht9 hi11 dX12_keeps_63 ?_
    refine x_topS (fun S12 e13 => ?_)
    have h1 := h1 S12 e13
    exact x_vret C (Nat.le_of_ble_eq_true rfl) (Nat.le_of_ble_eq_true rfl) rfl dX12_keeps_64 (hg _ h1)
  · have h1 := h1.2 z9
    refine x_aload_n C 0 dX12_keeps_28 rfl rfl ?_
    refine x_getf_r (n := h) C rfl ht1 fd_161 (by decide) dX12_keeps_29 ?_
    refine x_bipush (v := (nI 40)) C dX12_keeps_32 (by decide) ?_
    refine x_iload_n C 1 dX12_keeps_34 rfl rfl ?_
    refine x_imul C dX12_keeps_35 ?_
    refine x_iload_n C 2 dX12_keeps_36 rfl rfl ?_
    refine x_iadd C dX12_keeps_37 ?_
    refine x_aload_n C 0 dX12_keeps_38 rfl rfl ?_
    refine x_getf_r (n := h) C rfl ht1 fd_161 (by decide) dX12_keeps_39 ?_
    refine x_sipush (v := (nI 6160)) C dX12_keeps_42 (by decide) ?_
    refine x_iload_n C 2 dX12_keeps_45 rfl rfl ?_
    refine x_iadd C dX12_keeps_46 ?_
    obtain ⟨n14, hr15, h1⟩ := h1
    obtain ⟨z17, ht16, h1⟩ := h1
    obtain ⟨hi18, h1⟩ := h1
    refine x_iald (n := n14) C hr15 ht16 hi18 dX12_keeps_47 ?_
    obtain ⟨n19, hr20, h1⟩ := h1
    obtain ⟨z22, ht21, h1⟩ := h1
    obtain ⟨hi23, h1⟩ := h1
    refine x_iast (n := n19) C hr20 ht21 hi23 dX12_keeps_48 ?_
    refine x_topS (fun S24 e25 => ?_)
    have h1 := h1 S24 e25
    obtain ⟨y26, e27⟩ : ∃ y26, y26 = (x2 + (1 : Int32)) := ⟨_, rfl⟩
    have h1 := h1 y26 e27
    refine x_iinc (v := y26) (L' := [(2, xm_i y26), (0, xm_r (some h)), (1, xm_i x1)]) C 2 dX12_keeps_49 rfl (by rw [e27]; rfl) (by decide) rfl ?_
    refine x_goto (tgt := 16) C dX12_keeps_52 (by decide) ?_
    refine x_keep (L' := [(0, xm_r (some h)), (1, xm_i x1), (2, xm_i y26)]) C [1, 2, 0] rfl ?_
    exact hZ16 x1 y26 S24 h1
theorem kp_X12_keeps_16 {K : xm_K} (h : Nat) (x1 : Int32) (x2 : Int32) (S : xm_S) {g : xm_S → Prop} (C : xm_Cx K cX12_keeps RX12 3 none rm_X12_keeps) (N : xm_Nx K) (hg : ∀ S, g S → xm_q K none S)  (h1 : wp_X12_keeps_16 h x1 x2 S g) : xm_W K 0 0 16 [(0, xm_r (some h)), (1, xm_i x1), (2, xm_i x2)] [] S :=
  h1 (fun x1 x2 S => xm_W K 0 0 16 [(0, xm_r (some h)), (1, xm_i x1), (2, xm_i x2)] [] S) (fun x1 x2 S hb => kp_X12_keeps_16B h x1 x2 S C N hg (fun x1 x2 S hz => hz) hb)
def wp_X12_keeps (h : Nat) (x1 : Int32) (S : xm_S) (g : xm_S → Prop) : Prop :=
  st_t S h = some (12, 0) ∧ ∃ n29, (st_r S h 25) = some n29 ∧ ∃ z32, st_t S n29 = some (100, z32) ∧ vp_in (nI 154) z32 ∧ ∃ n34, (st_r S h 25) = some n34 ∧ ∃ z37, st_t S n34 = some (100, z37) ∧ vp_in x1 z37 ∧ ∀ S39, S39 = st_pi S n34 (x1).toNatClampNeg (st_i S n29 ((nI 154)).toNatClampNeg) → wp_X12_keeps_16 h x1 (0 : Int32) S39 g
set_option maxRecDepth 100000 in
set_option maxHeartbeats 4000000 in
theorem kp_X12_keeps {K : xm_K} (h : Nat) (x1 : Int32) (S : xm_S) {g : xm_S → Prop} (C : xm_Cx K cX12_keeps RX12 3 none rm_X12_keeps) (N : xm_Nx K) (hg : ∀ S, g S → xm_q K none S)  (h1 : wp_X12_keeps h x1 S g) : xm_W K 0 0 0 [(0, xm_r (some h)), (1, xm_i x1)] [] S := by
  unfold wp_X12_keeps at h1
  refine x_aload_n C 0 dX12_keeps_0 rfl rfl ?_
  obtain ⟨ht28, h1⟩ := h1
  refine x_getf_r (n := h) C rfl ht28 fd_159 (by decide) dX12_keeps_1 ?_
  refine x_iload_n C 1 dX12_keeps_4 rfl rfl ?_
  refine x_aload_n C 0 dX12_keeps_5 rfl rfl ?_
  refine x_getf_r (n := h) C rfl ht28 fd_159 (by decide) dX12_keeps_6 ?_
  refine x_sipush (v := (nI 154)) C dX12_keeps_9 (by decide) ?_
  obtain ⟨n29, hr30, h1⟩ := h1
  obtain ⟨z32, ht31, h1⟩ := h1
  obtain ⟨hi33, h1⟩ := h1
  refine x_iald (n := n29) C hr30 ht31 hi33 dX12_keeps_12 ?_
  obtain ⟨n34, hr35, h1⟩ := h1
  obtain ⟨z37, ht36, h1⟩ := h1
  obtain ⟨hi38, h1⟩ := h1
  refine x_iast (n := n34) C hr35 ht36 hi38 dX12_keeps_13 ?_
  refine x_topS (fun S39 e40 => ?_)
  have h1 := h1 S39 e40
  refine x_iconst (v := (0 : Int32)) C dX12_keeps_14 (by decide) ?_
  refine x_istore_n (L' := [(2, xm_i (0 : Int32)), (0, xm_r (some h)), (1, xm_i x1)]) C dX12_keeps_15 rfl (by decide) rfl ?_
  refine x_keep (L' := [(0, xm_r (some h)), (1, xm_i x1), (2, xm_i (0 : Int32))]) C [1, 2, 0] rfl ?_
  exact kp_X12_keeps_16 h x1 (0 : Int32) S39 C N hg  h1
theorem kp_X12_keeps_met {h : Nat} {x1 : Int32} {S : xm_S} {g : xm_S → Prop}  (h1 : wp_X12_keeps h x1 S g) : xm_Met yX12_keeps cX12_keeps 3 none rm_X12_keeps [xm_r (some h), xm_i x1] S (xm_qv g) xm_nox :=
  xm_ofW RX12 (by decide +kernel) rfl (Nat.le_of_ble_eq_true rfl) (fun K C N hq hx hi => kp_X12_keeps h x1 S C N (fun S h => by rw [hq]; exact ⟨rfl, h⟩)  h1)
def rm_X12_may : Room := { frames := 1, cells := 0, slots := 0, locals := 20 }
theorem dX12_may_0 : decode cX12_may 0 = .ok (.aload_n 0, 1) := by decide +kernel
theorem dX12_may_1 : decode cX12_may 1 = .ok (.iload_n 1, 1) := by decide +kernel
theorem dX12_may_2 : decode cX12_may 2 = .ok (.putfield 169, 3) := by decide +kernel
theorem dX12_may_5 : decode cX12_may 5 = .ok (.iload_n 1, 1) := by decide +kernel
theorem dX12_may_6 : decode cX12_may 6 = .ok (.ifCond .ne 7, 3) := by decide +kernel
theorem dX12_may_9 : decode cX12_may 9 = .ok (.iconst 1, 1) := by decide +kernel
theorem dX12_may_10 : decode cX12_may 10 = .ok (.goto 4, 3) := by decide +kernel
theorem dX12_may_13 : decode cX12_may 13 = .ok (.iconst 0, 1) := by decide +kernel
theorem dX12_may_14 : decode cX12_may 14 = .ok (.ireturn, 1) := by decide +kernel
def wp_X12_may_14 (h : Nat) (s0 : Int32) (S : xm_S) (g : Int32 → xm_S → Prop) : Prop :=
  (s0 = 0 ∨ s0 = 1) ∧ g s0 S
set_option maxRecDepth 100000 in
set_option maxHeartbeats 4000000 in
theorem kp_X12_may_14 {K : xm_K} (h : Nat) (s0 : Int32) (S : xm_S) {g : Int32 → xm_S → Prop} (C : xm_Cx K cX12_may RX12 2 (some (FieldType.boolean)) rm_X12_may) (N : xm_Nx K) (hg : ∀ v S, g v S → xm_q K (some (xm_i v)) S)  (h1 : wp_X12_may_14 h s0 S g) : xm_W K 0 0 14 [] [xm_i s0] S := by
  unfold wp_X12_may_14 at h1
  exact x_zret C (Nat.le_of_ble_eq_true rfl) (Nat.le_of_ble_eq_true rfl) rfl h1.1 dX12_may_14 (hg _ _ h1.2)
def wp_X12_may (h : Nat) (x1 : Int32) (S : xm_S) (g : Int32 → xm_S → Prop) : Prop :=
  st_t S h = some (12, 0) ∧ ∀ S2, S2 = st_pi S h 0 x1 → (¬ x1 = 0 → wp_X12_may_14 h (0 : Int32) S2 g) ∧ (x1 = 0 → wp_X12_may_14 h (1 : Int32) S2 g)
set_option maxRecDepth 100000 in
set_option maxHeartbeats 4000000 in
theorem kp_X12_may {K : xm_K} (h : Nat) (x1 : Int32) (S : xm_S) {g : Int32 → xm_S → Prop} (C : xm_Cx K cX12_may RX12 2 (some (FieldType.boolean)) rm_X12_may) (N : xm_Nx K) (hg : ∀ v S, g v S → xm_q K (some (xm_i v)) S)  (h1 : wp_X12_may h x1 S g) : xm_W K 0 0 0 [(0, xm_r (some h)), (1, xm_i x1)] [] S := by
  unfold wp_X12_may at h1
  refine x_aload_n C 0 dX12_may_0 rfl rfl ?_
  refine x_iload_n C 1 dX12_may_1 rfl rfl ?_
  obtain ⟨ht1, h1⟩ := h1
  refine x_putf_i (n := h) C rfl ht1 fd_165 xc_12 (by decide) rfl ⟨rfl, rfl⟩ dX12_may_2 ?_
  refine x_topS (fun S2 e3 => ?_)
  have h1 := h1 S2 e3
  refine x_iload_n C 1 dX12_may_5 rfl rfl ?_
  refine x_if_ne (tgt := 13) C dX12_may_6 (by decide) (fun z9 => ?_) (fun z9 => ?_)
  · have h1 := h1.1 z9
    refine x_iconst (v := (0 : Int32)) C dX12_may_13 (by decide) ?_
    refine x_keep (L' := []) C [] rfl ?_
    exact kp_X12_may_14 h (0 : Int32) S2 C N hg  h1
  · have h1 := h1.2 z9
    refine x_iconst (v := (1 : Int32)) C dX12_may_9 (by decide) ?_
    refine x_goto (tgt := 14) C dX12_may_10 (by decide) ?_
    refine x_keep (L' := []) C [] rfl ?_
    exact kp_X12_may_14 h (1 : Int32) S2 C N hg  h1
theorem kp_X12_may_met {h : Nat} {x1 : Int32} {S : xm_S} {g : Int32 → xm_S → Prop}  (h1 : wp_X12_may h x1 S g) : xm_Met yX12_may cX12_may 2 (some (FieldType.boolean)) rm_X12_may [xm_r (some h), xm_i x1] S (xm_qi g) xm_nox :=
  xm_ofW RX12 (by decide +kernel) rfl (Nat.le_of_ble_eq_true rfl) (fun K C N hq hx hi => kp_X12_may h x1 S C N (fun v S h => by rw [hq]; exact ⟨v, rfl, h⟩)  h1)
def rm_X12_advise : Room := { frames := 8, cells := 0, slots := 0, locals := 168 }
theorem dX12_advise_0 : decode cX12_advise 0 = .ok (.iload_n 1, 1) := by decide +kernel
theorem dX12_advise_1 : decode cX12_advise 1 = .ok (.invokestatic 176, 3) := by decide +kernel
theorem dX12_advise_4 : decode cX12_advise 4 = .ok (.istore_n 3, 1) := by decide +kernel
theorem dX12_advise_5 : decode cX12_advise 5 = .ok (.aload_n 0, 1) := by decide +kernel
theorem dX12_advise_6 : decode cX12_advise 6 = .ok (.iload_n 3, 1) := by decide +kernel
theorem dX12_advise_7 : decode cX12_advise 7 = .ok (.ifCond .ne 7, 3) := by decide +kernel
theorem dX12_advise_10 : decode cX12_advise 10 = .ok (.iconst 1, 1) := by decide +kernel
theorem dX12_advise_11 : decode cX12_advise 11 = .ok (.goto 38, 3) := by decide +kernel
theorem dX12_advise_14 : decode cX12_advise 14 = .ok (.iload_n 2, 1) := by decide +kernel
theorem dX12_advise_15 : decode cX12_advise 15 = .ok (.iconst 1, 1) := by decide +kernel
theorem dX12_advise_16 : decode cX12_advise 16 = .ok (.bipush 9, 2) := by decide +kernel
theorem dX12_advise_18 : decode cX12_advise 18 = .ok (.invokestatic 172, 3) := by decide +kernel
theorem dX12_advise_21 : decode cX12_advise 21 = .ok (.ifCond .eq 10, 3) := by decide +kernel
theorem dX12_advise_24 : decode cX12_advise 24 = .ok (.aload_n 0, 1) := by decide +kernel
theorem dX12_advise_25 : decode cX12_advise 25 = .ok (.invokevirtual 240, 3) := by decide +kernel
theorem dX12_advise_28 : decode cX12_advise 28 = .ok (.ifCond .ne 7, 3) := by decide +kernel
theorem dX12_advise_31 : decode cX12_advise 31 = .ok (.iconst 2, 1) := by decide +kernel
theorem dX12_advise_32 : decode cX12_advise 32 = .ok (.goto 17, 3) := by decide +kernel
theorem dX12_advise_35 : decode cX12_advise 35 = .ok (.aload_n 0, 1) := by decide +kernel
theorem dX12_advise_36 : decode cX12_advise 36 = .ok (.getfield 317, 3) := by decide +kernel
theorem dX12_advise_39 : decode cX12_advise 39 = .ok (.bipush 6, 2) := by decide +kernel
theorem dX12_advise_41 : decode cX12_advise 41 = .ok (.if_icmp .ne 7, 3) := by decide +kernel
theorem dX12_advise_44 : decode cX12_advise 44 = .ok (.iconst 3, 1) := by decide +kernel
theorem dX12_advise_45 : decode cX12_advise 45 = .ok (.goto 4, 3) := by decide +kernel
theorem dX12_advise_48 : decode cX12_advise 48 = .ok (.iconst 0, 1) := by decide +kernel
theorem dX12_advise_49 : decode cX12_advise 49 = .ok (.invokevirtual 182, 3) := by decide +kernel
theorem dX12_advise_52 : decode cX12_advise 52 = .ok (.ifCond .ne 5, 3) := by decide +kernel
theorem dX12_advise_55 : decode cX12_advise 55 = .ok (.iconst 0, 1) := by decide +kernel
theorem dX12_advise_56 : decode cX12_advise 56 = .ok (.ireturn, 1) := by decide +kernel
theorem dX12_advise_57 : decode cX12_advise 57 = .ok (.aload_n 0, 1) := by decide +kernel
theorem dX12_advise_58 : decode cX12_advise 58 = .ok (.getfield 68, 3) := by decide +kernel
theorem dX12_advise_61 : decode cX12_advise 61 = .ok (.aload_n 0, 1) := by decide +kernel
theorem dX12_advise_62 : decode cX12_advise 62 = .ok (.getfield 317, 3) := by decide +kernel
theorem dX12_advise_65 : decode cX12_advise 65 = .ok (.iload_n 1, 1) := by decide +kernel
theorem dX12_advise_66 : decode cX12_advise 66 = .ok (.iastore, 1) := by decide +kernel
theorem dX12_advise_67 : decode cX12_advise 67 = .ok (.aload_n 0, 1) := by decide +kernel
theorem dX12_advise_68 : decode cX12_advise 68 = .ok (.getfield 71, 3) := by decide +kernel
theorem dX12_advise_71 : decode cX12_advise 71 = .ok (.aload_n 0, 1) := by decide +kernel
theorem dX12_advise_72 : decode cX12_advise 72 = .ok (.getfield 317, 3) := by decide +kernel
theorem dX12_advise_75 : decode cX12_advise 75 = .ok (.iload_n 2, 1) := by decide +kernel
theorem dX12_advise_76 : decode cX12_advise 76 = .ok (.iastore, 1) := by decide +kernel
theorem dX12_advise_77 : decode cX12_advise 77 = .ok (.aload_n 0, 1) := by decide +kernel
theorem dX12_advise_78 : decode cX12_advise 78 = .ok (.sipush 148, 3) := by decide +kernel
theorem dX12_advise_81 : decode cX12_advise 81 = .ok (.aload_n 0, 1) := by decide +kernel
theorem dX12_advise_82 : decode cX12_advise 82 = .ok (.getfield 317, 3) := by decide +kernel
theorem dX12_advise_85 : decode cX12_advise 85 = .ok (.iadd, 1) := by decide +kernel
theorem dX12_advise_86 : decode cX12_advise 86 = .ok (.invokevirtual 243, 3) := by decide +kernel
theorem dX12_advise_89 : decode cX12_advise 89 = .ok (.aload_n 0, 1) := by decide +kernel
theorem dX12_advise_90 : decode cX12_advise 90 = .ok (.dup, 1) := by decide +kernel
theorem dX12_advise_91 : decode cX12_advise 91 = .ok (.getfield 317, 3) := by decide +kernel
theorem dX12_advise_94 : decode cX12_advise 94 = .ok (.iconst 1, 1) := by decide +kernel
theorem dX12_advise_95 : decode cX12_advise 95 = .ok (.iadd, 1) := by decide +kernel
theorem dX12_advise_96 : decode cX12_advise 96 = .ok (.putfield 317, 3) := by decide +kernel
theorem dX12_advise_99 : decode cX12_advise 99 = .ok (.aload_n 0, 1) := by decide +kernel
theorem dX12_advise_100 : decode cX12_advise 100 = .ok (.getfield 317, 3) := by decide +kernel
theorem dX12_advise_103 : decode cX12_advise 103 = .ok (.ireturn, 1) := by decide +kernel
def wp_X12_advise_49 (h : Nat) (x1 : Int32) (x2 : Int32) (s0 : Int32) (s1 : Option Nat) (S : xm_S) (g : Int32 → xm_S → Prop) : Prop :=
  ∃ n1, s1 = some n1 ∧ st_t S n1 = some (12, 0) ∧ wp_X12_may n1 s0 S (fun r5 S4 => (¬ r5 = 0 → st_t S4 h = some (12, 0) ∧ ∃ n7, (st_r S4 h 22) = some n7 ∧ ∃ z10, st_t S4 n7 = some (100, z10) ∧ vp_in (st_i S4 h 21) z10 ∧ ∀ S12, S12 = st_pi S4 n7 ((st_i S4 h 21)).toNatClampNeg x1 → ∃ n14, (st_r S12 h 23) = some n14 ∧ ∃ z17, st_t S12 n14 = some (100, z17) ∧ vp_in (st_i S12 h 21) z17 ∧ ∀ S19, S19 = st_pi S12 n14 ((st_i S12 h 21)).toNatClampNeg x2 → wp_X12_keeps h ((nI 148) + (st_i S19 h 21)) S19 (fun S21 => st_t S21 h = some (12, 0) ∧ ∀ S24, S24 = st_pi S21 h 21 ((st_i S21 h 21) + (1 : Int32)) → g (st_i S24 h 21) S24)) ∧ (r5 = 0 → g (0 : Int32) S4))
set_option maxRecDepth 100000 in
set_option maxHeartbeats 4000000 in
theorem kp_X12_advise_49 {K : xm_K} (h : Nat) (x1 : Int32) (x2 : Int32) (s0 : Int32) (s1 : Option Nat) (S : xm_S) {g : Int32 → xm_S → Prop} (C : xm_Cx K cX12_advise RX12 4 (some (FieldType.int)) rm_X12_advise) (N : xm_Nx K) (hg : ∀ v S, g v S → xm_q K (some (xm_i v)) S)  (h1 : wp_X12_advise_49 h x1 x2 s0 s1 S g) : xm_W K 0 0 49 [(0, xm_r (some h)), (1, xm_i x1), (2, xm_i x2)] [xm_i s0, xm_r s1] S := by
  unfold wp_X12_advise_49 at h1
  obtain ⟨n1, hr2, h1⟩ := h1
  obtain ⟨ht3, h1⟩ := h1
  refine x_callV (rm' := rm_X12_may) (n := n1) C (kp_X12_may_met h1) lk_95 gw_572 gw_573 xv_12 rfl hr2 ht3 rfl (Nat.le_of_ble_eq_true rfl) ⟨Nat.le_of_ble_eq_true rfl, Nat.le_of_ble_eq_true rfl, (Nat.le_of_ble_eq_true rfl), (Nat.le_of_ble_eq_true rfl)⟩ dX12_advise_49 xm_kx (xm_ki (fun r5 S4 h1 => ?_))
  refine x_if_ne (tgt := 57) C dX12_advise_52 (by decide) (fun z9 => ?_) (fun z9 => ?_)
  · have h1 := h1.1 z9
    refine x_aload_n C 0 dX12_advise_57 rfl rfl ?_
    obtain ⟨ht6, h1⟩ := h1
    refine x_getf_r (n := h) C rfl ht6 fd_166 (by decide) dX12_advise_58 ?_
    refine x_aload_n C 0 dX12_advise_61 rfl rfl ?_
    refine x_getf_i (n := h) C rfl ht6 fd_167 (by decide) dX12_advise_62 ?_
    refine x_iload_n C 1 dX12_advise_65 rfl rfl ?_
    obtain ⟨n7, hr8, h1⟩ := h1
    obtain ⟨z10, ht9, h1⟩ := h1
    obtain ⟨hi11, h1⟩ := h1
    refine x_iast (n := n7) C hr8 ht9 hi11 dX12_advise_66 ?_
    refine x_topS (fun S12 e13 => ?_)
    have h1 := h1 S12 e13
    refine x_aload_n C 0 dX12_advise_67 rfl rfl ?_
    refine x_getf_r (n := h) C rfl (tk_p e13 ht6) fd_168 (by decide) dX12_advise_68 ?_
    refine x_aload_n C 0 dX12_advise_71 rfl rfl ?_
    refine x_getf_i (n := h) C rfl (tk_p e13 ht6) fd_167 (by decide) dX12_advise_72 ?_
    refine x_iload_n C 2 dX12_advise_75 rfl rfl ?_
    obtain ⟨n14, hr15, h1⟩ := h1
    obtain ⟨z17, ht16, h1⟩ := h1
    obtain ⟨hi18, h1⟩ := h1
    refine x_iast (n := n14) C hr15 ht16 hi18 dX12_advise_76 ?_
    refine x_topS (fun S19 e20 => ?_)
    have h1 := h1 S19 e20
    refine x_aload_n C 0 dX12_advise_77 rfl rfl ?_
    refine x_sipush (v := (nI 148)) C dX12_advise_78 (by decide) ?_
    refine x_aload_n C 0 dX12_advise_81 rfl rfl ?_
    refine x_getf_i (n := h) C rfl (tk_p e20 (tk_p e13 ht6)) fd_167 (by decide) dX12_advise_82 ?_
    refine x_iadd C dX12_advise_85 ?_
    refine x_callV (rm' := rm_X12_keeps) (n := h) C (kp_X12_keeps_met h1) lk_96 gw_579 gw_580 xv_12 rfl rfl (tk_p e20 (tk_p e13 ht6)) rfl (Nat.le_of_ble_eq_true rfl) ⟨Nat.le_of_ble_eq_true rfl, Nat.le_of_ble_eq_true rfl, (Nat.le_of_ble_eq_true rfl), (Nat.le_of_ble_eq_true rfl)⟩ dX12_advise_86 xm_kx (xm_kv (fun S21 h1 => ?_))
    refine x_aload_n C 0 dX12_advise_89 rfl rfl ?_
    refine x_dup_r C dX12_advise_90 ?_
    obtain ⟨ht23, h1⟩ := h1
    refine x_getf_i (n := h) C rfl ht23 fd_167 (by decide) dX12_advise_91 ?_
    refine x_iconst (v := (1 : Int32)) C dX12_advise_94 (by decide) ?_
    refine x_iadd C dX12_advise_95 ?_
    refine x_putf_i (n := h) C rfl ht23 fd_167 xc_12 (by decide) rfl ⟨rfl, rfl⟩ dX12_advise_96 ?_
    refine x_topS (fun S24 e25 => ?_)
    have h1 := h1 S24 e25
    refine x_aload_n C 0 dX12_advise_99 rfl rfl ?_
    refine x_getf_i (n := h) C rfl (tk_p e25 ht23) fd_167 (by decide) dX12_advise_100 ?_
    exact x_iret C (Nat.le_of_ble_eq_true rfl) (Nat.le_of_ble_eq_true rfl) rfl dX12_advise_103 (hg _ _ h1)
  · have h1 := h1.2 z9
    refine x_iconst (v := (0 : Int32)) C dX12_advise_55 (by decide) ?_
    exact x_iret C (Nat.le_of_ble_eq_true rfl) (Nat.le_of_ble_eq_true rfl) rfl dX12_advise_56 (hg _ _ h1)
def wp_X12_advise_31 (h : Nat) (x1 : Int32) (x2 : Int32) (s0 : Option Nat) (S : xm_S) (g : Int32 → xm_S → Prop) : Prop :=
  wp_X12_advise_49 h x1 x2 (nI 2) s0 S g
set_option maxRecDepth 100000 in
set_option maxHeartbeats 4000000 in
theorem kp_X12_advise_31 {K : xm_K} (h : Nat) (x1 : Int32) (x2 : Int32) (s0 : Option Nat) (S : xm_S) {g : Int32 → xm_S → Prop} (C : xm_Cx K cX12_advise RX12 4 (some (FieldType.int)) rm_X12_advise) (N : xm_Nx K) (hg : ∀ v S, g v S → xm_q K (some (xm_i v)) S)  (h1 : wp_X12_advise_31 h x1 x2 s0 S g) : xm_W K 0 0 31 [(0, xm_r (some h)), (1, xm_i x1), (2, xm_i x2)] [xm_r s0] S := by
  unfold wp_X12_advise_31 at h1
  refine x_iconst (v := (nI 2)) C dX12_advise_31 (by decide) ?_
  refine x_goto (tgt := 49) C dX12_advise_32 (by decide) ?_
  exact kp_X12_advise_49 h x1 x2 (nI 2) s0 S C N hg  h1
def wp_X12_advise (h : Nat) (x1 : Int32) (x2 : Int32) (S : xm_S) (g : Int32 → xm_S → Prop) : Prop :=
  wp_X12_isPack x1 S (fun r27 S26 => (¬ r27 = 0 → wp_X12_in x2 (1 : Int32) (nI 9) S26 (fun r29 S28 => (r29 = 0 → wp_X12_advise_31 h x1 x2 (some h) S28 g) ∧ (¬ r29 = 0 → st_t S28 h = some (12, 0) ∧ wp_X12_isTyped h S28 (fun r32 S31 => (¬ r32 = 0 → st_t S31 h = some (12, 0) ∧ (¬ (st_i S31 h 21) = (nI 6) → wp_X12_advise_49 h x1 x2 (0 : Int32) (some h) S31 g) ∧ ((st_i S31 h 21) = (nI 6) → wp_X12_advise_49 h x1 x2 (nI 3) (some h) S31 g)) ∧ (r32 = 0 → wp_X12_advise_31 h x1 x2 (some h) S31 g))))) ∧ (r27 = 0 → wp_X12_advise_49 h x1 x2 (1 : Int32) (some h) S26 g))
set_option maxRecDepth 100000 in
set_option maxHeartbeats 4000000 in
theorem kp_X12_advise {K : xm_K} (h : Nat) (x1 : Int32) (x2 : Int32) (S : xm_S) {g : Int32 → xm_S → Prop} (C : xm_Cx K cX12_advise RX12 4 (some (FieldType.int)) rm_X12_advise) (N : xm_Nx K) (hg : ∀ v S, g v S → xm_q K (some (xm_i v)) S)  (h1 : wp_X12_advise h x1 x2 S g) : xm_W K 0 0 0 [(0, xm_r (some h)), (1, xm_i x1), (2, xm_i x2)] [] S := by
  unfold wp_X12_advise at h1
  refine x_iload_n C 1 dX12_advise_0 rfl rfl ?_
  refine x_callS (rm' := rm_X12_isPack) C (kp_X12_isPack_met h1) lk_97 gw_583 rfl (Nat.le_of_ble_eq_true rfl) ⟨Nat.le_of_ble_eq_true rfl, Nat.le_of_ble_eq_true rfl, (Nat.le_of_ble_eq_true rfl), (Nat.le_of_ble_eq_true rfl)⟩ dX12_advise_1 xm_kx (xm_ki (fun r27 S26 h1 => ?_))
  refine x_istore_n (L' := [(3, xm_i r27), (0, xm_r (some h)), (1, xm_i x1), (2, xm_i x2)]) C dX12_advise_4 rfl (by decide) rfl ?_
  refine x_aload_n C 1 dX12_advise_5 rfl rfl ?_
  refine x_iload_n C 0 dX12_advise_6 rfl rfl ?_
  refine x_if_ne (tgt := 14) C dX12_advise_7 (by decide) (fun z9 => ?_) (fun z9 => ?_)
  · have h1 := h1.1 z9
    refine x_iload_n C 3 dX12_advise_14 rfl rfl ?_
    refine x_iconst (v := (1 : Int32)) C dX12_advise_15 (by decide) ?_
    refine x_bipush (v := (nI 9)) C dX12_advise_16 (by decide) ?_
    refine x_callS (rm' := rm_X12_in) C (kp_X12_in_met h1) lk_87 gw_533 rfl (Nat.le_of_ble_eq_true rfl) ⟨Nat.le_of_ble_eq_true rfl, Nat.le_of_ble_eq_true rfl, (Nat.le_of_ble_eq_true rfl), (Nat.le_of_ble_eq_true rfl)⟩ dX12_advise_18 xm_kx (xm_ki (fun r29 S28 h1 => ?_))
    refine x_if_eq (tgt := 31) C dX12_advise_21 (by decide) (fun z9 => ?_) (fun z9 => ?_)
    · have h1 := h1.1 z9
      refine x_keep (L' := [(0, xm_r (some h)), (1, xm_i x1), (2, xm_i x2)]) C [1, 2, 3] rfl ?_
      exact kp_X12_advise_31 h x1 x2 (some h) S28 C N hg  h1
    · have h1 := h1.2 z9
      refine x_aload_n C 1 dX12_advise_24 rfl rfl ?_
      obtain ⟨ht30, h1⟩ := h1
      refine x_callV (rm' := rm_X12_isTyped) (n := h) C (kp_X12_isTyped_met h1) lk_98 gw_586 gw_587 xv_12 rfl rfl ht30 rfl (Nat.le_of_ble_eq_true rfl) ⟨Nat.le_of_ble_eq_true rfl, Nat.le_of_ble_eq_true rfl, (Nat.le_of_ble_eq_true rfl), (Nat.le_of_ble_eq_true rfl)⟩ dX12_advise_25 xm_kx (xm_ki (fun r32 S31 h1 => ?_))
      refine x_if_ne (tgt := 35) C dX12_advise_28 (by decide) (fun z9 => ?_) (fun z9 => ?_)
      · have h1 := h1.1 z9
        refine x_aload_n C 1 dX12_advise_35 rfl rfl ?_
        obtain ⟨ht33, h1⟩ := h1
        refine x_getf_i (n := h) C rfl ht33 fd_167 (by decide) dX12_advise_36 ?_
        refine x_bipush (v := (nI 6)) C dX12_advise_39 (by decide) ?_
        refine x_icmp_ne (tgt := 48) C dX12_advise_41 (by decide) (fun z9 => ?_) (fun z9 => ?_)
        · have h1 := h1.1 z9
          refine x_iconst (v := (0 : Int32)) C dX12_advise_48 (by decide) ?_
          refine x_keep (L' := [(0, xm_r (some h)), (1, xm_i x1), (2, xm_i x2)]) C [1, 2, 3] rfl ?_
          exact kp_X12_advise_49 h x1 x2 (0 : Int32) (some h) S31 C N hg  h1
        · have h1 := h1.2 z9
          refine x_iconst (v := (nI 3)) C dX12_advise_44 (by decide) ?_
          refine x_goto (tgt := 49) C dX12_advise_45 (by decide) ?_
          refine x_keep (L' := [(0, xm_r (some h)), (1, xm_i x1), (2, xm_i x2)]) C [1, 2, 3] rfl ?_
          exact kp_X12_advise_49 h x1 x2 (nI 3) (some h) S31 C N hg  h1
      · have h1 := h1.2 z9
        refine x_keep (L' := [(0, xm_r (some h)), (1, xm_i x1), (2, xm_i x2)]) C [1, 2, 3] rfl ?_
        exact kp_X12_advise_31 h x1 x2 (some h) S31 C N hg  h1
  · have h1 := h1.2 z9
    refine x_iconst (v := (1 : Int32)) C dX12_advise_10 (by decide) ?_
    refine x_goto (tgt := 49) C dX12_advise_11 (by decide) ?_
    refine x_keep (L' := [(0, xm_r (some h)), (1, xm_i x1), (2, xm_i x2)]) C [1, 2, 3] rfl ?_
    exact kp_X12_advise_49 h x1 x2 (1 : Int32) (some h) S26 C N hg  h1
theorem kp_X12_advise_met {h : Nat} {x1 : Int32} {x2 : Int32} {S : xm_S} {g : Int32 → xm_S → Prop}  (h1 : wp_X12_advise h x1 x2 S g) : xm_Met yX12_advise cX12_advise 4 (some (FieldType.int)) rm_X12_advise [xm_r (some h), xm_i x1, xm_i x2] S (xm_qi g) xm_nox :=
  xm_ofW RX12 (by decide +kernel) rfl (Nat.le_of_ble_eq_true rfl) (fun K C N hq hx hi => kp_X12_advise h x1 x2 S C N (fun v S h => by rw [hq]; exact ⟨v, rfl, h⟩)  h1)
def rm_X12_isPlatform : Room := { frames := 2, cells := 0, slots := 0, locals := 42 }
theorem dX12_isPlatform_0 : decode cX12_isPlatform 0 = .ok (.iload_n 0, 1) := by decide +kernel
theorem dX12_isPlatform_1 : decode cX12_isPlatform 1 = .ok (.iconst 0, 1) := by decide +kernel
theorem dX12_isPlatform_2 : decode cX12_isPlatform 2 = .ok (.iconst 2, 1) := by decide +kernel
theorem dX12_isPlatform_3 : decode cX12_isPlatform 3 = .ok (.invokestatic 172, 3) := by decide +kernel
theorem dX12_isPlatform_6 : decode cX12_isPlatform 6 = .ok (.ireturn, 1) := by decide +kernel
def wp_X12_isPlatform (x0 : Int32) (S : xm_S) (g : Int32 → xm_S → Prop) : Prop :=
  wp_X12_in x0 (0 : Int32) (nI 2) S (fun r2 S1 => (r2 = 0 ∨ r2 = 1) ∧ g r2 S1)
set_option maxRecDepth 100000 in
set_option maxHeartbeats 4000000 in
theorem kp_X12_isPlatform {K : xm_K} (x0 : Int32) (S : xm_S) {g : Int32 → xm_S → Prop} (C : xm_Cx K cX12_isPlatform RX12 1 (some (FieldType.boolean)) rm_X12_isPlatform) (N : xm_Nx K) (hg : ∀ v S, g v S → xm_q K (some (xm_i v)) S)  (h1 : wp_X12_isPlatform x0 S g) : xm_W K 0 0 0 [(0, xm_i x0)] [] S := by
  unfold wp_X12_isPlatform at h1
  refine x_iload_n C 0 dX12_isPlatform_0 rfl rfl ?_
  refine x_iconst (v := (0 : Int32)) C dX12_isPlatform_1 (by decide) ?_
  refine x_iconst (v := (nI 2)) C dX12_isPlatform_2 (by decide) ?_
  refine x_callS (rm' := rm_X12_in) C (kp_X12_in_met h1) lk_87 gw_533 rfl (Nat.le_of_ble_eq_true rfl) ⟨Nat.le_of_ble_eq_true rfl, Nat.le_of_ble_eq_true rfl, (Nat.le_of_ble_eq_true rfl), (Nat.le_of_ble_eq_true rfl)⟩ dX12_isPlatform_3 xm_kx (xm_ki (fun r2 S1 h1 => ?_))
  exact x_zret C (Nat.le_of_ble_eq_true rfl) (Nat.le_of_ble_eq_true rfl) rfl h1.1 dX12_isPlatform_6 (hg _ _ h1.2)
theorem kp_X12_isPlatform_met {x0 : Int32} {S : xm_S} {g : Int32 → xm_S → Prop}  (h1 : wp_X12_isPlatform x0 S g) : xm_Met yX12_isPlatform cX12_isPlatform 1 (some (FieldType.boolean)) rm_X12_isPlatform [xm_i x0] S (xm_qi g) xm_nox :=
  xm_ofW RX12 (by decide +kernel) rfl (Nat.le_of_ble_eq_true rfl) (fun K C N hq hx hi => kp_X12_isPlatform x0 S C N (fun v S h => by rw [hq]; exact ⟨v, rfl, h⟩)  h1)
def rm_X12_isOfPreview : Room := { frames := 1, cells := 0, slots := 0, locals := 20 }
theorem dX12_isOfPreview_0 : decode cX12_isOfPreview 0 = .ok (.aload_n 0, 1) := by decide +kernel
theorem dX12_isOfPreview_1 : decode cX12_isOfPreview 1 = .ok (.getfield 166, 3) := by decide +kernel
theorem dX12_isOfPreview_4 : decode cX12_isOfPreview 4 = .ok (.iconst 4, 1) := by decide +kernel
theorem dX12_isOfPreview_5 : decode cX12_isOfPreview 5 = .ok (.iaload, 1) := by decide +kernel
theorem dX12_isOfPreview_6 : decode cX12_isOfPreview 6 = .ok (.ifCond .le 51, 3) := by decide +kernel
theorem dX12_isOfPreview_9 : decode cX12_isOfPreview 9 = .ok (.sipush 1000, 3) := by decide +kernel
theorem dX12_isOfPreview_12 : decode cX12_isOfPreview 12 = .ok (.aload_n 0, 1) := by decide +kernel
theorem dX12_isOfPreview_13 : decode cX12_isOfPreview 13 = .ok (.getfield 166, 3) := by decide +kernel
theorem dX12_isOfPreview_16 : decode cX12_isOfPreview 16 = .ok (.iconst 0, 1) := by decide +kernel
theorem dX12_isOfPreview_17 : decode cX12_isOfPreview 17 = .ok (.iaload, 1) := by decide +kernel
theorem dX12_isOfPreview_18 : decode cX12_isOfPreview 18 = .ok (.imul, 1) := by decide +kernel
theorem dX12_isOfPreview_19 : decode cX12_isOfPreview 19 = .ok (.bipush 100, 2) := by decide +kernel
theorem dX12_isOfPreview_21 : decode cX12_isOfPreview 21 = .ok (.aload_n 0, 1) := by decide +kernel
theorem dX12_isOfPreview_22 : decode cX12_isOfPreview 22 = .ok (.getfield 166, 3) := by decide +kernel
theorem dX12_isOfPreview_25 : decode cX12_isOfPreview 25 = .ok (.iconst 1, 1) := by decide +kernel
theorem dX12_isOfPreview_26 : decode cX12_isOfPreview 26 = .ok (.iaload, 1) := by decide +kernel
theorem dX12_isOfPreview_27 : decode cX12_isOfPreview 27 = .ok (.imul, 1) := by decide +kernel
theorem dX12_isOfPreview_28 : decode cX12_isOfPreview 28 = .ok (.iadd, 1) := by decide +kernel
theorem dX12_isOfPreview_29 : decode cX12_isOfPreview 29 = .ok (.bipush 10, 2) := by decide +kernel
theorem dX12_isOfPreview_31 : decode cX12_isOfPreview 31 = .ok (.aload_n 0, 1) := by decide +kernel
theorem dX12_isOfPreview_32 : decode cX12_isOfPreview 32 = .ok (.getfield 166, 3) := by decide +kernel
theorem dX12_isOfPreview_35 : decode cX12_isOfPreview 35 = .ok (.iconst 2, 1) := by decide +kernel
theorem dX12_isOfPreview_36 : decode cX12_isOfPreview 36 = .ok (.iaload, 1) := by decide +kernel
theorem dX12_isOfPreview_37 : decode cX12_isOfPreview 37 = .ok (.imul, 1) := by decide +kernel
theorem dX12_isOfPreview_38 : decode cX12_isOfPreview 38 = .ok (.iadd, 1) := by decide +kernel
theorem dX12_isOfPreview_39 : decode cX12_isOfPreview 39 = .ok (.aload_n 0, 1) := by decide +kernel
theorem dX12_isOfPreview_40 : decode cX12_isOfPreview 40 = .ok (.getfield 166, 3) := by decide +kernel
theorem dX12_isOfPreview_43 : decode cX12_isOfPreview 43 = .ok (.iconst 3, 1) := by decide +kernel
theorem dX12_isOfPreview_44 : decode cX12_isOfPreview 44 = .ok (.iaload, 1) := by decide +kernel
theorem dX12_isOfPreview_45 : decode cX12_isOfPreview 45 = .ok (.iadd, 1) := by decide +kernel
theorem dX12_isOfPreview_46 : decode cX12_isOfPreview 46 = .ok (.iload_n 1, 1) := by decide +kernel
theorem dX12_isOfPreview_47 : decode cX12_isOfPreview 47 = .ok (.bipush 10, 2) := by decide +kernel
theorem dX12_isOfPreview_49 : decode cX12_isOfPreview 49 = .ok (.idiv, 1) := by decide +kernel
theorem dX12_isOfPreview_50 : decode cX12_isOfPreview 50 = .ok (.if_icmp .ne 7, 3) := by decide +kernel
theorem dX12_isOfPreview_53 : decode cX12_isOfPreview 53 = .ok (.iconst 1, 1) := by decide +kernel
theorem dX12_isOfPreview_54 : decode cX12_isOfPreview 54 = .ok (.goto 4, 3) := by decide +kernel
theorem dX12_isOfPreview_57 : decode cX12_isOfPreview 57 = .ok (.iconst 0, 1) := by decide +kernel
theorem dX12_isOfPreview_58 : decode cX12_isOfPreview 58 = .ok (.ireturn, 1) := by decide +kernel
def wp_X12_isOfPreview_58 (h : Nat) (s0 : Int32) (S : xm_S) (g : Int32 → xm_S → Prop) : Prop :=
  (s0 = 0 ∨ s0 = 1) ∧ g s0 S
set_option maxRecDepth 100000 in
set_option maxHeartbeats 4000000 in
theorem kp_X12_isOfPreview_58 {K : xm_K} (h : Nat) (s0 : Int32) (S : xm_S) {g : Int32 → xm_S → Prop} (C : xm_Cx K cX12_isOfPreview RX12 2 (some (FieldType.boolean)) rm_X12_isOfPreview) (N : xm_Nx K) (hg : ∀ v S, g v S → xm_q K (some (xm_i v)) S)  (h1 : wp_X12_isOfPreview_58 h s0 S g) : xm_W K 0 0 58 [] [xm_i s0] S := by
  unfold wp_X12_isOfPreview_58 at h1
  exact x_zret C (Nat.le_of_ble_eq_true rfl) (Nat.le_of_ble_eq_true rfl) rfl h1.1 dX12_isOfPreview_58 (hg _ _ h1.2)
def wp_X12_isOfPreview_57 (h : Nat)  (S : xm_S) (g : Int32 → xm_S → Prop) : Prop :=
  wp_X12_isOfPreview_58 h (0 : Int32) S g
set_option maxRecDepth 100000 in
set_option maxHeartbeats 4000000 in
theorem kp_X12_isOfPreview_57 {K : xm_K} (h : Nat)  (S : xm_S) {g : Int32 → xm_S → Prop} (C : xm_Cx K cX12_isOfPreview RX12 2 (some (FieldType.boolean)) rm_X12_isOfPreview) (N : xm_Nx K) (hg : ∀ v S, g v S → xm_q K (some (xm_i v)) S)  (h1 : wp_X12_isOfPreview_57 h  S g) : xm_W K 0 0 57 [] [] S := by
  unfold wp_X12_isOfPreview_57 at h1
  refine x_iconst (v := (0 : Int32)) C dX12_isOfPreview_57 (by decide) ?_
  exact kp_X12_isOfPreview_58 h (0 : Int32) S C N hg  h1
def wp_X12_isOfPreview (h : Nat) (x1 : Int32) (S : xm_S) (g : Int32 → xm_S → Prop) : Prop :=
  st_t S h = some (12, 0) ∧ ∃ n2, (st_r S h 63) = some n2 ∧ ∃ z5, st_t S n2 = some (100, z5) ∧ vp_in (nI 4) z5 ∧ ((st_i S n2 ((nI 4)).toNatClampNeg) ≤ 0 → wp_X12_isOfPreview_57 h S g) ∧ (¬ (st_i S n2 ((nI 4)).toNatClampNeg) ≤ 0 → ∃ n7, (st_r S h 63) = some n7 ∧ ∃ z10, st_t S n7 = some (100, z10) ∧ vp_in (0 : Int32) z10 ∧ ∃ n12, (st_r S h 63) = some n12 ∧ ∃ z15, st_t S n12 = some (100, z15) ∧ vp_in (1 : Int32) z15 ∧ ∃ n17, (st_r S h 63) = some n17 ∧ ∃ z20, st_t S n17 = some (100, z20) ∧ vp_in (nI 2) z20 ∧ ∃ n22, (st_r S h 63) = some n22 ∧ ∃ z25, st_t S n22 = some (100, z25) ∧ vp_in (nI 3) z25 ∧ (¬ (((((nI 1000) * (st_i S n7 ((0 : Int32)).toNatClampNeg)) + ((nI 100) * (st_i S n12 ((1 : Int32)).toNatClampNeg))) + ((nI 10) * (st_i S n17 ((nI 2)).toNatClampNeg))) + (st_i S n22 ((nI 3)).toNatClampNeg)) = (x1 / (nI 10)) → wp_X12_isOfPreview_57 h S g) ∧ ((((((nI 1000) * (st_i S n7 ((0 : Int32)).toNatClampNeg)) + ((nI 100) * (st_i S n12 ((1 : Int32)).toNatClampNeg))) + ((nI 10) * (st_i S n17 ((nI 2)).toNatClampNeg))) + (st_i S n22 ((nI 3)).toNatClampNeg)) = (x1 / (nI 10)) → wp_X12_isOfPreview_58 h (1 : Int32) S g))
set_option maxRecDepth 100000 in
set_option maxHeartbeats 4000000 in
theorem kp_X12_isOfPreview {K : xm_K} (h : Nat) (x1 : Int32) (S : xm_S) {g : Int32 → xm_S → Prop} (C : xm_Cx K cX12_isOfPreview RX12 2 (some (FieldType.boolean)) rm_X12_isOfPreview) (N : xm_Nx K) (hg : ∀ v S, g v S → xm_q K (some (xm_i v)) S)  (h1 : wp_X12_isOfPreview h x1 S g) : xm_W K 0 0 0 [(0, xm_r (some h)), (1, xm_i x1)] [] S := by
  unfold wp_X12_isOfPreview at h1
  refine x_aload_n C 0 dX12_isOfPreview_0 rfl rfl ?_
  obtain ⟨ht1, h1⟩ := h1
  refine x_getf_r (n := h) C rfl ht1 fd_162 (by decide) dX12_isOfPreview_1 ?_
  refine x_iconst (v := (nI 4)) C dX12_isOfPreview_4 (by decide) ?_
  obtain ⟨n2, hr3, h1⟩ := h1
  obtain ⟨z5, ht4, h1⟩ := h1
  obtain ⟨hi6, h1⟩ := h1
  refine x_iald (n := n2) C hr3 ht4 hi6 dX12_isOfPreview_5 ?_
  refine x_if_le (tgt := 57) C dX12_isOfPreview_6 (by decide) (fun z9 => ?_) (fun z9 => ?_)
  · have h1 := h1.1 z9
    refine x_keep (L' := []) C [] rfl ?_
    exact kp_X12_isOfPreview_57 h S C N hg  h1
  · have h1 := h1.2 z9
    refine x_sipush (v := (nI 1000)) C dX12_isOfPreview_9 (by decide) ?_
    refine x_aload_n C 0 dX12_isOfPreview_12 rfl rfl ?_
    refine x_getf_r (n := h) C rfl ht1 fd_162 (by decide) dX12_isOfPreview_13 ?_
    refine x_iconst (v := (0 : Int32)) C dX12_isOfPreview_16 (by decide) ?_
    obtain ⟨n7, hr8, h1⟩ := h1
    obtain ⟨z10, ht9, h1⟩ := h1
    obtain ⟨hi11, h1⟩ := h1
    refine x_iald (n := n7) C hr8 ht9 hi11 dX12_isOfPreview_17 ?_
    refine x_imul C dX12_isOfPreview_18 ?_
    refine x_bipush (v := (nI 100)) C dX12_isOfPreview_19 (by decide) ?_
    refine x_aload_n C 0 dX12_isOfPreview_21 rfl rfl ?_
    refine x_getf_r (n := h) C rfl ht1 fd_162 (by decide) dX12_isOfPreview_22 ?_
    refine x_iconst (v := (1 : Int32)) C dX12_isOfPreview_25 (by decide) ?_
    obtain ⟨n12, hr13, h1⟩ := h1
    obtain ⟨z15, ht14, h1⟩ := h1
    obtain ⟨hi16, h1⟩ := h1
    refine x_iald (n := n12) C hr13 ht14 hi16 dX12_isOfPreview_26 ?_
    refine x_imul C dX12_isOfPreview_27 ?_
    refine x_iadd C dX12_isOfPreview_28 ?_
    refine x_bipush (v := (nI 10)) C dX12_isOfPreview_29 (by decide) ?_
    refine x_aload_n C 0 dX12_isOfPreview_31 rfl rfl ?_
    refine x_getf_r (n := h) C rfl ht1 fd_162 (by decide) dX12_isOfPreview_32 ?_
    refine x_iconst (v := (nI 2)) C dX12_isOfPreview_35 (by decide) ?_
    obtain ⟨n17, hr18, h1⟩ := h1
    obtain ⟨z20, ht19, h1⟩ := h1
    obtain ⟨hi21, h1⟩ := h1
    refine x_iald (n := n17) C hr18 ht19 hi21 dX12_isOfPreview_36 ?_
    refine x_imul C dX12_isOfPreview_37 ?_
    refine x_iadd C dX12_isOfPreview_38 ?_
    refine x_aload_n C 0 dX12_isOfPreview_39 rfl rfl ?_
    refine x_getf_r (n := h) C rfl ht1 fd_162 (by decide) dX12_isOfPreview_40 ?_
    refine x_iconst (v := (nI 3)) C dX12_isOfPreview_43 (by decide) ?_
    obtain ⟨n22, hr23, h1⟩ := h1
    obtain ⟨z25, ht24, h1⟩ := h1
    obtain ⟨hi26, h1⟩ := h1
    refine x_iald (n := n22) C hr23 ht24 hi26 dX12_isOfPreview_44 ?_
    refine x_iadd C dX12_isOfPreview_45 ?_
    refine x_iload_n C 1 dX12_isOfPreview_46 rfl rfl ?_
    refine x_bipush (v := (nI 10)) C dX12_isOfPreview_47 (by decide) ?_
    refine x_idiv C dX12_isOfPreview_49 (by decide) ?_
    refine x_icmp_ne (tgt := 57) C dX12_isOfPreview_50 (by decide) (fun z9 => ?_) (fun z9 => ?_)
    · have h1 := h1.1 z9
      refine x_keep (L' := []) C [] rfl ?_
      exact kp_X12_isOfPreview_57 h S C N hg  h1
    · have h1 := h1.2 z9
      refine x_iconst (v := (1 : Int32)) C dX12_isOfPreview_53 (by decide) ?_
      refine x_goto (tgt := 58) C dX12_isOfPreview_54 (by decide) ?_
      refine x_keep (L' := []) C [] rfl ?_
      exact kp_X12_isOfPreview_58 h (1 : Int32) S C N hg  h1
theorem kp_X12_isOfPreview_met {h : Nat} {x1 : Int32} {S : xm_S} {g : Int32 → xm_S → Prop}  (h1 : wp_X12_isOfPreview h x1 S g) : xm_Met yX12_isOfPreview cX12_isOfPreview 2 (some (FieldType.boolean)) rm_X12_isOfPreview [xm_r (some h), xm_i x1] S (xm_qi g) xm_nox :=
  xm_ofW RX12 (by decide +kernel) rfl (Nat.le_of_ble_eq_true rfl) (fun K C N hq hx hi => kp_X12_isOfPreview h x1 S C N (fun v S h => by rw [hq]; exact ⟨v, rfl, h⟩)  h1)
def rm_X12_key : Room := { frames := 1, cells := 0, slots := 0, locals := 20 }
theorem dX12_key_0 : decode cX12_key 0 = .ok (.iload 5, 2) := by decide +kernel
theorem dX12_key_2 : decode cX12_key 2 = .ok (.ifCond .ne 8, 3) := by decide +kernel
theorem dX12_key_5 : decode cX12_key 5 = .ok (.bipush 10, 2) := by decide +kernel
theorem dX12_key_7 : decode cX12_key 7 = .ok (.goto 5, 3) := by decide +kernel
theorem dX12_key_10 : decode cX12_key 10 = .ok (.iload 5, 2) := by decide +kernel
theorem dX12_key_12 : decode cX12_key 12 = .ok (.istore 6, 2) := by decide +kernel
theorem dX12_key_14 : decode cX12_key 14 = .ok (.iload_n 0, 1) := by decide +kernel
theorem dX12_key_15 : decode cX12_key 15 = .ok (.iconst 2, 1) := by decide +kernel
theorem dX12_key_16 : decode cX12_key 16 = .ok (.if_icmp .ne 18, 3) := by decide +kernel
theorem dX12_key_19 : decode cX12_key 19 = .ok (.iload 4, 2) := by decide +kernel
theorem dX12_key_21 : decode cX12_key 21 = .ok (.bipush 11, 2) := by decide +kernel
theorem dX12_key_23 : decode cX12_key 23 = .ok (.imul, 1) := by decide +kernel
theorem dX12_key_24 : decode cX12_key 24 = .ok (.iload_n 2, 1) := by decide +kernel
theorem dX12_key_25 : decode cX12_key 25 = .ok (.iadd, 1) := by decide +kernel
theorem dX12_key_26 : decode cX12_key 26 = .ok (.bipush 11, 2) := by decide +kernel
theorem dX12_key_28 : decode cX12_key 28 = .ok (.imul, 1) := by decide +kernel
theorem dX12_key_29 : decode cX12_key 29 = .ok (.iload_n 3, 1) := by decide +kernel
theorem dX12_key_30 : decode cX12_key 30 = .ok (.iadd, 1) := by decide +kernel
theorem dX12_key_31 : decode cX12_key 31 = .ok (.goto 15, 3) := by decide +kernel
theorem dX12_key_34 : decode cX12_key 34 = .ok (.iload_n 2, 1) := by decide +kernel
theorem dX12_key_35 : decode cX12_key 35 = .ok (.bipush 11, 2) := by decide +kernel
theorem dX12_key_37 : decode cX12_key 37 = .ok (.imul, 1) := by decide +kernel
theorem dX12_key_38 : decode cX12_key 38 = .ok (.iload_n 3, 1) := by decide +kernel
theorem dX12_key_39 : decode cX12_key 39 = .ok (.iadd, 1) := by decide +kernel
theorem dX12_key_40 : decode cX12_key 40 = .ok (.bipush 11, 2) := by decide +kernel
theorem dX12_key_42 : decode cX12_key 42 = .ok (.imul, 1) := by decide +kernel
theorem dX12_key_43 : decode cX12_key 43 = .ok (.iload 4, 2) := by decide +kernel
theorem dX12_key_45 : decode cX12_key 45 = .ok (.iadd, 1) := by decide +kernel
theorem dX12_key_46 : decode cX12_key 46 = .ok (.istore 7, 2) := by decide +kernel
theorem dX12_key_48 : decode cX12_key 48 = .ok (.iload_n 0, 1) := by decide +kernel
theorem dX12_key_49 : decode cX12_key 49 = .ok (.iconst 1, 1) := by decide +kernel
theorem dX12_key_50 : decode cX12_key 50 = .ok (.if_icmp .ne 11, 3) := by decide +kernel
theorem dX12_key_53 : decode cX12_key 53 = .ok (.iload_n 1, 1) := by decide +kernel
theorem dX12_key_54 : decode cX12_key 54 = .ok (.sipush 1331, 3) := by decide +kernel
theorem dX12_key_57 : decode cX12_key 57 = .ok (.imul, 1) := by decide +kernel
theorem dX12_key_58 : decode cX12_key 58 = .ok (.goto 4, 3) := by decide +kernel
theorem dX12_key_61 : decode cX12_key 61 = .ok (.iconst 0, 1) := by decide +kernel
theorem dX12_key_62 : decode cX12_key 62 = .ok (.iload 7, 2) := by decide +kernel
theorem dX12_key_64 : decode cX12_key 64 = .ok (.iadd, 1) := by decide +kernel
theorem dX12_key_65 : decode cX12_key 65 = .ok (.bipush 11, 2) := by decide +kernel
theorem dX12_key_67 : decode cX12_key 67 = .ok (.imul, 1) := by decide +kernel
theorem dX12_key_68 : decode cX12_key 68 = .ok (.iload 6, 2) := by decide +kernel
theorem dX12_key_70 : decode cX12_key 70 = .ok (.iadd, 1) := by decide +kernel
theorem dX12_key_71 : decode cX12_key 71 = .ok (.ireturn, 1) := by decide +kernel
def wp_X12_key_62 (x6 : Int32) (x7 : Int32) (s0 : Int32) (S : xm_S) (g : Int32 → xm_S → Prop) : Prop :=
  g (((s0 + x7) * (nI 11)) + x6) S
set_option maxRecDepth 100000 in
set_option maxHeartbeats 4000000 in
theorem kp_X12_key_62 {K : xm_K} (x6 : Int32) (x7 : Int32) (s0 : Int32) (S : xm_S) {g : Int32 → xm_S → Prop} (C : xm_Cx K cX12_key RX12 8 (some (FieldType.int)) rm_X12_key) (N : xm_Nx K) (hg : ∀ v S, g v S → xm_q K (some (xm_i v)) S)  (h1 : wp_X12_key_62 x6 x7 s0 S g) : xm_W K 0 0 62 [(6, xm_i x6), (7, xm_i x7)] [xm_i s0] S := by
  unfold wp_X12_key_62 at h1
  refine x_iload C 1 dX12_key_62 rfl ?_
  refine x_iadd C dX12_key_64 ?_
  refine x_bipush (v := (nI 11)) C dX12_key_65 (by decide) ?_
  refine x_imul C dX12_key_67 ?_
  refine x_iload C 0 dX12_key_68 rfl ?_
  refine x_iadd C dX12_key_70 ?_
  exact x_iret C (Nat.le_of_ble_eq_true rfl) (Nat.le_of_ble_eq_true rfl) rfl dX12_key_71 (hg _ _ h1)
def wp_X12_key_46 (x0 : Int32) (x1 : Int32) (x6 : Int32) (s0 : Int32) (S : xm_S) (g : Int32 → xm_S → Prop) : Prop :=
  (¬ x0 = (1 : Int32) → wp_X12_key_62 x6 s0 (0 : Int32) S g) ∧ (x0 = (1 : Int32) → wp_X12_key_62 x6 s0 (x1 * (nI 1331)) S g)
set_option maxRecDepth 100000 in
set_option maxHeartbeats 4000000 in
theorem kp_X12_key_46 {K : xm_K} (x0 : Int32) (x1 : Int32) (x6 : Int32) (s0 : Int32) (S : xm_S) {g : Int32 → xm_S → Prop} (C : xm_Cx K cX12_key RX12 8 (some (FieldType.int)) rm_X12_key) (N : xm_Nx K) (hg : ∀ v S, g v S → xm_q K (some (xm_i v)) S)  (h1 : wp_X12_key_46 x0 x1 x6 s0 S g) : xm_W K 0 0 46 [(0, xm_i x0), (1, xm_i x1), (6, xm_i x6)] [xm_i s0] S := by
  unfold wp_X12_key_46 at h1
  refine x_istore (L' := [(7, xm_i s0), (0, xm_i x0), (1, xm_i x1), (6, xm_i x6)]) C dX12_key_46 (by decide) rfl ?_
  refine x_iload_n C 1 dX12_key_48 rfl rfl ?_
  refine x_iconst (v := (1 : Int32)) C dX12_key_49 (by decide) ?_
  refine x_icmp_ne (tgt := 61) C dX12_key_50 (by decide) (fun z9 => ?_) (fun z9 => ?_)
  · have h1 := h1.1 z9
    refine x_iconst (v := (0 : Int32)) C dX12_key_61 (by decide) ?_
    refine x_keep (L' := [(6, xm_i x6), (7, xm_i s0)]) C [3, 0] rfl ?_
    exact kp_X12_key_62 x6 s0 (0 : Int32) S C N hg  h1
  · have h1 := h1.2 z9
    refine x_iload_n C 2 dX12_key_53 rfl rfl ?_
    refine x_sipush (v := (nI 1331)) C dX12_key_54 (by decide) ?_
    refine x_imul C dX12_key_57 ?_
    refine x_goto (tgt := 62) C dX12_key_58 (by decide) ?_
    refine x_keep (L' := [(6, xm_i x6), (7, xm_i s0)]) C [3, 0] rfl ?_
    exact kp_X12_key_62 x6 s0 (x1 * (nI 1331)) S C N hg  h1
def wp_X12_key_12 (x0 : Int32) (x1 : Int32) (x2 : Int32) (x3 : Int32) (x4 : Int32) (s0 : Int32) (S : xm_S) (g : Int32 → xm_S → Prop) : Prop :=
  (¬ x0 = (nI 2) → wp_X12_key_46 x0 x1 s0 ((((x2 * (nI 11)) + x3) * (nI 11)) + x4) S g) ∧ (x0 = (nI 2) → wp_X12_key_46 x0 x1 s0 ((((x4 * (nI 11)) + x2) * (nI 11)) + x3) S g)
set_option maxRecDepth 100000 in
set_option maxHeartbeats 4000000 in
theorem kp_X12_key_12 {K : xm_K} (x0 : Int32) (x1 : Int32) (x2 : Int32) (x3 : Int32) (x4 : Int32) (s0 : Int32) (S : xm_S) {g : Int32 → xm_S → Prop} (C : xm_Cx K cX12_key RX12 8 (some (FieldType.int)) rm_X12_key) (N : xm_Nx K) (hg : ∀ v S, g v S → xm_q K (some (xm_i v)) S)  (h1 : wp_X12_key_12 x0 x1 x2 x3 x4 s0 S g) : xm_W K 0 0 12 [(0, xm_i x0), (1, xm_i x1), (2, xm_i x2), (3, xm_i x3), (4, xm_i x4)] [xm_i s0] S := by
  unfold wp_X12_key_12 at h1
  refine x_istore (L' := [(6, xm_i s0), (0, xm_i x0), (1, xm_i x1), (2, xm_i x2), (3, xm_i x3), (4, xm_i x4)]) C dX12_key_12 (by decide) rfl ?_
  refine x_iload_n C 1 dX12_key_14 rfl rfl ?_
  refine x_iconst (v := (nI 2)) C dX12_key_15 (by decide) ?_
  refine x_icmp_ne (tgt := 34) C dX12_key_16 (by decide) (fun z9 => ?_) (fun z9 => ?_)
  · have h1 := h1.1 z9
    refine x_iload_n C 3 dX12_key_34 rfl rfl ?_
    refine x_bipush (v := (nI 11)) C dX12_key_35 (by decide) ?_
    refine x_imul C dX12_key_37 ?_
    refine x_iload_n C 4 dX12_key_38 rfl rfl ?_
    refine x_iadd C dX12_key_39 ?_
    refine x_bipush (v := (nI 11)) C dX12_key_40 (by decide) ?_
    refine x_imul C dX12_key_42 ?_
    refine x_iload C 5 dX12_key_43 rfl ?_
    refine x_iadd C dX12_key_45 ?_
    refine x_keep (L' := [(0, xm_i x0), (1, xm_i x1), (6, xm_i s0)]) C [1, 2, 0] rfl ?_
    exact kp_X12_key_46 x0 x1 s0 ((((x2 * (nI 11)) + x3) * (nI 11)) + x4) S C N hg  h1
  · have h1 := h1.2 z9
    refine x_iload C 5 dX12_key_19 rfl ?_
    refine x_bipush (v := (nI 11)) C dX12_key_21 (by decide) ?_
    refine x_imul C dX12_key_23 ?_
    refine x_iload_n C 3 dX12_key_24 rfl rfl ?_
    refine x_iadd C dX12_key_25 ?_
    refine x_bipush (v := (nI 11)) C dX12_key_26 (by decide) ?_
    refine x_imul C dX12_key_28 ?_
    refine x_iload_n C 4 dX12_key_29 rfl rfl ?_
    refine x_iadd C dX12_key_30 ?_
    refine x_goto (tgt := 46) C dX12_key_31 (by decide) ?_
    refine x_keep (L' := [(0, xm_i x0), (1, xm_i x1), (6, xm_i s0)]) C [1, 2, 0] rfl ?_
    exact kp_X12_key_46 x0 x1 s0 ((((x4 * (nI 11)) + x2) * (nI 11)) + x3) S C N hg  h1
def wp_X12_key (x0 : Int32) (x1 : Int32) (x2 : Int32) (x3 : Int32) (x4 : Int32) (x5 : Int32) (S : xm_S) (g : Int32 → xm_S → Prop) : Prop :=
  (¬ x5 = 0 → wp_X12_key_12 x0 x1 x2 x3 x4 x5 S g) ∧ (x5 = 0 → wp_X12_key_12 x0 x1 x2 x3 x4 (nI 10) S g)
set_option maxRecDepth 100000 in
set_option maxHeartbeats 4000000 in
theorem kp_X12_key {K : xm_K} (x0 : Int32) (x1 : Int32) (x2 : Int32) (x3 : Int32) (x4 : Int32) (x5 : Int32) (S : xm_S) {g : Int32 → xm_S → Prop} (C : xm_Cx K cX12_key RX12 8 (some (FieldType.int)) rm_X12_key) (N : xm_Nx K) (hg : ∀ v S, g v S → xm_q K (some (xm_i v)) S)  (h1 : wp_X12_key x0 x1 x2 x3 x4 x5 S g) : xm_W K 0 0 0 [(0, xm_i x0), (1, xm_i x1), (2, xm_i x2), (3, xm_i x3), (4, xm_i x4), (5, xm_i x5)] [] S := by
  unfold wp_X12_key at h1
  refine x_iload C 5 dX12_key_0 rfl ?_
  refine x_if_ne (tgt := 10) C dX12_key_2 (by decide) (fun z9 => ?_) (fun z9 => ?_)
  · have h1 := h1.1 z9
    refine x_iload C 5 dX12_key_10 rfl ?_
    refine x_keep (L' := [(0, xm_i x0), (1, xm_i x1), (2, xm_i x2), (3, xm_i x3), (4, xm_i x4)]) C [0, 1, 2, 3, 4] rfl ?_
    exact kp_X12_key_12 x0 x1 x2 x3 x4 x5 S C N hg  h1
  · have h1 := h1.2 z9
    refine x_bipush (v := (nI 10)) C dX12_key_5 (by decide) ?_
    refine x_goto (tgt := 12) C dX12_key_7 (by decide) ?_
    refine x_keep (L' := [(0, xm_i x0), (1, xm_i x1), (2, xm_i x2), (3, xm_i x3), (4, xm_i x4)]) C [0, 1, 2, 3, 4] rfl ?_
    exact kp_X12_key_12 x0 x1 x2 x3 x4 (nI 10) S C N hg  h1
theorem kp_X12_key_met {x0 : Int32} {x1 : Int32} {x2 : Int32} {x3 : Int32} {x4 : Int32} {x5 : Int32} {S : xm_S} {g : Int32 → xm_S → Prop}  (h1 : wp_X12_key x0 x1 x2 x3 x4 x5 S g) : xm_Met yX12_key cX12_key 8 (some (FieldType.int)) rm_X12_key [xm_i x0, xm_i x1, xm_i x2, xm_i x3, xm_i x4, xm_i x5] S (xm_qi g) xm_nox :=
  xm_ofW RX12 (by decide +kernel) rfl (Nat.le_of_ble_eq_true rfl) (fun K C N hq hx hi => kp_X12_key x0 x1 x2 x3 x4 x5 S C N (fun v S h => by rw [hq]; exact ⟨v, rfl, h⟩)  h1)
def rm_X12_keyOf : Room := { frames := 2, cells := 0, slots := 0, locals := 47 }
theorem dX12_keyOf_0 : decode cX12_keyOf 0 = .ok (.iload_n 0, 1) := by decide +kernel
theorem dX12_keyOf_1 : decode cX12_keyOf 1 = .ok (.iload_n 1, 1) := by decide +kernel
theorem dX12_keyOf_2 : decode cX12_keyOf 2 = .ok (.sipush 10000, 3) := by decide +kernel
theorem dX12_keyOf_5 : decode cX12_keyOf 5 = .ok (.idiv, 1) := by decide +kernel
theorem dX12_keyOf_6 : decode cX12_keyOf 6 = .ok (.iload_n 1, 1) := by decide +kernel
theorem dX12_keyOf_7 : decode cX12_keyOf 7 = .ok (.sipush 1000, 3) := by decide +kernel
theorem dX12_keyOf_10 : decode cX12_keyOf 10 = .ok (.idiv, 1) := by decide +kernel
theorem dX12_keyOf_11 : decode cX12_keyOf 11 = .ok (.bipush 10, 2) := by decide +kernel
theorem dX12_keyOf_13 : decode cX12_keyOf 13 = .ok (.irem, 1) := by decide +kernel
theorem dX12_keyOf_14 : decode cX12_keyOf 14 = .ok (.iload_n 1, 1) := by decide +kernel
theorem dX12_keyOf_15 : decode cX12_keyOf 15 = .ok (.bipush 100, 2) := by decide +kernel
theorem dX12_keyOf_17 : decode cX12_keyOf 17 = .ok (.idiv, 1) := by decide +kernel
theorem dX12_keyOf_18 : decode cX12_keyOf 18 = .ok (.bipush 10, 2) := by decide +kernel
theorem dX12_keyOf_20 : decode cX12_keyOf 20 = .ok (.irem, 1) := by decide +kernel
theorem dX12_keyOf_21 : decode cX12_keyOf 21 = .ok (.iload_n 1, 1) := by decide +kernel
theorem dX12_keyOf_22 : decode cX12_keyOf 22 = .ok (.bipush 10, 2) := by decide +kernel
theorem dX12_keyOf_24 : decode cX12_keyOf 24 = .ok (.idiv, 1) := by decide +kernel
theorem dX12_keyOf_25 : decode cX12_keyOf 25 = .ok (.bipush 10, 2) := by decide +kernel
theorem dX12_keyOf_27 : decode cX12_keyOf 27 = .ok (.irem, 1) := by decide +kernel
theorem dX12_keyOf_28 : decode cX12_keyOf 28 = .ok (.iload_n 1, 1) := by decide +kernel
theorem dX12_keyOf_29 : decode cX12_keyOf 29 = .ok (.bipush 10, 2) := by decide +kernel
theorem dX12_keyOf_31 : decode cX12_keyOf 31 = .ok (.irem, 1) := by decide +kernel
theorem dX12_keyOf_32 : decode cX12_keyOf 32 = .ok (.invokestatic 221, 3) := by decide +kernel
theorem dX12_keyOf_35 : decode cX12_keyOf 35 = .ok (.ireturn, 1) := by decide +kernel
def wp_X12_keyOf (x0 : Int32) (x1 : Int32) (S : xm_S) (g : Int32 → xm_S → Prop) : Prop :=
  wp_X12_key x0 (x1 / (nI 10000)) ((x1 / (nI 1000)) - (x1 / (nI 1000)) / (nI 10) * (nI 10)) ((x1 / (nI 100)) - (x1 / (nI 100)) / (nI 10) * (nI 10)) ((x1 / (nI 10)) - (x1 / (nI 10)) / (nI 10) * (nI 10)) (x1 - x1 / (nI 10) * (nI 10)) S (fun r2 S1 => g r2 S1)
set_option maxRecDepth 100000 in
set_option maxHeartbeats 4000000 in
theorem kp_X12_keyOf {K : xm_K} (x0 : Int32) (x1 : Int32) (S : xm_S) {g : Int32 → xm_S → Prop} (C : xm_Cx K cX12_keyOf RX12 2 (some (FieldType.int)) rm_X12_keyOf) (N : xm_Nx K) (hg : ∀ v S, g v S → xm_q K (some (xm_i v)) S)  (h1 : wp_X12_keyOf x0 x1 S g) : xm_W K 0 0 0 [(0, xm_i x0), (1, xm_i x1)] [] S := by
  unfold wp_X12_keyOf at h1
  refine x_iload_n C 0 dX12_keyOf_0 rfl rfl ?_
  refine x_iload_n C 1 dX12_keyOf_1 rfl rfl ?_
  refine x_sipush (v := (nI 10000)) C dX12_keyOf_2 (by decide) ?_
  refine x_idiv C dX12_keyOf_5 (by decide) ?_
  refine x_iload_n C 1 dX12_keyOf_6 rfl rfl ?_
  refine x_sipush (v := (nI 1000)) C dX12_keyOf_7 (by decide) ?_
  refine x_idiv C dX12_keyOf_10 (by decide) ?_
  refine x_bipush (v := (nI 10)) C dX12_keyOf_11 (by decide) ?_
  refine x_irem C dX12_keyOf_13 (by decide) ?_
  refine x_iload_n C 1 dX12_keyOf_14 rfl rfl ?_
  refine x_bipush (v := (nI 100)) C dX12_keyOf_15 (by decide) ?_
  refine x_idiv C dX12_keyOf_17 (by decide) ?_
  refine x_bipush (v := (nI 10)) C dX12_keyOf_18 (by decide) ?_
  refine x_irem C dX12_keyOf_20 (by decide) ?_
  refine x_iload_n C 1 dX12_keyOf_21 rfl rfl ?_
  refine x_bipush (v := (nI 10)) C dX12_keyOf_22 (by decide) ?_
  refine x_idiv C dX12_keyOf_24 (by decide) ?_
  refine x_bipush (v := (nI 10)) C dX12_keyOf_25 (by decide) ?_
  refine x_irem C dX12_keyOf_27 (by decide) ?_
  refine x_iload_n C 1 dX12_keyOf_28 rfl rfl ?_
  refine x_bipush (v := (nI 10)) C dX12_keyOf_29 (by decide) ?_
  refine x_irem C dX12_keyOf_31 (by decide) ?_
  refine x_callS (rm' := rm_X12_key) C (kp_X12_key_met h1) lk_99 gw_590 rfl (Nat.le_of_ble_eq_true rfl) ⟨Nat.le_of_ble_eq_true rfl, Nat.le_of_ble_eq_true rfl, (Nat.le_of_ble_eq_true rfl), (Nat.le_of_ble_eq_true rfl)⟩ dX12_keyOf_32 xm_kx (xm_ki (fun r2 S1 h1 => ?_))
  exact x_iret C (Nat.le_of_ble_eq_true rfl) (Nat.le_of_ble_eq_true rfl) rfl dX12_keyOf_35 (hg _ _ h1)
theorem kp_X12_keyOf_met {x0 : Int32} {x1 : Int32} {S : xm_S} {g : Int32 → xm_S → Prop}  (h1 : wp_X12_keyOf x0 x1 S g) : xm_Met yX12_keyOf cX12_keyOf 2 (some (FieldType.int)) rm_X12_keyOf [xm_i x0, xm_i x1] S (xm_qi g) xm_nox :=
  xm_ofW RX12 (by decide +kernel) rfl (Nat.le_of_ble_eq_true rfl) (fun K C N hq hx hi => kp_X12_keyOf x0 x1 S C N (fun v S h => by rw [hq]; exact ⟨v, rfl, h⟩)  h1)
def rm_X12_isTestOf : Room := { frames := 3, cells := 0, slots := 0, locals := 68 }
theorem dX12_isTestOf_0 : decode cX12_isTestOf 0 = .ok (.iload_n 1, 1) := by decide +kernel
theorem dX12_isTestOf_1 : decode cX12_isTestOf 1 = .ok (.iload_n 2, 1) := by decide +kernel
theorem dX12_isTestOf_2 : decode cX12_isTestOf 2 = .ok (.invokestatic 225, 3) := by decide +kernel
theorem dX12_isTestOf_5 : decode cX12_isTestOf 5 = .ok (.istore_n 3, 1) := by decide +kernel
theorem dX12_isTestOf_6 : decode cX12_isTestOf 6 = .ok (.iload_n 1, 1) := by decide +kernel
theorem dX12_isTestOf_7 : decode cX12_isTestOf 7 = .ok (.aload_n 0, 1) := by decide +kernel
theorem dX12_isTestOf_8 : decode cX12_isTestOf 8 = .ok (.getfield 166, 3) := by decide +kernel
theorem dX12_isTestOf_11 : decode cX12_isTestOf 11 = .ok (.iconst 0, 1) := by decide +kernel
theorem dX12_isTestOf_12 : decode cX12_isTestOf 12 = .ok (.iaload, 1) := by decide +kernel
theorem dX12_isTestOf_13 : decode cX12_isTestOf 13 = .ok (.aload_n 0, 1) := by decide +kernel
theorem dX12_isTestOf_14 : decode cX12_isTestOf 14 = .ok (.getfield 166, 3) := by decide +kernel
theorem dX12_isTestOf_17 : decode cX12_isTestOf 17 = .ok (.iconst 1, 1) := by decide +kernel
theorem dX12_isTestOf_18 : decode cX12_isTestOf 18 = .ok (.iaload, 1) := by decide +kernel
theorem dX12_isTestOf_19 : decode cX12_isTestOf 19 = .ok (.aload_n 0, 1) := by decide +kernel
theorem dX12_isTestOf_20 : decode cX12_isTestOf 20 = .ok (.getfield 166, 3) := by decide +kernel
theorem dX12_isTestOf_23 : decode cX12_isTestOf 23 = .ok (.iconst 2, 1) := by decide +kernel
theorem dX12_isTestOf_24 : decode cX12_isTestOf 24 = .ok (.iaload, 1) := by decide +kernel
theorem dX12_isTestOf_25 : decode cX12_isTestOf 25 = .ok (.aload_n 0, 1) := by decide +kernel
theorem dX12_isTestOf_26 : decode cX12_isTestOf 26 = .ok (.getfield 166, 3) := by decide +kernel
theorem dX12_isTestOf_29 : decode cX12_isTestOf 29 = .ok (.iconst 3, 1) := by decide +kernel
theorem dX12_isTestOf_30 : decode cX12_isTestOf 30 = .ok (.iaload, 1) := by decide +kernel
theorem dX12_isTestOf_31 : decode cX12_isTestOf 31 = .ok (.aload_n 0, 1) := by decide +kernel
theorem dX12_isTestOf_32 : decode cX12_isTestOf 32 = .ok (.getfield 166, 3) := by decide +kernel
theorem dX12_isTestOf_35 : decode cX12_isTestOf 35 = .ok (.iconst 4, 1) := by decide +kernel
theorem dX12_isTestOf_36 : decode cX12_isTestOf 36 = .ok (.iaload, 1) := by decide +kernel
theorem dX12_isTestOf_37 : decode cX12_isTestOf 37 = .ok (.invokestatic 221, 3) := by decide +kernel
theorem dX12_isTestOf_40 : decode cX12_isTestOf 40 = .ok (.istore 4, 2) := by decide +kernel
theorem dX12_isTestOf_42 : decode cX12_isTestOf 42 = .ok (.aload_n 0, 1) := by decide +kernel
theorem dX12_isTestOf_43 : decode cX12_isTestOf 43 = .ok (.getfield 208, 3) := by decide +kernel
theorem dX12_isTestOf_46 : decode cX12_isTestOf 46 = .ok (.iconst 5, 1) := by decide +kernel
theorem dX12_isTestOf_47 : decode cX12_isTestOf 47 = .ok (.if_icmp .ge 102, 3) := by decide +kernel
theorem dX12_isTestOf_50 : decode cX12_isTestOf 50 = .ok (.aload_n 0, 1) := by decide +kernel
theorem dX12_isTestOf_51 : decode cX12_isTestOf 51 = .ok (.getfield 208, 3) := by decide +kernel
theorem dX12_isTestOf_54 : decode cX12_isTestOf 54 = .ok (.ifCond .ne 17, 3) := by decide +kernel
theorem dX12_isTestOf_57 : decode cX12_isTestOf 57 = .ok (.iload_n 3, 1) := by decide +kernel
theorem dX12_isTestOf_58 : decode cX12_isTestOf 58 = .ok (.iload 4, 2) := by decide +kernel
theorem dX12_isTestOf_60 : decode cX12_isTestOf 60 = .ok (.if_icmp .ne 7, 3) := by decide +kernel
theorem dX12_isTestOf_63 : decode cX12_isTestOf 63 = .ok (.iconst 1, 1) := by decide +kernel
theorem dX12_isTestOf_64 : decode cX12_isTestOf 64 = .ok (.goto 84, 3) := by decide +kernel
theorem dX12_isTestOf_67 : decode cX12_isTestOf 67 = .ok (.iconst 0, 1) := by decide +kernel
theorem dX12_isTestOf_68 : decode cX12_isTestOf 68 = .ok (.goto 80, 3) := by decide +kernel
theorem dX12_isTestOf_71 : decode cX12_isTestOf 71 = .ok (.aload_n 0, 1) := by decide +kernel
theorem dX12_isTestOf_72 : decode cX12_isTestOf 72 = .ok (.getfield 208, 3) := by decide +kernel
theorem dX12_isTestOf_75 : decode cX12_isTestOf 75 = .ok (.iconst 1, 1) := by decide +kernel
theorem dX12_isTestOf_76 : decode cX12_isTestOf 76 = .ok (.if_icmp .ne 17, 3) := by decide +kernel
theorem dX12_isTestOf_79 : decode cX12_isTestOf 79 = .ok (.iload_n 3, 1) := by decide +kernel
theorem dX12_isTestOf_80 : decode cX12_isTestOf 80 = .ok (.iload 4, 2) := by decide +kernel
theorem dX12_isTestOf_82 : decode cX12_isTestOf 82 = .ok (.if_icmp .le 7, 3) := by decide +kernel
theorem dX12_isTestOf_85 : decode cX12_isTestOf 85 = .ok (.iconst 1, 1) := by decide +kernel
theorem dX12_isTestOf_86 : decode cX12_isTestOf 86 = .ok (.goto 62, 3) := by decide +kernel
theorem dX12_isTestOf_89 : decode cX12_isTestOf 89 = .ok (.iconst 0, 1) := by decide +kernel
theorem dX12_isTestOf_90 : decode cX12_isTestOf 90 = .ok (.goto 58, 3) := by decide +kernel
theorem dX12_isTestOf_93 : decode cX12_isTestOf 93 = .ok (.aload_n 0, 1) := by decide +kernel
theorem dX12_isTestOf_94 : decode cX12_isTestOf 94 = .ok (.getfield 208, 3) := by decide +kernel
theorem dX12_isTestOf_97 : decode cX12_isTestOf 97 = .ok (.iconst 2, 1) := by decide +kernel
theorem dX12_isTestOf_98 : decode cX12_isTestOf 98 = .ok (.if_icmp .ne 17, 3) := by decide +kernel
theorem dX12_isTestOf_101 : decode cX12_isTestOf 101 = .ok (.iload_n 3, 1) := by decide +kernel
theorem dX12_isTestOf_102 : decode cX12_isTestOf 102 = .ok (.iload 4, 2) := by decide +kernel
theorem dX12_isTestOf_104 : decode cX12_isTestOf 104 = .ok (.if_icmp .ge 7, 3) := by decide +kernel
theorem dX12_isTestOf_107 : decode cX12_isTestOf 107 = .ok (.iconst 1, 1) := by decide +kernel
theorem dX12_isTestOf_108 : decode cX12_isTestOf 108 = .ok (.goto 40, 3) := by decide +kernel
theorem dX12_isTestOf_111 : decode cX12_isTestOf 111 = .ok (.iconst 0, 1) := by decide +kernel
theorem dX12_isTestOf_112 : decode cX12_isTestOf 112 = .ok (.goto 36, 3) := by decide +kernel
theorem dX12_isTestOf_115 : decode cX12_isTestOf 115 = .ok (.aload_n 0, 1) := by decide +kernel
theorem dX12_isTestOf_116 : decode cX12_isTestOf 116 = .ok (.getfield 208, 3) := by decide +kernel
theorem dX12_isTestOf_119 : decode cX12_isTestOf 119 = .ok (.iconst 3, 1) := by decide +kernel
theorem dX12_isTestOf_120 : decode cX12_isTestOf 120 = .ok (.if_icmp .ne 17, 3) := by decide +kernel
theorem dX12_isTestOf_123 : decode cX12_isTestOf 123 = .ok (.iload_n 3, 1) := by decide +kernel
theorem dX12_isTestOf_124 : decode cX12_isTestOf 124 = .ok (.iload 4, 2) := by decide +kernel
theorem dX12_isTestOf_126 : decode cX12_isTestOf 126 = .ok (.if_icmp .lt 7, 3) := by decide +kernel
theorem dX12_isTestOf_129 : decode cX12_isTestOf 129 = .ok (.iconst 1, 1) := by decide +kernel
theorem dX12_isTestOf_130 : decode cX12_isTestOf 130 = .ok (.goto 18, 3) := by decide +kernel
theorem dX12_isTestOf_133 : decode cX12_isTestOf 133 = .ok (.iconst 0, 1) := by decide +kernel
theorem dX12_isTestOf_134 : decode cX12_isTestOf 134 = .ok (.goto 14, 3) := by decide +kernel
theorem dX12_isTestOf_137 : decode cX12_isTestOf 137 = .ok (.iload_n 3, 1) := by decide +kernel
theorem dX12_isTestOf_138 : decode cX12_isTestOf 138 = .ok (.iload 4, 2) := by decide +kernel
theorem dX12_isTestOf_140 : decode cX12_isTestOf 140 = .ok (.if_icmp .gt 7, 3) := by decide +kernel
theorem dX12_isTestOf_143 : decode cX12_isTestOf 143 = .ok (.iconst 1, 1) := by decide +kernel
theorem dX12_isTestOf_144 : decode cX12_isTestOf 144 = .ok (.goto 4, 3) := by decide +kernel
theorem dX12_isTestOf_147 : decode cX12_isTestOf 147 = .ok (.iconst 0, 1) := by decide +kernel
theorem dX12_isTestOf_148 : decode cX12_isTestOf 148 = .ok (.ireturn, 1) := by decide +kernel
theorem dX12_isTestOf_149 : decode cX12_isTestOf 149 = .ok (.aload_n 0, 1) := by decide +kernel
theorem dX12_isTestOf_150 : decode cX12_isTestOf 150 = .ok (.getfield 208, 3) := by decide +kernel
theorem dX12_isTestOf_153 : decode cX12_isTestOf 153 = .ok (.iconst 5, 1) := by decide +kernel
theorem dX12_isTestOf_154 : decode cX12_isTestOf 154 = .ok (.if_icmp .ne 20, 3) := by decide +kernel
theorem dX12_isTestOf_157 : decode cX12_isTestOf 157 = .ok (.aload_n 0, 1) := by decide +kernel
theorem dX12_isTestOf_158 : decode cX12_isTestOf 158 = .ok (.getfield 166, 3) := by decide +kernel
theorem dX12_isTestOf_161 : decode cX12_isTestOf 161 = .ok (.iconst 1, 1) := by decide +kernel
theorem dX12_isTestOf_162 : decode cX12_isTestOf 162 = .ok (.iaload, 1) := by decide +kernel
theorem dX12_isTestOf_163 : decode cX12_isTestOf 163 = .ok (.ifCond .le 7, 3) := by decide +kernel
theorem dX12_isTestOf_166 : decode cX12_isTestOf 166 = .ok (.iconst 1, 1) := by decide +kernel
theorem dX12_isTestOf_167 : decode cX12_isTestOf 167 = .ok (.goto 20, 3) := by decide +kernel
theorem dX12_isTestOf_170 : decode cX12_isTestOf 170 = .ok (.iconst 0, 1) := by decide +kernel
theorem dX12_isTestOf_171 : decode cX12_isTestOf 171 = .ok (.goto 16, 3) := by decide +kernel
theorem dX12_isTestOf_174 : decode cX12_isTestOf 174 = .ok (.aload_n 0, 1) := by decide +kernel
theorem dX12_isTestOf_175 : decode cX12_isTestOf 175 = .ok (.getfield 199, 3) := by decide +kernel
theorem dX12_isTestOf_178 : decode cX12_isTestOf 178 = .ok (.iconst 1, 1) := by decide +kernel
theorem dX12_isTestOf_179 : decode cX12_isTestOf 179 = .ok (.if_icmp .ne 7, 3) := by decide +kernel
theorem dX12_isTestOf_182 : decode cX12_isTestOf 182 = .ok (.iconst 1, 1) := by decide +kernel
theorem dX12_isTestOf_183 : decode cX12_isTestOf 183 = .ok (.goto 4, 3) := by decide +kernel
theorem dX12_isTestOf_186 : decode cX12_isTestOf 186 = .ok (.iconst 0, 1) := by decide +kernel
theorem dX12_isTestOf_187 : decode cX12_isTestOf 187 = .ok (.istore 5, 2) := by decide +kernel
theorem dX12_isTestOf_189 : decode cX12_isTestOf 189 = .ok (.iload 5, 2) := by decide +kernel
theorem dX12_isTestOf_191 : decode cX12_isTestOf 191 = .ok (.ifCond .ne 25, 3) := by decide +kernel
theorem dX12_isTestOf_194 : decode cX12_isTestOf 194 = .ok (.aload_n 0, 1) := by decide +kernel
theorem dX12_isTestOf_195 : decode cX12_isTestOf 195 = .ok (.getfield 208, 3) := by decide +kernel
theorem dX12_isTestOf_198 : decode cX12_isTestOf 198 = .ok (.bipush 6, 2) := by decide +kernel
theorem dX12_isTestOf_200 : decode cX12_isTestOf 200 = .ok (.if_icmp .eq 12, 3) := by decide +kernel
theorem dX12_isTestOf_203 : decode cX12_isTestOf 203 = .ok (.aload_n 0, 1) := by decide +kernel
theorem dX12_isTestOf_204 : decode cX12_isTestOf 204 = .ok (.getfield 166, 3) := by decide +kernel
theorem dX12_isTestOf_207 : decode cX12_isTestOf 207 = .ok (.iconst 2, 1) := by decide +kernel
theorem dX12_isTestOf_208 : decode cX12_isTestOf 208 = .ok (.iaload, 1) := by decide +kernel
theorem dX12_isTestOf_209 : decode cX12_isTestOf 209 = .ok (.ifCond .le 7, 3) := by decide +kernel
theorem dX12_isTestOf_212 : decode cX12_isTestOf 212 = .ok (.iconst 1, 1) := by decide +kernel
theorem dX12_isTestOf_213 : decode cX12_isTestOf 213 = .ok (.goto 4, 3) := by decide +kernel
theorem dX12_isTestOf_216 : decode cX12_isTestOf 216 = .ok (.iconst 0, 1) := by decide +kernel
theorem dX12_isTestOf_217 : decode cX12_isTestOf 217 = .ok (.istore 6, 2) := by decide +kernel
theorem dX12_isTestOf_219 : decode cX12_isTestOf 219 = .ok (.aload_n 0, 1) := by decide +kernel
theorem dX12_isTestOf_220 : decode cX12_isTestOf 220 = .ok (.getfield 166, 3) := by decide +kernel
theorem dX12_isTestOf_223 : decode cX12_isTestOf 223 = .ok (.iconst 1, 1) := by decide +kernel
theorem dX12_isTestOf_224 : decode cX12_isTestOf 224 = .ok (.iaload, 1) := by decide +kernel
theorem dX12_isTestOf_225 : decode cX12_isTestOf 225 = .ok (.iload 5, 2) := by decide +kernel
theorem dX12_isTestOf_227 : decode cX12_isTestOf 227 = .ok (.ifCond .eq 7, 3) := by decide +kernel
theorem dX12_isTestOf_230 : decode cX12_isTestOf 230 = .ok (.iconst 1, 1) := by decide +kernel
theorem dX12_isTestOf_231 : decode cX12_isTestOf 231 = .ok (.goto 4, 3) := by decide +kernel
theorem dX12_isTestOf_234 : decode cX12_isTestOf 234 = .ok (.iconst 0, 1) := by decide +kernel
theorem dX12_isTestOf_235 : decode cX12_isTestOf 235 = .ok (.iadd, 1) := by decide +kernel
theorem dX12_isTestOf_236 : decode cX12_isTestOf 236 = .ok (.istore 7, 2) := by decide +kernel
theorem dX12_isTestOf_238 : decode cX12_isTestOf 238 = .ok (.iload 5, 2) := by decide +kernel
theorem dX12_isTestOf_240 : decode cX12_isTestOf 240 = .ok (.ifCond .eq 7, 3) := by decide +kernel
theorem dX12_isTestOf_243 : decode cX12_isTestOf 243 = .ok (.iconst 0, 1) := by decide +kernel
theorem dX12_isTestOf_244 : decode cX12_isTestOf 244 = .ok (.goto 20, 3) := by decide +kernel
theorem dX12_isTestOf_247 : decode cX12_isTestOf 247 = .ok (.aload_n 0, 1) := by decide +kernel
theorem dX12_isTestOf_248 : decode cX12_isTestOf 248 = .ok (.getfield 166, 3) := by decide +kernel
theorem dX12_isTestOf_251 : decode cX12_isTestOf 251 = .ok (.iconst 2, 1) := by decide +kernel
theorem dX12_isTestOf_252 : decode cX12_isTestOf 252 = .ok (.iaload, 1) := by decide +kernel
theorem dX12_isTestOf_253 : decode cX12_isTestOf 253 = .ok (.iload 6, 2) := by decide +kernel
theorem dX12_isTestOf_255 : decode cX12_isTestOf 255 = .ok (.ifCond .eq 7, 3) := by decide +kernel
theorem dX12_isTestOf_258 : decode cX12_isTestOf 258 = .ok (.iconst 1, 1) := by decide +kernel
theorem dX12_isTestOf_259 : decode cX12_isTestOf 259 = .ok (.goto 4, 3) := by decide +kernel
theorem dX12_isTestOf_262 : decode cX12_isTestOf 262 = .ok (.iconst 0, 1) := by decide +kernel
theorem dX12_isTestOf_263 : decode cX12_isTestOf 263 = .ok (.iadd, 1) := by decide +kernel
theorem dX12_isTestOf_264 : decode cX12_isTestOf 264 = .ok (.istore 8, 2) := by decide +kernel
theorem dX12_isTestOf_266 : decode cX12_isTestOf 266 = .ok (.iload 5, 2) := by decide +kernel
theorem dX12_isTestOf_268 : decode cX12_isTestOf 268 = .ok (.ifCond .ne 8, 3) := by decide +kernel
theorem dX12_isTestOf_271 : decode cX12_isTestOf 271 = .ok (.iload 6, 2) := by decide +kernel
theorem dX12_isTestOf_273 : decode cX12_isTestOf 273 = .ok (.ifCond .eq 7, 3) := by decide +kernel
theorem dX12_isTestOf_276 : decode cX12_isTestOf 276 = .ok (.iconst 0, 1) := by decide +kernel
theorem dX12_isTestOf_277 : decode cX12_isTestOf 277 = .ok (.goto 11, 3) := by decide +kernel
theorem dX12_isTestOf_280 : decode cX12_isTestOf 280 = .ok (.aload_n 0, 1) := by decide +kernel
theorem dX12_isTestOf_281 : decode cX12_isTestOf 281 = .ok (.getfield 166, 3) := by decide +kernel
theorem dX12_isTestOf_284 : decode cX12_isTestOf 284 = .ok (.iconst 3, 1) := by decide +kernel
theorem dX12_isTestOf_285 : decode cX12_isTestOf 285 = .ok (.iaload, 1) := by decide +kernel
theorem dX12_isTestOf_286 : decode cX12_isTestOf 286 = .ok (.iconst 1, 1) := by decide +kernel
theorem dX12_isTestOf_287 : decode cX12_isTestOf 287 = .ok (.iadd, 1) := by decide +kernel
theorem dX12_isTestOf_288 : decode cX12_isTestOf 288 = .ok (.istore 9, 2) := by decide +kernel
theorem dX12_isTestOf_290 : decode cX12_isTestOf 290 = .ok (.iload_n 3, 1) := by decide +kernel
theorem dX12_isTestOf_291 : decode cX12_isTestOf 291 = .ok (.iload 4, 2) := by decide +kernel
theorem dX12_isTestOf_293 : decode cX12_isTestOf 293 = .ok (.if_icmp .lt 28, 3) := by decide +kernel
theorem dX12_isTestOf_296 : decode cX12_isTestOf 296 = .ok (.iload_n 3, 1) := by decide +kernel
theorem dX12_isTestOf_297 : decode cX12_isTestOf 297 = .ok (.iload_n 1, 1) := by decide +kernel
theorem dX12_isTestOf_298 : decode cX12_isTestOf 298 = .ok (.aload_n 0, 1) := by decide +kernel
theorem dX12_isTestOf_299 : decode cX12_isTestOf 299 = .ok (.getfield 166, 3) := by decide +kernel
theorem dX12_isTestOf_302 : decode cX12_isTestOf 302 = .ok (.iconst 0, 1) := by decide +kernel
theorem dX12_isTestOf_303 : decode cX12_isTestOf 303 = .ok (.iaload, 1) := by decide +kernel
theorem dX12_isTestOf_304 : decode cX12_isTestOf 304 = .ok (.iload 7, 2) := by decide +kernel
theorem dX12_isTestOf_306 : decode cX12_isTestOf 306 = .ok (.iload 8, 2) := by decide +kernel
theorem dX12_isTestOf_308 : decode cX12_isTestOf 308 = .ok (.iload 9, 2) := by decide +kernel
theorem dX12_isTestOf_310 : decode cX12_isTestOf 310 = .ok (.iconst 0, 1) := by decide +kernel
theorem dX12_isTestOf_311 : decode cX12_isTestOf 311 = .ok (.invokestatic 221, 3) := by decide +kernel
theorem dX12_isTestOf_314 : decode cX12_isTestOf 314 = .ok (.if_icmp .ge 7, 3) := by decide +kernel
theorem dX12_isTestOf_317 : decode cX12_isTestOf 317 = .ok (.iconst 1, 1) := by decide +kernel
theorem dX12_isTestOf_318 : decode cX12_isTestOf 318 = .ok (.goto 4, 3) := by decide +kernel
theorem dX12_isTestOf_321 : decode cX12_isTestOf 321 = .ok (.iconst 0, 1) := by decide +kernel
theorem dX12_isTestOf_322 : decode cX12_isTestOf 322 = .ok (.ireturn, 1) := by decide +kernel
def wp_X12_isTestOf_148 (h : Nat) (s0 : Int32) (S : xm_S) (g : Int32 → xm_S → Prop) : Prop :=
  (s0 = 0 ∨ s0 = 1) ∧ g s0 S
set_option maxRecDepth 100000 in
set_option maxHeartbeats 4000000 in
theorem kp_X12_isTestOf_148 {K : xm_K} (h : Nat) (s0 : Int32) (S : xm_S) {g : Int32 → xm_S → Prop} (C : xm_Cx K cX12_isTestOf RX12 10 (some (FieldType.boolean)) rm_X12_isTestOf) (N : xm_Nx K) (hg : ∀ v S, g v S → xm_q K (some (xm_i v)) S)  (h1 : wp_X12_isTestOf_148 h s0 S g) : xm_W K 0 0 148 [] [xm_i s0] S := by
  unfold wp_X12_isTestOf_148 at h1
  exact x_zret C (Nat.le_of_ble_eq_true rfl) (Nat.le_of_ble_eq_true rfl) rfl h1.1 dX12_isTestOf_148 (hg _ _ h1.2)
def wp_X12_isTestOf_322 (h : Nat) (s0 : Int32) (S : xm_S) (g : Int32 → xm_S → Prop) : Prop :=
  (s0 = 0 ∨ s0 = 1) ∧ g s0 S
set_option maxRecDepth 100000 in
set_option maxHeartbeats 4000000 in
theorem kp_X12_isTestOf_322 {K : xm_K} (h : Nat) (s0 : Int32) (S : xm_S) {g : Int32 → xm_S → Prop} (C : xm_Cx K cX12_isTestOf RX12 10 (some (FieldType.boolean)) rm_X12_isTestOf) (N : xm_Nx K) (hg : ∀ v S, g v S → xm_q K (some (xm_i v)) S)  (h1 : wp_X12_isTestOf_322 h s0 S g) : xm_W K 0 0 322 [] [xm_i s0] S := by
  unfold wp_X12_isTestOf_322 at h1
  exact x_zret C (Nat.le_of_ble_eq_true rfl) (Nat.le_of_ble_eq_true rfl) rfl h1.1 dX12_isTestOf_322 (hg _ _ h1.2)
def wp_X12_isTestOf_321 (h : Nat)  (S : xm_S) (g : Int32 → xm_S → Prop) : Prop :=
  wp_X12_isTestOf_322 h (0 : Int32) S g
set_option maxRecDepth 100000 in
set_option maxHeartbeats 4000000 in
theorem kp_X12_isTestOf_321 {K : xm_K} (h : Nat)  (S : xm_S) {g : Int32 → xm_S → Prop} (C : xm_Cx K cX12_isTestOf RX12 10 (some (FieldType.boolean)) rm_X12_isTestOf) (N : xm_Nx K) (hg : ∀ v S, g v S → xm_q K (some (xm_i v)) S)  (h1 : wp_X12_isTestOf_321 h  S g) : xm_W K 0 0 321 [] [] S := by
  unfold wp_X12_isTestOf_321 at h1
  refine x_iconst (v := (0 : Int32)) C dX12_isTestOf_321 (by decide) ?_
  exact kp_X12_isTestOf_322 h (0 : Int32) S C N hg  h1
def wp_X12_isTestOf_288 (h : Nat) (x1 : Int32) (x3 : Int32) (x4 : Int32) (x7 : Int32) (x8 : Int32) (s0 : Int32) (S : xm_S) (g : Int32 → xm_S → Prop) : Prop :=
  (x3 < x4 → wp_X12_isTestOf_321 h S g) ∧ (¬ x3 < x4 → st_t S h = some (12, 0) ∧ ∃ n2, (st_r S h 63) = some n2 ∧ ∃ z5, st_t S n2 = some (100, z5) ∧ vp_in (0 : Int32) z5 ∧ wp_X12_key x1 (st_i S n2 ((0 : Int32)).toNatClampNeg) x7 x8 s0 (0 : Int32) S (fun r8 S7 => (r8 ≤ x3 → wp_X12_isTestOf_321 h S7 g) ∧ (¬ r8 ≤ x3 → wp_X12_isTestOf_322 h (1 : Int32) S7 g)))
set_option maxRecDepth 100000 in
set_option maxHeartbeats 4000000 in
theorem kp_X12_isTestOf_288 {K : xm_K} (h : Nat) (x1 : Int32) (x3 : Int32) (x4 : Int32) (x7 : Int32) (x8 : Int32) (s0 : Int32) (S : xm_S) {g : Int32 → xm_S → Prop} (C : xm_Cx K cX12_isTestOf RX12 10 (some (FieldType.boolean)) rm_X12_isTestOf) (N : xm_Nx K) (hg : ∀ v S, g v S → xm_q K (some (xm_i v)) S)  (h1 : wp_X12_isTestOf_288 h x1 x3 x4 x7 x8 s0 S g) : xm_W K 0 0 288 [(0, xm_r (some h)), (1, xm_i x1), (3, xm_i x3), (4, xm_i x4), (7, xm_i x7), (8, xm_i x8)] [xm_i s0] S := by
  unfold wp_X12_isTestOf_288 at h1
  refine x_istore (L' := [(9, xm_i s0), (0, xm_r (some h)), (1, xm_i x1), (3, xm_i x3), (4, xm_i x4), (7, xm_i x7), (8, xm_i x8)]) C dX12_isTestOf_288 (by decide) rfl ?_
  refine x_iload_n C 3 dX12_isTestOf_290 rfl rfl ?_
  refine x_iload C 4 dX12_isTestOf_291 rfl ?_
  refine x_icmp_lt (tgt := 321) C dX12_isTestOf_293 (by decide) (fun z9 => ?_) (fun z9 => ?_)
  · have h1 := h1.1 z9
    refine x_keep (L' := []) C [] rfl ?_
    exact kp_X12_isTestOf_321 h S C N hg  h1
  · have h1 := h1.2 z9
    refine x_iload_n C 3 dX12_isTestOf_296 rfl rfl ?_
    refine x_iload_n C 2 dX12_isTestOf_297 rfl rfl ?_
    refine x_aload_n C 1 dX12_isTestOf_298 rfl rfl ?_
    obtain ⟨ht1, h1⟩ := h1
    refine x_getf_r (n := h) C rfl ht1 fd_162 (by decide) dX12_isTestOf_299 ?_
    refine x_iconst (v := (0 : Int32)) C dX12_isTestOf_302 (by decide) ?_
    obtain ⟨n2, hr3, h1⟩ := h1
    obtain ⟨z5, ht4, h1⟩ := h1
    obtain ⟨hi6, h1⟩ := h1
    refine x_iald (n := n2) C hr3 ht4 hi6 dX12_isTestOf_303 ?_
    refine x_iload C 5 dX12_isTestOf_304 rfl ?_
    refine x_iload C 6 dX12_isTestOf_306 rfl ?_
    refine x_iload C 0 dX12_isTestOf_308 rfl ?_
    refine x_iconst (v := (0 : Int32)) C dX12_isTestOf_310 (by decide) ?_
    refine x_callS (rm' := rm_X12_key) C (kp_X12_key_met h1) lk_99 gw_590 rfl (Nat.le_of_ble_eq_true rfl) ⟨Nat.le_of_ble_eq_true rfl, Nat.le_of_ble_eq_true rfl, (Nat.le_of_ble_eq_true rfl), (Nat.le_of_ble_eq_true rfl)⟩ dX12_isTestOf_311 xm_kx (xm_ki (fun r8 S7 h1 => ?_))
    refine x_icmp_ge (tgt := 321) C dX12_isTestOf_314 (by decide) (fun z9 => ?_) (fun z9 => ?_)
    · have h1 := h1.1 z9
      refine x_keep (L' := []) C [] rfl ?_
      exact kp_X12_isTestOf_321 h S7 C N hg  h1
    · have h1 := h1.2 z9
      refine x_iconst (v := (1 : Int32)) C dX12_isTestOf_317 (by decide) ?_
      refine x_goto (tgt := 322) C dX12_isTestOf_318 (by decide) ?_
      refine x_keep (L' := []) C [] rfl ?_
      exact kp_X12_isTestOf_322 h (1 : Int32) S7 C N hg  h1
def wp_X12_isTestOf_276 (h : Nat) (x1 : Int32) (x3 : Int32) (x4 : Int32) (x7 : Int32) (x8 : Int32) (S : xm_S) (g : Int32 → xm_S → Prop) : Prop :=
  wp_X12_isTestOf_288 h x1 x3 x4 x7 x8 (0 : Int32) S g
set_option maxRecDepth 100000 in
set_option maxHeartbeats 4000000 in
theorem kp_X12_isTestOf_276 {K : xm_K} (h : Nat) (x1 : Int32) (x3 : Int32) (x4 : Int32) (x7 : Int32) (x8 : Int32) (S : xm_S) {g : Int32 → xm_S → Prop} (C : xm_Cx K cX12_isTestOf RX12 10 (some (FieldType.boolean)) rm_X12_isTestOf) (N : xm_Nx K) (hg : ∀ v S, g v S → xm_q K (some (xm_i v)) S)  (h1 : wp_X12_isTestOf_276 h x1 x3 x4 x7 x8 S g) : xm_W K 0 0 276 [(0, xm_r (some h)), (1, xm_i x1), (3, xm_i x3), (4, xm_i x4), (7, xm_i x7), (8, xm_i x8)] [] S := by
  unfold wp_X12_isTestOf_276 at h1
  refine x_iconst (v := (0 : Int32)) C dX12_isTestOf_276 (by decide) ?_
  refine x_goto (tgt := 288) C dX12_isTestOf_277 (by decide) ?_
  exact kp_X12_isTestOf_288 h x1 x3 x4 x7 x8 (0 : Int32) S C N hg  h1
def wp_X12_isTestOf_264 (h : Nat) (x1 : Int32) (x3 : Int32) (x4 : Int32) (x5 : Int32) (x6 : Int32) (x7 : Int32) (s0 : Int32) (S : xm_S) (g : Int32 → xm_S → Prop) : Prop :=
  (¬ x5 = 0 → wp_X12_isTestOf_276 h x1 x3 x4 x7 s0 S g) ∧ (x5 = 0 → (x6 = 0 → st_t S h = some (12, 0) ∧ ∃ n10, (st_r S h 63) = some n10 ∧ ∃ z13, st_t S n10 = some (100, z13) ∧ vp_in (nI 3) z13 ∧ wp_X12_isTestOf_288 h x1 x3 x4 x7 s0 ((st_i S n10 ((nI 3)).toNatClampNeg) + (1 : Int32)) S g) ∧ (¬ x6 = 0 → wp_X12_isTestOf_276 h x1 x3 x4 x7 s0 S g))
set_option maxRecDepth 100000 in
set_option maxHeartbeats 4000000 in
theorem kp_X12_isTestOf_264 {K : xm_K} (h : Nat) (x1 : Int32) (x3 : Int32) (x4 : Int32) (x5 : Int32) (x6 : Int32) (x7 : Int32) (s0 : Int32) (S : xm_S) {g : Int32 → xm_S → Prop} (C : xm_Cx K cX12_isTestOf RX12 10 (some (FieldType.boolean)) rm_X12_isTestOf) (N : xm_Nx K) (hg : ∀ v S, g v S → xm_q K (some (xm_i v)) S)  (h1 : wp_X12_isTestOf_264 h x1 x3 x4 x5 x6 x7 s0 S g) : xm_W K 0 0 264 [(0, xm_r (some h)), (1, xm_i x1), (3, xm_i x3), (4, xm_i x4), (5, xm_i x5), (6, xm_i x6), (7, xm_i x7)] [xm_i s0] S := by
  unfold wp_X12_isTestOf_264 at h1
  refine x_istore (L' := [(8, xm_i s0), (0, xm_r (some h)), (1, xm_i x1), (3, xm_i x3), (4, xm_i x4), (5, xm_i x5), (6, xm_i x6), (7, xm_i x7)]) C dX12_isTestOf_264 (by decide) rfl ?_
  refine x_iload C 5 dX12_isTestOf_266 rfl ?_
  refine x_if_ne (tgt := 276) C dX12_isTestOf_268 (by decide) (fun z9 => ?_) (fun z9 => ?_)
  · have h1 := h1.1 z9
    refine x_keep (L' := [(0, xm_r (some h)), (1, xm_i x1), (3, xm_i x3), (4, xm_i x4), (7, xm_i x7), (8, xm_i s0)]) C [1, 2, 3, 4, 7, 0] rfl ?_
    exact kp_X12_isTestOf_276 h x1 x3 x4 x7 s0 S C N hg  h1
  · have h1 := h1.2 z9
    refine x_iload C 6 dX12_isTestOf_271 rfl ?_
    refine x_if_eq (tgt := 280) C dX12_isTestOf_273 (by decide) (fun z9 => ?_) (fun z9 => ?_)
    · have h1 := h1.1 z9
      refine x_aload_n C 1 dX12_isTestOf_280 rfl rfl ?_
      obtain ⟨ht9, h1⟩ := h1
      refine x_getf_r (n := h) C rfl ht9 fd_162 (by decide) dX12_isTestOf_281 ?_
      refine x_iconst (v := (nI 3)) C dX12_isTestOf_284 (by decide) ?_
      obtain ⟨n10, hr11, h1⟩ := h1
      obtain ⟨z13, ht12, h1⟩ := h1
      obtain ⟨hi14, h1⟩ := h1
      refine x_iald (n := n10) C hr11 ht12 hi14 dX12_isTestOf_285 ?_
      refine x_iconst (v := (1 : Int32)) C dX12_isTestOf_286 (by decide) ?_
      refine x_iadd C dX12_isTestOf_287 ?_
      refine x_keep (L' := [(0, xm_r (some h)), (1, xm_i x1), (3, xm_i x3), (4, xm_i x4), (7, xm_i x7), (8, xm_i s0)]) C [1, 2, 3, 4, 7, 0] rfl ?_
      exact kp_X12_isTestOf_288 h x1 x3 x4 x7 s0 ((st_i S n10 ((nI 3)).toNatClampNeg) + (1 : Int32)) S C N hg  h1
    · have h1 := h1.2 z9
      refine x_keep (L' := [(0, xm_r (some h)), (1, xm_i x1), (3, xm_i x3), (4, xm_i x4), (7, xm_i x7), (8, xm_i s0)]) C [1, 2, 3, 4, 7, 0] rfl ?_
      exact kp_X12_isTestOf_276 h x1 x3 x4 x7 s0 S C N hg  h1
def wp_X12_isTestOf_263 (h : Nat) (x1 : Int32) (x3 : Int32) (x4 : Int32) (x5 : Int32) (x6 : Int32) (x7 : Int32) (s0 : Int32) (s1 : Int32) (S : xm_S) (g : Int32 → xm_S → Prop) : Prop :=
  wp_X12_isTestOf_264 h x1 x3 x4 x5 x6 x7 (s1 + s0) S g
set_option maxRecDepth 100000 in
set_option maxHeartbeats 4000000 in
theorem kp_X12_isTestOf_263 {K : xm_K} (h : Nat) (x1 : Int32) (x3 : Int32) (x4 : Int32) (x5 : Int32) (x6 : Int32) (x7 : Int32) (s0 : Int32) (s1 : Int32) (S : xm_S) {g : Int32 → xm_S → Prop} (C : xm_Cx K cX12_isTestOf RX12 10 (some (FieldType.boolean)) rm_X12_isTestOf) (N : xm_Nx K) (hg : ∀ v S, g v S → xm_q K (some (xm_i v)) S)  (h1 : wp_X12_isTestOf_263 h x1 x3 x4 x5 x6 x7 s0 s1 S g) : xm_W K 0 0 263 [(0, xm_r (some h)), (1, xm_i x1), (3, xm_i x3), (4, xm_i x4), (5, xm_i x5), (6, xm_i x6), (7, xm_i x7)] [xm_i s0, xm_i s1] S := by
  unfold wp_X12_isTestOf_263 at h1
  refine x_iadd C dX12_isTestOf_263 ?_
  exact kp_X12_isTestOf_264 h x1 x3 x4 x5 x6 x7 (s1 + s0) S C N hg  h1
def wp_X12_isTestOf_235 (h : Nat) (x1 : Int32) (x3 : Int32) (x4 : Int32) (x5 : Int32) (x6 : Int32) (s0 : Int32) (s1 : Int32) (S : xm_S) (g : Int32 → xm_S → Prop) : Prop :=
  ∀ y15, y15 = (s1 + s0) → (x5 = 0 → st_t S h = some (12, 0) ∧ ∃ n18, (st_r S h 63) = some n18 ∧ ∃ z21, st_t S n18 = some (100, z21) ∧ vp_in (nI 2) z21 ∧ (x6 = 0 → wp_X12_isTestOf_263 h x1 x3 x4 x5 x6 y15 (0 : Int32) (st_i S n18 ((nI 2)).toNatClampNeg) S g) ∧ (¬ x6 = 0 → wp_X12_isTestOf_263 h x1 x3 x4 x5 x6 y15 (1 : Int32) (st_i S n18 ((nI 2)).toNatClampNeg) S g)) ∧ (¬ x5 = 0 → wp_X12_isTestOf_264 h x1 x3 x4 x5 x6 y15 (0 : Int32) S g)
set_option maxRecDepth 100000 in
set_option maxHeartbeats 4000000 in
theorem kp_X12_isTestOf_235 {K : xm_K} (h : Nat) (x1 : Int32) (x3 : Int32) (x4 : Int32) (x5 : Int32) (x6 : Int32) (s0 : Int32) (s1 : Int32) (S : xm_S) {g : Int32 → xm_S → Prop} (C : xm_Cx K cX12_isTestOf RX12 10 (some (FieldType.boolean)) rm_X12_isTestOf) (N : xm_Nx K) (hg : ∀ v S, g v S → xm_q K (some (xm_i v)) S)  (h1 : wp_X12_isTestOf_235 h x1 x3 x4 x5 x6 s0 s1 S g) : xm_W K 0 0 235 [(0, xm_r (some h)), (1, xm_i x1), (3, xm_i x3), (4, xm_i x4), (5, xm_i x5), (6, xm_i x6)] [xm_i s0, xm_i s1] S := by
  unfold wp_X12_isTestOf_235 at h1
  refine x_iadd C dX12_isTestOf_235 ?_
  refine x_topi (fun y15 e16 => ?_)
  have h1 := h1 y15 e16
  refine x_istore (L' := [(7, xm_i y15), (0, xm_r (some h)), (1, xm_i x1), (3, xm_i x3), (4, xm_i x4), (5, xm_i x5), (6, xm_i x6)]) C dX12_isTestOf_236 (by decide) rfl ?_
  refine x_iload C 5 dX12_isTestOf_238 rfl ?_
  refine x_if_eq (tgt := 247) C dX12_isTestOf_240 (by decide) (fun z9 => ?_) (fun z9 => ?_)
  · have h1 := h1.1 z9
    refine x_aload_n C 1 dX12_isTestOf_247 rfl rfl ?_
    obtain ⟨ht17, h1⟩ := h1
    refine x_getf_r (n := h) C rfl ht17 fd_162 (by decide) dX12_isTestOf_248 ?_
    refine x_iconst (v := (nI 2)) C dX12_isTestOf_251 (by decide) ?_
    obtain ⟨n18, hr19, h1⟩ := h1
    obtain ⟨z21, ht20, h1⟩ := h1
    obtain ⟨hi22, h1⟩ := h1
    refine x_iald (n := n18) C hr19 ht20 hi22 dX12_isTestOf_252 ?_
    refine x_iload C 6 dX12_isTestOf_253 rfl ?_
    refine x_if_eq (tgt := 262) C dX12_isTestOf_255 (by decide) (fun z9 => ?_) (fun z9 => ?_)
    · have h1 := h1.1 z9
      refine x_iconst (v := (0 : Int32)) C dX12_isTestOf_262 (by decide) ?_
      refine x_keep (L' := [(0, xm_r (some h)), (1, xm_i x1), (3, xm_i x3), (4, xm_i x4), (5, xm_i x5), (6, xm_i x6), (7, xm_i y15)]) C [1, 2, 3, 4, 5, 6, 0] rfl ?_
      exact kp_X12_isTestOf_263 h x1 x3 x4 x5 x6 y15 (0 : Int32) (st_i S n18 ((nI 2)).toNatClampNeg) S C N hg  h1
    · have h1 := h1.2 z9
      refine x_iconst (v := (1 : Int32)) C dX12_isTestOf_258 (by decide) ?_
      refine x_goto (tgt := 263) C dX12_isTestOf_259 (by decide) ?_
      refine x_keep (L' := [(0, xm_r (some h)), (1, xm_i x1), (3, xm_i x3), (4, xm_i x4), (5, xm_i x5), (6, xm_i x6), (7, xm_i y15)]) C [1, 2, 3, 4, 5, 6, 0] rfl ?_
      exact kp_X12_isTestOf_263 h x1 x3 x4 x5 x6 y15 (1 : Int32) (st_i S n18 ((nI 2)).toNatClampNeg) S C N hg  h1
  · have h1 := h1.2 z9
    refine x_iconst (v := (0 : Int32)) C dX12_isTestOf_243 (by decide) ?_
    refine x_goto (tgt := 264) C dX12_isTestOf_244 (by decide) ?_
    refine x_keep (L' := [(0, xm_r (some h)), (1, xm_i x1), (3, xm_i x3), (4, xm_i x4), (5, xm_i x5), (6, xm_i x6), (7, xm_i y15)]) C [1, 2, 3, 4, 5, 6, 0] rfl ?_
    exact kp_X12_isTestOf_264 h x1 x3 x4 x5 x6 y15 (0 : Int32) S C N hg  h1
def wp_X12_isTestOf_217 (h : Nat) (x1 : Int32) (x3 : Int32) (x4 : Int32) (x5 : Int32) (s0 : Int32) (S : xm_S) (g : Int32 → xm_S → Prop) : Prop :=
  st_t S h = some (12, 0) ∧ ∃ n24, (st_r S h 63) = some n24 ∧ ∃ z27, st_t S n24 = some (100, z27) ∧ vp_in (1 : Int32) z27 ∧ (x5 = 0 → wp_X12_isTestOf_235 h x1 x3 x4 x5 s0 (0 : Int32) (st_i S n24 ((1 : Int32)).toNatClampNeg) S g) ∧ (¬ x5 = 0 → wp_X12_isTestOf_235 h x1 x3 x4 x5 s0 (1 : Int32) (st_i S n24 ((1 : Int32)).toNatClampNeg) S g)
set_option maxRecDepth 100000 in
set_option maxHeartbeats 4000000 in
theorem kp_X12_isTestOf_217 {K : xm_K} (h : Nat) (x1 : Int32) (x3 : Int32) (x4 : Int32) (x5 : Int32) (s0 : Int32) (S : xm_S) {g : Int32 → xm_S → Prop} (C : xm_Cx K cX12_isTestOf RX12 10 (some (FieldType.boolean)) rm_X12_isTestOf) (N : xm_Nx K) (hg : ∀ v S, g v S → xm_q K (some (xm_i v)) S)  (h1 : wp_X12_isTestOf_217 h x1 x3 x4 x5 s0 S g) : xm_W K 0 0 217 [(0, xm_r (some h)), (1, xm_i x1), (3, xm_i x3), (4, xm_i x4), (5, xm_i x5)] [xm_i s0] S := by
  unfold wp_X12_isTestOf_217 at h1
  refine x_istore (L' := [(6, xm_i s0), (0, xm_r (some h)), (1, xm_i x1), (3, xm_i x3), (4, xm_i x4), (5, xm_i x5)]) C dX12_isTestOf_217 (by decide) rfl ?_
  refine x_aload_n C 1 dX12_isTestOf_219 rfl rfl ?_
  obtain ⟨ht23, h1⟩ := h1
  refine x_getf_r (n := h) C rfl ht23 fd_162 (by decide) dX12_isTestOf_220 ?_
  refine x_iconst (v := (1 : Int32)) C dX12_isTestOf_223 (by decide) ?_
  obtain ⟨n24, hr25, h1⟩ := h1
  obtain ⟨z27, ht26, h1⟩ := h1
  obtain ⟨hi28, h1⟩ := h1
  refine x_iald (n := n24) C hr25 ht26 hi28 dX12_isTestOf_224 ?_
  refine x_iload C 5 dX12_isTestOf_225 rfl ?_
  refine x_if_eq (tgt := 234) C dX12_isTestOf_227 (by decide) (fun z9 => ?_) (fun z9 => ?_)
  · have h1 := h1.1 z9
    refine x_iconst (v := (0 : Int32)) C dX12_isTestOf_234 (by decide) ?_
    refine x_keep (L' := [(0, xm_r (some h)), (1, xm_i x1), (3, xm_i x3), (4, xm_i x4), (5, xm_i x5), (6, xm_i s0)]) C [1, 2, 3, 4, 5, 0] rfl ?_
    exact kp_X12_isTestOf_235 h x1 x3 x4 x5 s0 (0 : Int32) (st_i S n24 ((1 : Int32)).toNatClampNeg) S C N hg  h1
  · have h1 := h1.2 z9
    refine x_iconst (v := (1 : Int32)) C dX12_isTestOf_230 (by decide) ?_
    refine x_goto (tgt := 235) C dX12_isTestOf_231 (by decide) ?_
    refine x_keep (L' := [(0, xm_r (some h)), (1, xm_i x1), (3, xm_i x3), (4, xm_i x4), (5, xm_i x5), (6, xm_i s0)]) C [1, 2, 3, 4, 5, 0] rfl ?_
    exact kp_X12_isTestOf_235 h x1 x3 x4 x5 s0 (1 : Int32) (st_i S n24 ((1 : Int32)).toNatClampNeg) S C N hg  h1
def wp_X12_isTestOf_216 (h : Nat) (x1 : Int32) (x3 : Int32) (x4 : Int32) (x5 : Int32) (S : xm_S) (g : Int32 → xm_S → Prop) : Prop :=
  wp_X12_isTestOf_217 h x1 x3 x4 x5 (0 : Int32) S g
set_option maxRecDepth 100000 in
set_option maxHeartbeats 4000000 in
theorem kp_X12_isTestOf_216 {K : xm_K} (h : Nat) (x1 : Int32) (x3 : Int32) (x4 : Int32) (x5 : Int32) (S : xm_S) {g : Int32 → xm_S → Prop} (C : xm_Cx K cX12_isTestOf RX12 10 (some (FieldType.boolean)) rm_X12_isTestOf) (N : xm_Nx K) (hg : ∀ v S, g v S → xm_q K (some (xm_i v)) S)  (h1 : wp_X12_isTestOf_216 h x1 x3 x4 x5 S g) : xm_W K 0 0 216 [(0, xm_r (some h)), (1, xm_i x1), (3, xm_i x3), (4, xm_i x4), (5, xm_i x5)] [] S := by
  unfold wp_X12_isTestOf_216 at h1
  refine x_iconst (v := (0 : Int32)) C dX12_isTestOf_216 (by decide) ?_
  exact kp_X12_isTestOf_217 h x1 x3 x4 x5 (0 : Int32) S C N hg  h1
def wp_X12_isTestOf_212 (h : Nat) (x1 : Int32) (x3 : Int32) (x4 : Int32) (x5 : Int32) (S : xm_S) (g : Int32 → xm_S → Prop) : Prop :=
  wp_X12_isTestOf_217 h x1 x3 x4 x5 (1 : Int32) S g
set_option maxRecDepth 100000 in
set_option maxHeartbeats 4000000 in
theorem kp_X12_isTestOf_212 {K : xm_K} (h : Nat) (x1 : Int32) (x3 : Int32) (x4 : Int32) (x5 : Int32) (S : xm_S) {g : Int32 → xm_S → Prop} (C : xm_Cx K cX12_isTestOf RX12 10 (some (FieldType.boolean)) rm_X12_isTestOf) (N : xm_Nx K) (hg : ∀ v S, g v S → xm_q K (some (xm_i v)) S)  (h1 : wp_X12_isTestOf_212 h x1 x3 x4 x5 S g) : xm_W K 0 0 212 [(0, xm_r (some h)), (1, xm_i x1), (3, xm_i x3), (4, xm_i x4), (5, xm_i x5)] [] S := by
  unfold wp_X12_isTestOf_212 at h1
  refine x_iconst (v := (1 : Int32)) C dX12_isTestOf_212 (by decide) ?_
  refine x_goto (tgt := 217) C dX12_isTestOf_213 (by decide) ?_
  exact kp_X12_isTestOf_217 h x1 x3 x4 x5 (1 : Int32) S C N hg  h1
def wp_X12_isTestOf_187 (h : Nat) (x1 : Int32) (x3 : Int32) (x4 : Int32) (s0 : Int32) (S : xm_S) (g : Int32 → xm_S → Prop) : Prop :=
  (¬ s0 = 0 → wp_X12_isTestOf_216 h x1 x3 x4 s0 S g) ∧ (s0 = 0 → st_t S h = some (12, 0) ∧ ((st_i S h 62) = (nI 6) → wp_X12_isTestOf_212 h x1 x3 x4 s0 S g) ∧ (¬ (st_i S h 62) = (nI 6) → ∃ n30, (st_r S h 63) = some n30 ∧ ∃ z33, st_t S n30 = some (100, z33) ∧ vp_in (nI 2) z33 ∧ ((st_i S n30 ((nI 2)).toNatClampNeg) ≤ 0 → wp_X12_isTestOf_216 h x1 x3 x4 s0 S g) ∧ (¬ (st_i S n30 ((nI 2)).toNatClampNeg) ≤ 0 → wp_X12_isTestOf_212 h x1 x3 x4 s0 S g)))
set_option maxRecDepth 100000 in
set_option maxHeartbeats 4000000 in
theorem kp_X12_isTestOf_187 {K : xm_K} (h : Nat) (x1 : Int32) (x3 : Int32) (x4 : Int32) (s0 : Int32) (S : xm_S) {g : Int32 → xm_S → Prop} (C : xm_Cx K cX12_isTestOf RX12 10 (some (FieldType.boolean)) rm_X12_isTestOf) (N : xm_Nx K) (hg : ∀ v S, g v S → xm_q K (some (xm_i v)) S)  (h1 : wp_X12_isTestOf_187 h x1 x3 x4 s0 S g) : xm_W K 0 0 187 [(0, xm_r (some h)), (1, xm_i x1), (3, xm_i x3), (4, xm_i x4)] [xm_i s0] S := by
  unfold wp_X12_isTestOf_187 at h1
  refine x_istore (L' := [(5, xm_i s0), (0, xm_r (some h)), (1, xm_i x1), (3, xm_i x3), (4, xm_i x4)]) C dX12_isTestOf_187 (by decide) rfl ?_
  refine x_iload C 0 dX12_isTestOf_189 rfl ?_
  refine x_if_ne (tgt := 216) C dX12_isTestOf_191 (by decide) (fun z9 => ?_) (fun z9 => ?_)
  · have h1 := h1.1 z9
    refine x_keep (L' := [(0, xm_r (some h)), (1, xm_i x1), (3, xm_i x3), (4, xm_i x4), (5, xm_i s0)]) C [1, 2, 3, 4, 0] rfl ?_
    exact kp_X12_isTestOf_216 h x1 x3 x4 s0 S C N hg  h1
  · have h1 := h1.2 z9
    refine x_aload_n C 1 dX12_isTestOf_194 rfl rfl ?_
    obtain ⟨ht29, h1⟩ := h1
    refine x_getf_i (n := h) C rfl ht29 fd_164 (by decide) dX12_isTestOf_195 ?_
    refine x_bipush (v := (nI 6)) C dX12_isTestOf_198 (by decide) ?_
    refine x_icmp_eq (tgt := 212) C dX12_isTestOf_200 (by decide) (fun z9 => ?_) (fun z9 => ?_)
    · have h1 := h1.1 z9
      refine x_keep (L' := [(0, xm_r (some h)), (1, xm_i x1), (3, xm_i x3), (4, xm_i x4), (5, xm_i s0)]) C [1, 2, 3, 4, 0] rfl ?_
      exact kp_X12_isTestOf_212 h x1 x3 x4 s0 S C N hg  h1
    · have h1 := h1.2 z9
      refine x_aload_n C 1 dX12_isTestOf_203 rfl rfl ?_
      refine x_getf_r (n := h) C rfl ht29 fd_162 (by decide) dX12_isTestOf_204 ?_
      refine x_iconst (v := (nI 2)) C dX12_isTestOf_207 (by decide) ?_
      obtain ⟨n30, hr31, h1⟩ := h1
      obtain ⟨z33, ht32, h1⟩ := h1
      obtain ⟨hi34, h1⟩ := h1
      refine x_iald (n := n30) C hr31 ht32 hi34 dX12_isTestOf_208 ?_
      refine x_if_le (tgt := 216) C dX12_isTestOf_209 (by decide) (fun z9 => ?_) (fun z9 => ?_)
      · have h1 := h1.1 z9
        refine x_keep (L' := [(0, xm_r (some h)), (1, xm_i x1), (3, xm_i x3), (4, xm_i x4), (5, xm_i s0)]) C [1, 2, 3, 4, 0] rfl ?_
        exact kp_X12_isTestOf_216 h x1 x3 x4 s0 S C N hg  h1
      · have h1 := h1.2 z9
        refine x_keep (L' := [(0, xm_r (some h)), (1, xm_i x1), (3, xm_i x3), (4, xm_i x4), (5, xm_i s0)]) C [1, 2, 3, 4, 0] rfl ?_
        exact kp_X12_isTestOf_212 h x1 x3 x4 s0 S C N hg  h1
def wp_X12_isTestOf (h : Nat) (x1 : Int32) (x2 : Int32) (S : xm_S) (g : Int32 → xm_S → Prop) : Prop :=
  wp_X12_keyOf x1 x2 S (fun r36 S35 => st_t S35 h = some (12, 0) ∧ ∃ n38, (st_r S35 h 63) = some n38 ∧ ∃ z41, st_t S35 n38 = some (100, z41) ∧ vp_in (0 : Int32) z41 ∧ ∃ n43, (st_r S35 h 63) = some n43 ∧ ∃ z46, st_t S35 n43 = some (100, z46) ∧ vp_in (1 : Int32) z46 ∧ ∃ n48, (st_r S35 h 63) = some n48 ∧ ∃ z51, st_t S35 n48 = some (100, z51) ∧ vp_in (nI 2) z51 ∧ ∃ n53, (st_r S35 h 63) = some n53 ∧ ∃ z56, st_t S35 n53 = some (100, z56) ∧ vp_in (nI 3) z56 ∧ ∃ n58, (st_r S35 h 63) = some n58 ∧ ∃ z61, st_t S35 n58 = some (100, z61) ∧ vp_in (nI 4) z61 ∧ wp_X12_key x1 (st_i S35 n38 ((0 : Int32)).toNatClampNeg) (st_i S35 n43 ((1 : Int32)).toNatClampNeg) (st_i S35 n48 ((nI 2)).toNatClampNeg) (st_i S35 n53 ((nI 3)).toNatClampNeg) (st_i S35 n58 ((nI 4)).toNatClampNeg) S35 (fun r64 S63 => st_t S63 h = some (12, 0) ∧ ((nI 5) ≤ (st_i S63 h 62) → (¬ (st_i S63 h 62) = (nI 5) → (¬ (st_i S63 h 64) = (1 : Int32) → wp_X12_isTestOf_187 h x1 r36 r64 (0 : Int32) S63 g) ∧ ((st_i S63 h 64) = (1 : Int32) → wp_X12_isTestOf_187 h x1 r36 r64 (1 : Int32) S63 g)) ∧ ((st_i S63 h 62) = (nI 5) → ∃ n66, (st_r S63 h 63) = some n66 ∧ ∃ z69, st_t S63 n66 = some (100, z69) ∧ vp_in (1 : Int32) z69 ∧ ((st_i S63 n66 ((1 : Int32)).toNatClampNeg) ≤ 0 → wp_X12_isTestOf_187 h x1 r36 r64 (0 : Int32) S63 g) ∧ (¬ (st_i S63 n66 ((1 : Int32)).toNatClampNeg) ≤ 0 → wp_X12_isTestOf_187 h x1 r36 r64 (1 : Int32) S63 g))) ∧ (¬ (nI 5) ≤ (st_i S63 h 62) → (¬ (st_i S63 h 62) = 0 → (¬ (st_i S63 h 62) = (1 : Int32) → (¬ (st_i S63 h 62) = (nI 2) → (¬ (st_i S63 h 62) = (nI 3) → (r64 < r36 → wp_X12_isTestOf_148 h (0 : Int32) S63 g) ∧ (¬ r64 < r36 → wp_X12_isTestOf_148 h (1 : Int32) S63 g)) ∧ ((st_i S63 h 62) = (nI 3) → (r36 < r64 → wp_X12_isTestOf_148 h (0 : Int32) S63 g) ∧ (¬ r36 < r64 → wp_X12_isTestOf_148 h (1 : Int32) S63 g))) ∧ ((st_i S63 h 62) = (nI 2) → (r64 ≤ r36 → wp_X12_isTestOf_148 h (0 : Int32) S63 g) ∧ (¬ r64 ≤ r36 → wp_X12_isTestOf_148 h (1 : Int32) S63 g))) ∧ ((st_i S63 h 62) = (1 : Int32) → (r36 ≤ r64 → wp_X12_isTestOf_148 h (0 : Int32) S63 g) ∧ (¬ r36 ≤ r64 → wp_X12_isTestOf_148 h (1 : Int32) S63 g))) ∧ ((st_i S63 h 62) = 0 → (¬ r36 = r64 → wp_X12_isTestOf_148 h (0 : Int32) S63 g) ∧ (r36 = r64 → wp_X12_isTestOf_148 h (1 : Int32) S63 g)))))
set_option maxRecDepth 100000 in
set_option maxHeartbeats 4000000 in
theorem kp_X12_isTestOf {K : xm_K} (h : Nat) (x1 : Int32) (x2 : Int32) (S : xm_S) {g : Int32 → xm_S → Prop} (C : xm_Cx K cX12_isTestOf RX12 10 (some (FieldType.boolean)) rm_X12_isTestOf) (N : xm_Nx K) (hg : ∀ v S, g v S → xm_q K (some (xm_i v)) S)  (h1 : wp_X12_isTestOf h x1 x2 S g) : xm_W K 0 0 0 [(0, xm_r (some h)), (1, xm_i x1), (2, xm_i x2)] [] S := by
  unfold wp_X12_isTestOf at h1
  refine x_iload_n C 1 dX12_isTestOf_0 rfl rfl ?_
  refine x_iload_n C 2 dX12_isTestOf_1 rfl rfl ?_
  refine x_callS (rm' := rm_X12_keyOf) C (kp_X12_keyOf_met h1) lk_100 gw_593 rfl (Nat.le_of_ble_eq_true rfl) ⟨Nat.le_of_ble_eq_true rfl, Nat.le_of_ble_eq_true rfl, (Nat.le_of_ble_eq_true rfl), (Nat.le_of_ble_eq_true rfl)⟩ dX12_isTestOf_2 xm_kx (xm_ki (fun r36 S35 h1 => ?_))
  refine x_istore_n (L' := [(3, xm_i r36), (0, xm_r (some h)), (1, xm_i x1), (2, xm_i x2)]) C dX12_isTestOf_5 rfl (by decide) rfl ?_
  refine x_iload_n C 2 dX12_isTestOf_6 rfl rfl ?_
  refine x_aload_n C 1 dX12_isTestOf_7 rfl rfl ?_
  obtain ⟨ht37, h1⟩ := h1
  refine x_getf_r (n := h) C rfl ht37 fd_162 (by decide) dX12_isTestOf_8 ?_
  refine x_iconst (v := (0 : Int32)) C dX12_isTestOf_11 (by decide) ?_
  obtain ⟨n38, hr39, h1⟩ := h1
  obtain ⟨z41, ht40, h1⟩ := h1
  obtain ⟨hi42, h1⟩ := h1
  refine x_iald (n := n38) C hr39 ht40 hi42 dX12_isTestOf_12 ?_
  refine x_aload_n C 1 dX12_isTestOf_13 rfl rfl ?_
  refine x_getf_r (n := h) C rfl ht37 fd_162 (by decide) dX12_isTestOf_14 ?_
  refine x_iconst (v := (1 : Int32)) C dX12_isTestOf_17 (by decide) ?_
  obtain ⟨n43, hr44, h1⟩ := h1
  obtain ⟨z46, ht45, h1⟩ := h1
  obtain ⟨hi47, h1⟩ := h1
  refine x_iald (n := n43) C hr44 ht45 hi47 dX12_isTestOf_18 ?_
  refine x_aload_n C 1 dX12_isTestOf_19 rfl rfl ?_
  refine x_getf_r (n := h) C rfl ht37 fd_162 (by decide) dX12_isTestOf_20 ?_
  refine x_iconst (v := (nI 2)) C dX12_isTestOf_23 (by decide) ?_
  obtain ⟨n48, hr49, h1⟩ := h1
  obtain ⟨z51, ht50, h1⟩ := h1
  obtain ⟨hi52, h1⟩ := h1
  refine x_iald (n := n48) C hr49 ht50 hi52 dX12_isTestOf_24 ?_
  refine x_aload_n C 1 dX12_isTestOf_25 rfl rfl ?_
  refine x_getf_r (n := h) C rfl ht37 fd_162 (by decide) dX12_isTestOf_26 ?_
  refine x_iconst (v := (nI 3)) C dX12_isTestOf_29 (by decide) ?_
  obtain ⟨n53, hr54, h1⟩ := h1
  obtain ⟨z56, ht55, h1⟩ := h1
  obtain ⟨hi57, h1⟩ := h1
  refine x_iald (n := n53) C hr54 ht55 hi57 dX12_isTestOf_30 ?_
  refine x_aload_n C 1 dX12_isTestOf_31 rfl rfl ?_
  refine x_getf_r (n := h) C rfl ht37 fd_162 (by decide) dX12_isTestOf_32 ?_
  refine x_iconst (v := (nI 4)) C dX12_isTestOf_35 (by decide) ?_
  obtain ⟨n58, hr59, h1⟩ := h1
  obtain ⟨z61, ht60, h1⟩ := h1
  obtain ⟨hi62, h1⟩ := h1
  refine x_iald (n := n58) C hr59 ht60 hi62 dX12_isTestOf_36 ?_
  refine x_callS (rm' := rm_X12_key) C (kp_X12_key_met h1) lk_99 gw_590 rfl (Nat.le_of_ble_eq_true rfl) ⟨Nat.le_of_ble_eq_true rfl, Nat.le_of_ble_eq_true rfl, (Nat.le_of_ble_eq_true rfl), (Nat.le_of_ble_eq_true rfl)⟩ dX12_isTestOf_37 xm_kx (xm_ki (fun r64 S63 h1 => ?_))
  refine x_istore (L' := [(4, xm_i r64), (3, xm_i r36), (0, xm_r (some h)), (1, xm_i x1), (2, xm_i x2)]) C dX12_isTestOf_40 (by decide) rfl ?_
  refine x_aload_n C 2 dX12_isTestOf_42 rfl rfl ?_
  obtain ⟨ht65, h1⟩ := h1
  refine x_getf_i (n := h) C rfl ht65 fd_164 (by decide) dX12_isTestOf_43 ?_
  refine x_iconst (v := (nI 5)) C dX12_isTestOf_46 (by decide) ?_
  refine x_icmp_ge (tgt := 149) C dX12_isTestOf_47 (by decide) (fun z9 => ?_) (fun z9 => ?_)
  · have h1 := h1.1 z9
    refine x_aload_n C 2 dX12_isTestOf_149 rfl rfl ?_
    refine x_getf_i (n := h) C rfl ht65 fd_164 (by decide) dX12_isTestOf_150 ?_
    refine x_iconst (v := (nI 5)) C dX12_isTestOf_153 (by decide) ?_
    refine x_icmp_ne (tgt := 174) C dX12_isTestOf_154 (by decide) (fun z9 => ?_) (fun z9 => ?_)
    · have h1 := h1.1 z9
      refine x_aload_n C 2 dX12_isTestOf_174 rfl rfl ?_
      refine x_getf_i (n := h) C rfl ht65 fd_163 (by decide) dX12_isTestOf_175 ?_
      refine x_iconst (v := (1 : Int32)) C dX12_isTestOf_178 (by decide) ?_
      refine x_icmp_ne (tgt := 186) C dX12_isTestOf_179 (by decide) (fun z9 => ?_) (fun z9 => ?_)
      · have h1 := h1.1 z9
        refine x_iconst (v := (0 : Int32)) C dX12_isTestOf_186 (by decide) ?_
        refine x_keep (L' := [(0, xm_r (some h)), (1, xm_i x1), (3, xm_i r36), (4, xm_i r64)]) C [2, 3, 1, 0] rfl ?_
        exact kp_X12_isTestOf_187 h x1 r36 r64 (0 : Int32) S63 C N hg  h1
      · have h1 := h1.2 z9
        refine x_iconst (v := (1 : Int32)) C dX12_isTestOf_182 (by decide) ?_
        refine x_goto (tgt := 187) C dX12_isTestOf_183 (by decide) ?_
        refine x_keep (L' := [(0, xm_r (some h)), (1, xm_i x1), (3, xm_i r36), (4, xm_i r64)]) C [2, 3, 1, 0] rfl ?_
        exact kp_X12_isTestOf_187 h x1 r36 r64 (1 : Int32) S63 C N hg  h1
    · have h1 := h1.2 z9
      refine x_aload_n C 2 dX12_isTestOf_157 rfl rfl ?_
      refine x_getf_r (n := h) C rfl ht65 fd_162 (by decide) dX12_isTestOf_158 ?_
      refine x_iconst (v := (1 : Int32)) C dX12_isTestOf_161 (by decide) ?_
      obtain ⟨n66, hr67, h1⟩ := h1
      obtain ⟨z69, ht68, h1⟩ := h1
      obtain ⟨hi70, h1⟩ := h1
      refine x_iald (n := n66) C hr67 ht68 hi70 dX12_isTestOf_162 ?_
      refine x_if_le (tgt := 170) C dX12_isTestOf_163 (by decide) (fun z9 => ?_) (fun z9 => ?_)
      · have h1 := h1.1 z9
        refine x_iconst (v := (0 : Int32)) C dX12_isTestOf_170 (by decide) ?_
        refine x_goto (tgt := 187) C dX12_isTestOf_171 (by decide) ?_
        refine x_keep (L' := [(0, xm_r (some h)), (1, xm_i x1), (3, xm_i r36), (4, xm_i r64)]) C [2, 3, 1, 0] rfl ?_
        exact kp_X12_isTestOf_187 h x1 r36 r64 (0 : Int32) S63 C N hg  h1
      · have h1 := h1.2 z9
        refine x_iconst (v := (1 : Int32)) C dX12_isTestOf_166 (by decide) ?_
        refine x_goto (tgt := 187) C dX12_isTestOf_167 (by decide) ?_
        refine x_keep (L' := [(0, xm_r (some h)), (1, xm_i x1), (3, xm_i r36), (4, xm_i r64)]) C [2, 3, 1, 0] rfl ?_
        exact kp_X12_isTestOf_187 h x1 r36 r64 (1 : Int32) S63 C N hg  h1
  · have h1 := h1.2 z9
    refine x_aload_n C 2 dX12_isTestOf_50 rfl rfl ?_
    refine x_getf_i (n := h) C rfl ht65 fd_164 (by decide) dX12_isTestOf_51 ?_
    refine x_if_ne (tgt := 71) C dX12_isTestOf_54 (by decide) (fun z9 => ?_) (fun z9 => ?_)
    · have h1 := h1.1 z9
      refine x_aload_n C 2 dX12_isTestOf_71 rfl rfl ?_
      refine x_getf_i (n := h) C rfl ht65 fd_164 (by decide) dX12_isTestOf_72 ?_
      refine x_iconst (v := (1 : Int32)) C dX12_isTestOf_75 (by decide) ?_
      refine x_icmp_ne (tgt := 93) C dX12_isTestOf_76 (by decide) (fun z9 => ?_) (fun z9 => ?_)
      · have h1 := h1.1 z9
        refine x_aload_n C 2 dX12_isTestOf_93 rfl rfl ?_
        refine x_getf_i (n := h) C rfl ht65 fd_164 (by decide) dX12_isTestOf_94 ?_
        refine x_iconst (v := (nI 2)) C dX12_isTestOf_97 (by decide) ?_
        refine x_icmp_ne (tgt := 115) C dX12_isTestOf_98 (by decide) (fun z9 => ?_) (fun z9 => ?_)
        · have h1 := h1.1 z9
          refine x_aload_n C 2 dX12_isTestOf_115 rfl rfl ?_
          refine x_getf_i (n := h) C rfl ht65 fd_164 (by decide) dX12_isTestOf_116 ?_
          refine x_iconst (v := (nI 3)) C dX12_isTestOf_119 (by decide) ?_
          refine x_icmp_ne (tgt := 137) C dX12_isTestOf_120 (by decide) (fun z9 => ?_) (fun z9 => ?_)
          · have h1 := h1.1 z9
            refine x_iload_n C 1 dX12_isTestOf_137 rfl rfl ?_
            refine x_iload C 0 dX12_isTestOf_138 rfl ?_
            refine x_icmp_gt (tgt := 147) C dX12_isTestOf_140 (by decide) (fun z9 => ?_) (fun z9 => ?_)
            · have h1 := h1.1 z9
              refine x_iconst (v := (0 : Int32)) C dX12_isTestOf_147 (by decide) ?_
              refine x_keep (L' := []) C [] rfl ?_
              exact kp_X12_isTestOf_148 h (0 : Int32) S63 C N hg  h1
            · have h1 := h1.2 z9
              refine x_iconst (v := (1 : Int32)) C dX12_isTestOf_143 (by decide) ?_
              refine x_goto (tgt := 148) C dX12_isTestOf_144 (by decide) ?_
              refine x_keep (L' := []) C [] rfl ?_
              exact kp_X12_isTestOf_148 h (1 : Int32) S63 C N hg  h1
          · have h1 := h1.2 z9
            refine x_iload_n C 1 dX12_isTestOf_123 rfl rfl ?_
            refine x_iload C 0 dX12_isTestOf_124 rfl ?_
            refine x_icmp_lt (tgt := 133) C dX12_isTestOf_126 (by decide) (fun z9 => ?_) (fun z9 => ?_)
            · have h1 := h1.1 z9
              refine x_iconst (v := (0 : Int32)) C dX12_isTestOf_133 (by decide) ?_
              refine x_goto (tgt := 148) C dX12_isTestOf_134 (by decide) ?_
              refine x_keep (L' := []) C [] rfl ?_
              exact kp_X12_isTestOf_148 h (0 : Int32) S63 C N hg  h1
            · have h1 := h1.2 z9
              refine x_iconst (v := (1 : Int32)) C dX12_isTestOf_129 (by decide) ?_
              refine x_goto (tgt := 148) C dX12_isTestOf_130 (by decide) ?_
              refine x_keep (L' := []) C [] rfl ?_
              exact kp_X12_isTestOf_148 h (1 : Int32) S63 C N hg  h1
        · have h1 := h1.2 z9
          refine x_iload_n C 1 dX12_isTestOf_101 rfl rfl ?_
          refine x_iload C 0 dX12_isTestOf_102 rfl ?_
          refine x_icmp_ge (tgt := 111) C dX12_isTestOf_104 (by decide) (fun z9 => ?_) (fun z9 => ?_)
          · have h1 := h1.1 z9
            refine x_iconst (v := (0 : Int32)) C dX12_isTestOf_111 (by decide) ?_
            refine x_goto (tgt := 148) C dX12_isTestOf_112 (by decide) ?_
            refine x_keep (L' := []) C [] rfl ?_
            exact kp_X12_isTestOf_148 h (0 : Int32) S63 C N hg  h1
          · have h1 := h1.2 z9
            refine x_iconst (v := (1 : Int32)) C dX12_isTestOf_107 (by decide) ?_
            refine x_goto (tgt := 148) C dX12_isTestOf_108 (by decide) ?_
            refine x_keep (L' := []) C [] rfl ?_
            exact kp_X12_isTestOf_148 h (1 : Int32) S63 C N hg  h1
      · have h1 := h1.2 z9
        refine x_iload_n C 1 dX12_isTestOf_79 rfl rfl ?_
        refine x_iload C 0 dX12_isTestOf_80 rfl ?_
        refine x_icmp_le (tgt := 89) C dX12_isTestOf_82 (by decide) (fun z9 => ?_) (fun z9 => ?_)
        · have h1 := h1.1 z9
          refine x_iconst (v := (0 : Int32)) C dX12_isTestOf_89 (by decide) ?_
          refine x_goto (tgt := 148) C dX12_isTestOf_90 (by decide) ?_
          refine x_keep (L' := []) C [] rfl ?_
          exact kp_X12_isTestOf_148 h (0 : Int32) S63 C N hg  h1
        · have h1 := h1.2 z9
          refine x_iconst (v := (1 : Int32)) C dX12_isTestOf_85 (by decide) ?_
          refine x_goto (tgt := 148) C dX12_isTestOf_86 (by decide) ?_
          refine x_keep (L' := []) C [] rfl ?_
          exact kp_X12_isTestOf_148 h (1 : Int32) S63 C N hg  h1
    · have h1 := h1.2 z9
      refine x_iload_n C 1 dX12_isTestOf_57 rfl rfl ?_
      refine x_iload C 0 dX12_isTestOf_58 rfl ?_
      refine x_icmp_ne (tgt := 67) C dX12_isTestOf_60 (by decide) (fun z9 => ?_) (fun z9 => ?_)
      · have h1 := h1.1 z9
        refine x_iconst (v := (0 : Int32)) C dX12_isTestOf_67 (by decide) ?_
        refine x_goto (tgt := 148) C dX12_isTestOf_68 (by decide) ?_
        refine x_keep (L' := []) C [] rfl ?_
        exact kp_X12_isTestOf_148 h (0 : Int32) S63 C N hg  h1
      · have h1 := h1.2 z9
        refine x_iconst (v := (1 : Int32)) C dX12_isTestOf_63 (by decide) ?_
        refine x_goto (tgt := 148) C dX12_isTestOf_64 (by decide) ?_
        refine x_keep (L' := []) C [] rfl ?_
        exact kp_X12_isTestOf_148 h (1 : Int32) S63 C N hg  h1
theorem kp_X12_isTestOf_met {h : Nat} {x1 : Int32} {x2 : Int32} {S : xm_S} {g : Int32 → xm_S → Prop}  (h1 : wp_X12_isTestOf h x1 x2 S g) : xm_Met yX12_isTestOf cX12_isTestOf 10 (some (FieldType.boolean)) rm_X12_isTestOf [xm_r (some h), xm_i x1, xm_i x2] S (xm_qi g) xm_nox :=
  xm_ofW RX12 (by decide +kernel) rfl (Nat.le_of_ble_eq_true rfl) (fun K C N hq hx hi => kp_X12_isTestOf h x1 x2 S C N (fun v S h => by rw [hq]; exact ⟨v, rfl, h⟩)  h1)
def rm_X12_isRangeOf : Room := { frames := 6, cells := 0, slots := 0, locals := 126 }
theorem dX12_isRangeOf_0 : decode cX12_isRangeOf 0 = .ok (.iload_n 3, 1) := by decide +kernel
theorem dX12_isRangeOf_1 : decode cX12_isRangeOf 1 = .ok (.bipush 10, 2) := by decide +kernel
theorem dX12_isRangeOf_3 : decode cX12_isRangeOf 3 = .ok (.irem, 1) := by decide +kernel
theorem dX12_isRangeOf_4 : decode cX12_isRangeOf 4 = .ok (.ifCond .le 7, 3) := by decide +kernel
theorem dX12_isRangeOf_7 : decode cX12_isRangeOf 7 = .ok (.iconst 1, 1) := by decide +kernel
theorem dX12_isRangeOf_8 : decode cX12_isRangeOf 8 = .ok (.goto 4, 3) := by decide +kernel
theorem dX12_isRangeOf_11 : decode cX12_isRangeOf 11 = .ok (.iconst 0, 1) := by decide +kernel
theorem dX12_isRangeOf_12 : decode cX12_isRangeOf 12 = .ok (.istore 4, 2) := by decide +kernel
theorem dX12_isRangeOf_14 : decode cX12_isRangeOf 14 = .ok (.iconst 0, 1) := by decide +kernel
theorem dX12_isRangeOf_15 : decode cX12_isRangeOf 15 = .ok (.istore 5, 2) := by decide +kernel
theorem dX12_isRangeOf_17 : decode cX12_isRangeOf 17 = .ok (.aload_n 0, 1) := by decide +kernel
theorem dX12_isRangeOf_18 : decode cX12_isRangeOf 18 = .ok (.iload_n 1, 1) := by decide +kernel
theorem dX12_isRangeOf_19 : decode cX12_isRangeOf 19 = .ok (.putfield 188, 3) := by decide +kernel
theorem dX12_isRangeOf_22 : decode cX12_isRangeOf 22 = .ok (.aload_n 0, 1) := by decide +kernel
theorem dX12_isRangeOf_23 : decode cX12_isRangeOf 23 = .ok (.iconst 0, 1) := by decide +kernel
theorem dX12_isRangeOf_24 : decode cX12_isRangeOf 24 = .ok (.putfield 185, 3) := by decide +kernel
theorem dX12_isRangeOf_27 : decode cX12_isRangeOf 27 = .ok (.aload_n 0, 1) := by decide +kernel
theorem dX12_isRangeOf_28 : decode cX12_isRangeOf 28 = .ok (.getfield 185, 3) := by decide +kernel
theorem dX12_isRangeOf_31 : decode cX12_isRangeOf 31 = .ok (.aload_n 0, 1) := by decide +kernel
theorem dX12_isRangeOf_32 : decode cX12_isRangeOf 32 = .ok (.getfield 77, 3) := by decide +kernel
theorem dX12_isRangeOf_35 : decode cX12_isRangeOf 35 = .ok (.iload_n 1, 1) := by decide +kernel
theorem dX12_isRangeOf_36 : decode cX12_isRangeOf 36 = .ok (.iaload, 1) := by decide +kernel
theorem dX12_isRangeOf_37 : decode cX12_isRangeOf 37 = .ok (.if_icmp .ge 126, 3) := by decide +kernel
theorem dX12_isRangeOf_40 : decode cX12_isRangeOf 40 = .ok (.iconst 1, 1) := by decide +kernel
theorem dX12_isRangeOf_41 : decode cX12_isRangeOf 41 = .ok (.istore 6, 2) := by decide +kernel
theorem dX12_isRangeOf_43 : decode cX12_isRangeOf 43 = .ok (.iload 4, 2) := by decide +kernel
theorem dX12_isRangeOf_45 : decode cX12_isRangeOf 45 = .ok (.ifCond .ne 7, 3) := by decide +kernel
theorem dX12_isRangeOf_48 : decode cX12_isRangeOf 48 = .ok (.iconst 1, 1) := by decide +kernel
theorem dX12_isRangeOf_49 : decode cX12_isRangeOf 49 = .ok (.goto 4, 3) := by decide +kernel
theorem dX12_isRangeOf_52 : decode cX12_isRangeOf 52 = .ok (.iconst 0, 1) := by decide +kernel
theorem dX12_isRangeOf_53 : decode cX12_isRangeOf 53 = .ok (.istore 7, 2) := by decide +kernel
theorem dX12_isRangeOf_55 : decode cX12_isRangeOf 55 = .ok (.aload_n 0, 1) := by decide +kernel
theorem dX12_isRangeOf_56 : decode cX12_isRangeOf 56 = .ok (.bipush 42, 2) := by decide +kernel
theorem dX12_isRangeOf_58 : decode cX12_isRangeOf 58 = .ok (.invokevirtual 205, 3) := by decide +kernel
theorem dX12_isRangeOf_61 : decode cX12_isRangeOf 61 = .ok (.ifCond .ne 69, 3) := by decide +kernel
theorem dX12_isRangeOf_64 : decode cX12_isRangeOf 64 = .ok (.iconst 1, 1) := by decide +kernel
theorem dX12_isRangeOf_65 : decode cX12_isRangeOf 65 = .ok (.istore 8, 2) := by decide +kernel
theorem dX12_isRangeOf_67 : decode cX12_isRangeOf 67 = .ok (.iload 8, 2) := by decide +kernel
theorem dX12_isRangeOf_69 : decode cX12_isRangeOf 69 = .ok (.ifCond .eq 61, 3) := by decide +kernel
theorem dX12_isRangeOf_72 : decode cX12_isRangeOf 72 = .ok (.aload_n 0, 1) := by decide +kernel
theorem dX12_isRangeOf_73 : decode cX12_isRangeOf 73 = .ok (.invokevirtual 214, 3) := by decide +kernel
theorem dX12_isRangeOf_76 : decode cX12_isRangeOf 76 = .ok (.istore 9, 2) := by decide +kernel
theorem dX12_isRangeOf_78 : decode cX12_isRangeOf 78 = .ok (.iload 6, 2) := by decide +kernel
theorem dX12_isRangeOf_80 : decode cX12_isRangeOf 80 = .ok (.ifCond .eq 16, 3) := by decide +kernel
theorem dX12_isRangeOf_83 : decode cX12_isRangeOf 83 = .ok (.aload_n 0, 1) := by decide +kernel
theorem dX12_isRangeOf_84 : decode cX12_isRangeOf 84 = .ok (.iload_n 2, 1) := by decide +kernel
theorem dX12_isRangeOf_85 : decode cX12_isRangeOf 85 = .ok (.iload_n 3, 1) := by decide +kernel
theorem dX12_isRangeOf_86 : decode cX12_isRangeOf 86 = .ok (.invokevirtual 229, 3) := by decide +kernel
theorem dX12_isRangeOf_89 : decode cX12_isRangeOf 89 = .ok (.ifCond .eq 7, 3) := by decide +kernel
theorem dX12_isRangeOf_92 : decode cX12_isRangeOf 92 = .ok (.iconst 1, 1) := by decide +kernel
theorem dX12_isRangeOf_93 : decode cX12_isRangeOf 93 = .ok (.goto 4, 3) := by decide +kernel
theorem dX12_isRangeOf_96 : decode cX12_isRangeOf 96 = .ok (.iconst 0, 1) := by decide +kernel
theorem dX12_isRangeOf_97 : decode cX12_isRangeOf 97 = .ok (.istore 6, 2) := by decide +kernel
theorem dX12_isRangeOf_99 : decode cX12_isRangeOf 99 = .ok (.iload 7, 2) := by decide +kernel
theorem dX12_isRangeOf_101 : decode cX12_isRangeOf 101 = .ok (.ifCond .ne 11, 3) := by decide +kernel
theorem dX12_isRangeOf_104 : decode cX12_isRangeOf 104 = .ok (.aload_n 0, 1) := by decide +kernel
theorem dX12_isRangeOf_105 : decode cX12_isRangeOf 105 = .ok (.iload_n 3, 1) := by decide +kernel
theorem dX12_isRangeOf_106 : decode cX12_isRangeOf 106 = .ok (.invokevirtual 233, 3) := by decide +kernel
theorem dX12_isRangeOf_109 : decode cX12_isRangeOf 109 = .ok (.ifCond .eq 7, 3) := by decide +kernel
theorem dX12_isRangeOf_112 : decode cX12_isRangeOf 112 = .ok (.iconst 1, 1) := by decide +kernel
theorem dX12_isRangeOf_113 : decode cX12_isRangeOf 113 = .ok (.goto 4, 3) := by decide +kernel
theorem dX12_isRangeOf_116 : decode cX12_isRangeOf 116 = .ok (.iconst 0, 1) := by decide +kernel
theorem dX12_isRangeOf_117 : decode cX12_isRangeOf 117 = .ok (.istore 7, 2) := by decide +kernel
theorem dX12_isRangeOf_119 : decode cX12_isRangeOf 119 = .ok (.aload_n 0, 1) := by decide +kernel
theorem dX12_isRangeOf_120 : decode cX12_isRangeOf 120 = .ok (.bipush 44, 2) := by decide +kernel
theorem dX12_isRangeOf_122 : decode cX12_isRangeOf 122 = .ok (.invokevirtual 205, 3) := by decide +kernel
theorem dX12_isRangeOf_125 : decode cX12_isRangeOf 125 = .ok (.istore 8, 2) := by decide +kernel
theorem dX12_isRangeOf_127 : decode cX12_isRangeOf 127 = .ok (.goto (-60), 3) := by decide +kernel
theorem dX12_isRangeOf_130 : decode cX12_isRangeOf 130 = .ok (.iload 5, 2) := by decide +kernel
theorem dX12_isRangeOf_132 : decode cX12_isRangeOf 132 = .ok (.ifCond .ne 13, 3) := by decide +kernel
theorem dX12_isRangeOf_135 : decode cX12_isRangeOf 135 = .ok (.iload 6, 2) := by decide +kernel
theorem dX12_isRangeOf_137 : decode cX12_isRangeOf 137 = .ok (.ifCond .eq 12, 3) := by decide +kernel
theorem dX12_isRangeOf_140 : decode cX12_isRangeOf 140 = .ok (.iload 7, 2) := by decide +kernel
theorem dX12_isRangeOf_142 : decode cX12_isRangeOf 142 = .ok (.ifCond .eq 7, 3) := by decide +kernel
theorem dX12_isRangeOf_145 : decode cX12_isRangeOf 145 = .ok (.iconst 1, 1) := by decide +kernel
theorem dX12_isRangeOf_146 : decode cX12_isRangeOf 146 = .ok (.goto 4, 3) := by decide +kernel
theorem dX12_isRangeOf_149 : decode cX12_isRangeOf 149 = .ok (.iconst 0, 1) := by decide +kernel
theorem dX12_isRangeOf_150 : decode cX12_isRangeOf 150 = .ok (.istore 5, 2) := by decide +kernel
theorem dX12_isRangeOf_152 : decode cX12_isRangeOf 152 = .ok (.aload_n 0, 1) := by decide +kernel
theorem dX12_isRangeOf_153 : decode cX12_isRangeOf 153 = .ok (.bipush 124, 2) := by decide +kernel
theorem dX12_isRangeOf_155 : decode cX12_isRangeOf 155 = .ok (.invokevirtual 205, 3) := by decide +kernel
theorem dX12_isRangeOf_158 : decode cX12_isRangeOf 158 = .ok (.istore 8, 2) := by decide +kernel
theorem dX12_isRangeOf_160 : decode cX12_isRangeOf 160 = .ok (.goto (-133), 3) := by decide +kernel
theorem dX12_isRangeOf_163 : decode cX12_isRangeOf 163 = .ok (.iload 5, 2) := by decide +kernel
theorem dX12_isRangeOf_165 : decode cX12_isRangeOf 165 = .ok (.ireturn, 1) := by decide +kernel
def wp_X12_isRangeOf_150 (h : Nat) (x1 : Int32) (x2 : Int32) (x3 : Int32) (x4 : Int32) (s0 : Int32) (S : xm_S) (g : Int32 → xm_S → Prop) (Z27 : Int32 → Int32 → Int32 → Int32 → Int32 → xm_S → Prop) : Prop :=
  st_t S h = some (12, 0) ∧ wp_X12_takes h (nI 124) S (fun r3 S2 => Z27 x1 x2 x3 x4 s0 S2)
set_option maxRecDepth 100000 in
set_option maxHeartbeats 4000000 in
theorem kp_X12_isRangeOf_150 {K : xm_K} (h : Nat) (x1 : Int32) (x2 : Int32) (x3 : Int32) (x4 : Int32) (s0 : Int32) (S : xm_S) {g : Int32 → xm_S → Prop} {Z27 : Int32 → Int32 → Int32 → Int32 → Int32 → xm_S → Prop} (C : xm_Cx K cX12_isRangeOf RX12 10 (some (FieldType.boolean)) rm_X12_isRangeOf) (N : xm_Nx K) (hg : ∀ v S, g v S → xm_q K (some (xm_i v)) S) (hZ27 : ∀ x1 x2 x3 x4 x5 S, Z27 x1 x2 x3 x4 x5 S → xm_W K 0 0 27 [(0, xm_r (some h)), (1, xm_i x1), (2, xm_i x2), (3, xm_i x3), (4, xm_i x4), (5, xm_i x5)] [] S) (h1 : wp_X12_isRangeOf_150 h x1 x2 x3 x4 s0 S g Z27) : xm_W K 0 0 150 [(0, xm_r (some h)), (1, xm_i x1), (2, xm_i x2), (3, xm_i x3), (4, xm_i x4)] [xm_i s0] S := by
  unfold wp_X12_isRangeOf_150 at h1
  refine x_istore (L' := [(5, xm_i s0), (0, xm_r (some h)), (1, xm_i x1), (2, xm_i x2), (3, xm_i x3), (4, xm_i x4)]) C dX12_isRangeOf_150 (by decide) rfl ?_
  refine x_aload_n C 1 dX12_isRangeOf_152 rfl rfl ?_
  refine x_bipush (v := (nI 124)) C dX12_isRangeOf_153 (by decide) ?_
  obtain ⟨ht1, h1⟩ := h1
  refine x_callV (rm' := rm_X12_takes) (n := h) C (kp_X12_takes_met h1) lk_90 gw_549 gw_550 xv_12 rfl rfl ht1 rfl (Nat.le_of_ble_eq_true rfl) ⟨Nat.le_of_ble_eq_true rfl, Nat.le_of_ble_eq_true rfl, (Nat.le_of_ble_eq_true rfl), (Nat.le_of_ble_eq_true rfl)⟩ dX12_isRangeOf_155 xm_kx (xm_ki (fun r3 S2 h1 => ?_))
  refine x_istore (L' := [(8, xm_i r3), (5, xm_i s0), (0, xm_r (some h)), (1, xm_i x1), (2, xm_i x2), (3, xm_i x3), (4, xm_i x4)]) C dX12_isRangeOf_158 (by decide) rfl ?_
  refine x_goto (tgt := 27) C dX12_isRangeOf_160 (by decide) ?_
  refine x_keep (L' := [(0, xm_r (some h)), (1, xm_i x1), (2, xm_i x2), (3, xm_i x3), (4, xm_i x4), (5, xm_i s0)]) C [2, 3, 4, 5, 6, 1] rfl ?_
  exact hZ27 x1 x2 x3 x4 s0 S2 h1
def wp_X12_isRangeOf_145 (h : Nat) (x1 : Int32) (x2 : Int32) (x3 : Int32) (x4 : Int32) (S : xm_S) (g : Int32 → xm_S → Prop) (Z27 : Int32 → Int32 → Int32 → Int32 → Int32 → xm_S → Prop) : Prop :=
  wp_X12_isRangeOf_150 h x1 x2 x3 x4 (1 : Int32) S g Z27
set_option maxRecDepth 100000 in
set_option maxHeartbeats 4000000 in
theorem kp_X12_isRangeOf_145 {K : xm_K} (h : Nat) (x1 : Int32) (x2 : Int32) (x3 : Int32) (x4 : Int32) (S : xm_S) {g : Int32 → xm_S → Prop} {Z27 : Int32 → Int32 → Int32 → Int32 → Int32 → xm_S → Prop} (C : xm_Cx K cX12_isRangeOf RX12 10 (some (FieldType.boolean)) rm_X12_isRangeOf) (N : xm_Nx K) (hg : ∀ v S, g v S → xm_q K (some (xm_i v)) S) (hZ27 : ∀ x1 x2 x3 x4 x5 S, Z27 x1 x2 x3 x4 x5 S → xm_W K 0 0 27 [(0, xm_r (some h)), (1, xm_i x1), (2, xm_i x2), (3, xm_i x3), (4, xm_i x4), (5, xm_i x5)] [] S) (h1 : wp_X12_isRangeOf_145 h x1 x2 x3 x4 S g Z27) : xm_W K 0 0 145 [(0, xm_r (some h)), (1, xm_i x1), (2, xm_i x2), (3, xm_i x3), (4, xm_i x4)] [] S := by
  unfold wp_X12_isRangeOf_145 at h1
  refine x_iconst (v := (1 : Int32)) C dX12_isRangeOf_145 (by decide) ?_
  refine x_goto (tgt := 150) C dX12_isRangeOf_146 (by decide) ?_
  exact kp_X12_isRangeOf_150 h x1 x2 x3 x4 (1 : Int32) S C N hg hZ27 h1
def wp_X12_isRangeOf_149 (h : Nat) (x1 : Int32) (x2 : Int32) (x3 : Int32) (x4 : Int32) (S : xm_S) (g : Int32 → xm_S → Prop) (Z27 : Int32 → Int32 → Int32 → Int32 → Int32 → xm_S → Prop) : Prop :=
  wp_X12_isRangeOf_150 h x1 x2 x3 x4 (0 : Int32) S g Z27
set_option maxRecDepth 100000 in
set_option maxHeartbeats 4000000 in
theorem kp_X12_isRangeOf_149 {K : xm_K} (h : Nat) (x1 : Int32) (x2 : Int32) (x3 : Int32) (x4 : Int32) (S : xm_S) {g : Int32 → xm_S → Prop} {Z27 : Int32 → Int32 → Int32 → Int32 → Int32 → xm_S → Prop} (C : xm_Cx K cX12_isRangeOf RX12 10 (some (FieldType.boolean)) rm_X12_isRangeOf) (N : xm_Nx K) (hg : ∀ v S, g v S → xm_q K (some (xm_i v)) S) (hZ27 : ∀ x1 x2 x3 x4 x5 S, Z27 x1 x2 x3 x4 x5 S → xm_W K 0 0 27 [(0, xm_r (some h)), (1, xm_i x1), (2, xm_i x2), (3, xm_i x3), (4, xm_i x4), (5, xm_i x5)] [] S) (h1 : wp_X12_isRangeOf_149 h x1 x2 x3 x4 S g Z27) : xm_W K 0 0 149 [(0, xm_r (some h)), (1, xm_i x1), (2, xm_i x2), (3, xm_i x3), (4, xm_i x4)] [] S := by
  unfold wp_X12_isRangeOf_149 at h1
  refine x_iconst (v := (0 : Int32)) C dX12_isRangeOf_149 (by decide) ?_
  exact kp_X12_isRangeOf_150 h x1 x2 x3 x4 (0 : Int32) S C N hg hZ27 h1
def wp_X12_isRangeOf_130 (h : Nat) (x1 : Int32) (x2 : Int32) (x3 : Int32) (x4 : Int32) (x5 : Int32) (x6 : Int32) (x7 : Int32) (S : xm_S) (g : Int32 → xm_S → Prop) (Z27 : Int32 → Int32 → Int32 → Int32 → Int32 → xm_S → Prop) : Prop :=
  (¬ x5 = 0 → wp_X12_isRangeOf_145 h x1 x2 x3 x4 S g Z27) ∧ (x5 = 0 → (x6 = 0 → wp_X12_isRangeOf_149 h x1 x2 x3 x4 S g Z27) ∧ (¬ x6 = 0 → (x7 = 0 → wp_X12_isRangeOf_149 h x1 x2 x3 x4 S g Z27) ∧ (¬ x7 = 0 → wp_X12_isRangeOf_145 h x1 x2 x3 x4 S g Z27)))
set_option maxRecDepth 100000 in
set_option maxHeartbeats 4000000 in
theorem kp_X12_isRangeOf_130 {K : xm_K} (h : Nat) (x1 : Int32) (x2 : Int32) (x3 : Int32) (x4 : Int32) (x5 : Int32) (x6 : Int32) (x7 : Int32) (S : xm_S) {g : Int32 → xm_S → Prop} {Z27 : Int32 → Int32 → Int32 → Int32 → Int32 → xm_S → Prop} (C : xm_Cx K cX12_isRangeOf RX12 10 (some (FieldType.boolean)) rm_X12_isRangeOf) (N : xm_Nx K) (hg : ∀ v S, g v S → xm_q K (some (xm_i v)) S) (hZ27 : ∀ x1 x2 x3 x4 x5 S, Z27 x1 x2 x3 x4 x5 S → xm_W K 0 0 27 [(0, xm_r (some h)), (1, xm_i x1), (2, xm_i x2), (3, xm_i x3), (4, xm_i x4), (5, xm_i x5)] [] S) (h1 : wp_X12_isRangeOf_130 h x1 x2 x3 x4 x5 x6 x7 S g Z27) : xm_W K 0 0 130 [(0, xm_r (some h)), (1, xm_i x1), (2, xm_i x2), (3, xm_i x3), (4, xm_i x4), (5, xm_i x5), (6, xm_i x6), (7, xm_i x7)] [] S := by
  unfold wp_X12_isRangeOf_130 at h1
  refine x_iload C 5 dX12_isRangeOf_130 rfl ?_
  refine x_if_ne (tgt := 145) C dX12_isRangeOf_132 (by decide) (fun z9 => ?_) (fun z9 => ?_)
  · have h1 := h1.1 z9
    refine x_keep (L' := [(0, xm_r (some h)), (1, xm_i x1), (2, xm_i x2), (3, xm_i x3), (4, xm_i x4)]) C [0, 1, 2, 3, 4] rfl ?_
    exact kp_X12_isRangeOf_145 h x1 x2 x3 x4 S C N hg hZ27 h1
  · have h1 := h1.2 z9
    refine x_iload C 6 dX12_isRangeOf_135 rfl ?_
    refine x_if_eq (tgt := 149) C dX12_isRangeOf_137 (by decide) (fun z9 => ?_) (fun z9 => ?_)
    · have h1 := h1.1 z9
      refine x_keep (L' := [(0, xm_r (some h)), (1, xm_i x1), (2, xm_i x2), (3, xm_i x3), (4, xm_i x4)]) C [0, 1, 2, 3, 4] rfl ?_
      exact kp_X12_isRangeOf_149 h x1 x2 x3 x4 S C N hg hZ27 h1
    · have h1 := h1.2 z9
      refine x_iload C 7 dX12_isRangeOf_140 rfl ?_
      refine x_if_eq (tgt := 149) C dX12_isRangeOf_142 (by decide) (fun z9 => ?_) (fun z9 => ?_)
      · have h1 := h1.1 z9
        refine x_keep (L' := [(0, xm_r (some h)), (1, xm_i x1), (2, xm_i x2), (3, xm_i x3), (4, xm_i x4)]) C [0, 1, 2, 3, 4] rfl ?_
        exact kp_X12_isRangeOf_149 h x1 x2 x3 x4 S C N hg hZ27 h1
      · have h1 := h1.2 z9
        refine x_keep (L' := [(0, xm_r (some h)), (1, xm_i x1), (2, xm_i x2), (3, xm_i x3), (4, xm_i x4)]) C [0, 1, 2, 3, 4] rfl ?_
        exact kp_X12_isRangeOf_145 h x1 x2 x3 x4 S C N hg hZ27 h1
def wp_X12_isRangeOf_117 (h : Nat) (x1 : Int32) (x2 : Int32) (x3 : Int32) (x4 : Int32) (x5 : Int32) (x6 : Int32) (s0 : Int32) (S : xm_S) (g : Int32 → xm_S → Prop) (Z27 : Int32 → Int32 → Int32 → Int32 → Int32 → xm_S → Prop) (Z67 : Int32 → Int32 → Int32 → Int32 → Int32 → Int32 → Int32 → Int32 → xm_S → Prop) : Prop :=
  st_t S h = some (12, 0) ∧ wp_X12_takes h (nI 44) S (fun r6 S5 => Z67 x1 x2 x3 x4 x5 x6 s0 r6 S5)
set_option maxRecDepth 100000 in
set_option maxHeartbeats 4000000 in
theorem kp_X12_isRangeOf_117 {K : xm_K} (h : Nat) (x1 : Int32) (x2 : Int32) (x3 : Int32) (x4 : Int32) (x5 : Int32) (x6 : Int32) (s0 : Int32) (S : xm_S) {g : Int32 → xm_S → Prop} {Z27 : Int32 → Int32 → Int32 → Int32 → Int32 → xm_S → Prop} {Z67 : Int32 → Int32 → Int32 → Int32 → Int32 → Int32 → Int32 → Int32 → xm_S → Prop} (C : xm_Cx K cX12_isRangeOf RX12 10 (some (FieldType.boolean)) rm_X12_isRangeOf) (N : xm_Nx K) (hg : ∀ v S, g v S → xm_q K (some (xm_i v)) S) (hZ27 : ∀ x1 x2 x3 x4 x5 S, Z27 x1 x2 x3 x4 x5 S → xm_W K 0 0 27 [(0, xm_r (some h)), (1, xm_i x1), (2, xm_i x2), (3, xm_i x3), (4, xm_i x4), (5, xm_i x5)] [] S) (hZ67 : ∀ x1 x2 x3 x4 x5 x6 x7 x8 S, Z67 x1 x2 x3 x4 x5 x6 x7 x8 S → xm_W K 0 0 67 [(0, xm_r (some h)), (1, xm_i x1), (2, xm_i x2), (3, xm_i x3), (4, xm_i x4), (5, xm_i x5), (6, xm_i x6), (7, xm_i x7), (8, xm_i x8)] [] S) (h1 : wp_X12_isRangeOf_117 h x1 x2 x3 x4 x5 x6 s0 S g Z27 Z67) : xm_W K 0 0 117 [(0, xm_r (some h)), (1, xm_i x1), (2, xm_i x2), (3, xm_i x3), (4, xm_i x4), (5, xm_i x5), (6, xm_i x6)] [xm_i s0] S := by
  unfold wp_X12_isRangeOf_117 at h1
  refine x_istore (L' := [(7, xm_i s0), (0, xm_r (some h)), (1, xm_i x1), (2, xm_i x2), (3, xm_i x3), (4, xm_i x4), (5, xm_i x5), (6, xm_i x6)]) C dX12_isRangeOf_117 (by decide) rfl ?_
  refine x_aload_n C 1 dX12_isRangeOf_119 rfl rfl ?_
  refine x_bipush (v := (nI 44)) C dX12_isRangeOf_120 (by decide) ?_
  obtain ⟨ht4, h1⟩ := h1
  refine x_callV (rm' := rm_X12_takes) (n := h) C (kp_X12_takes_met h1) lk_90 gw_549 gw_550 xv_12 rfl rfl ht4 rfl (Nat.le_of_ble_eq_true rfl) ⟨Nat.le_of_ble_eq_true rfl, Nat.le_of_ble_eq_true rfl, (Nat.le_of_ble_eq_true rfl), (Nat.le_of_ble_eq_true rfl)⟩ dX12_isRangeOf_122 xm_kx (xm_ki (fun r6 S5 h1 => ?_))
  refine x_istore (L' := [(8, xm_i r6), (7, xm_i s0), (0, xm_r (some h)), (1, xm_i x1), (2, xm_i x2), (3, xm_i x3), (4, xm_i x4), (5, xm_i x5), (6, xm_i x6)]) C dX12_isRangeOf_125 (by decide) rfl ?_
  refine x_goto (tgt := 67) C dX12_isRangeOf_127 (by decide) ?_
  refine x_keep (L' := [(0, xm_r (some h)), (1, xm_i x1), (2, xm_i x2), (3, xm_i x3), (4, xm_i x4), (5, xm_i x5), (6, xm_i x6), (7, xm_i s0), (8, xm_i r6)]) C [2, 3, 4, 5, 6, 7, 8, 1, 0] rfl ?_
  exact hZ67 x1 x2 x3 x4 x5 x6 s0 r6 S5 h1
def wp_X12_isRangeOf_112 (h : Nat) (x1 : Int32) (x2 : Int32) (x3 : Int32) (x4 : Int32) (x5 : Int32) (x6 : Int32) (S : xm_S) (g : Int32 → xm_S → Prop) (Z27 : Int32 → Int32 → Int32 → Int32 → Int32 → xm_S → Prop) (Z67 : Int32 → Int32 → Int32 → Int32 → Int32 → Int32 → Int32 → Int32 → xm_S → Prop) : Prop :=
  wp_X12_isRangeOf_117 h x1 x2 x3 x4 x5 x6 (1 : Int32) S g Z27 Z67
set_option maxRecDepth 100000 in
set_option maxHeartbeats 4000000 in
theorem kp_X12_isRangeOf_112 {K : xm_K} (h : Nat) (x1 : Int32) (x2 : Int32) (x3 : Int32) (x4 : Int32) (x5 : Int32) (x6 : Int32) (S : xm_S) {g : Int32 → xm_S → Prop} {Z27 : Int32 → Int32 → Int32 → Int32 → Int32 → xm_S → Prop} {Z67 : Int32 → Int32 → Int32 → Int32 → Int32 → Int32 → Int32 → Int32 → xm_S → Prop} (C : xm_Cx K cX12_isRangeOf RX12 10 (some (FieldType.boolean)) rm_X12_isRangeOf) (N : xm_Nx K) (hg : ∀ v S, g v S → xm_q K (some (xm_i v)) S) (hZ27 : ∀ x1 x2 x3 x4 x5 S, Z27 x1 x2 x3 x4 x5 S → xm_W K 0 0 27 [(0, xm_r (some h)), (1, xm_i x1), (2, xm_i x2), (3, xm_i x3), (4, xm_i x4), (5, xm_i x5)] [] S) (hZ67 : ∀ x1 x2 x3 x4 x5 x6 x7 x8 S, Z67 x1 x2 x3 x4 x5 x6 x7 x8 S → xm_W K 0 0 67 [(0, xm_r (some h)), (1, xm_i x1), (2, xm_i x2), (3, xm_i x3), (4, xm_i x4), (5, xm_i x5), (6, xm_i x6), (7, xm_i x7), (8, xm_i x8)] [] S) (h1 : wp_X12_isRangeOf_112 h x1 x2 x3 x4 x5 x6 S g Z27 Z67) : xm_W K 0 0 112 [(0, xm_r (some h)), (1, xm_i x1), (2, xm_i x2), (3, xm_i x3), (4, xm_i x4), (5, xm_i x5), (6, xm_i x6)] [] S := by
  unfold wp_X12_isRangeOf_112 at h1
  refine x_iconst (v := (1 : Int32)) C dX12_isRangeOf_112 (by decide) ?_
  refine x_goto (tgt := 117) C dX12_isRangeOf_113 (by decide) ?_
  exact kp_X12_isRangeOf_117 h x1 x2 x3 x4 x5 x6 (1 : Int32) S C N hg hZ27 hZ67 h1
def wp_X12_isRangeOf_97 (h : Nat) (x1 : Int32) (x2 : Int32) (x3 : Int32) (x4 : Int32) (x5 : Int32) (x7 : Int32) (s0 : Int32) (S : xm_S) (g : Int32 → xm_S → Prop) (Z27 : Int32 → Int32 → Int32 → Int32 → Int32 → xm_S → Prop) (Z67 : Int32 → Int32 → Int32 → Int32 → Int32 → Int32 → Int32 → Int32 → xm_S → Prop) : Prop :=
  (¬ x7 = 0 → wp_X12_isRangeOf_112 h x1 x2 x3 x4 x5 s0 S g Z27 Z67) ∧ (x7 = 0 → st_t S h = some (12, 0) ∧ wp_X12_isOfPreview h x3 S (fun r9 S8 => (r9 = 0 → wp_X12_isRangeOf_117 h x1 x2 x3 x4 x5 s0 (0 : Int32) S8 g Z27 Z67) ∧ (¬ r9 = 0 → wp_X12_isRangeOf_112 h x1 x2 x3 x4 x5 s0 S8 g Z27 Z67)))
set_option maxRecDepth 100000 in
set_option maxHeartbeats 4000000 in
theorem kp_X12_isRangeOf_97 {K : xm_K} (h : Nat) (x1 : Int32) (x2 : Int32) (x3 : Int32) (x4 : Int32) (x5 : Int32) (x7 : Int32) (s0 : Int32) (S : xm_S) {g : Int32 → xm_S → Prop} {Z27 : Int32 → Int32 → Int32 → Int32 → Int32 → xm_S → Prop} {Z67 : Int32 → Int32 → Int32 → Int32 → Int32 → Int32 → Int32 → Int32 → xm_S → Prop} (C : xm_Cx K cX12_isRangeOf RX12 10 (some (FieldType.boolean)) rm_X12_isRangeOf) (N : xm_Nx K) (hg : ∀ v S, g v S → xm_q K (some (xm_i v)) S) (hZ27 : ∀ x1 x2 x3 x4 x5 S, Z27 x1 x2 x3 x4 x5 S → xm_W K 0 0 27 [(0, xm_r (some h)), (1, xm_i x1), (2, xm_i x2), (3, xm_i x3), (4, xm_i x4), (5, xm_i x5)] [] S) (hZ67 : ∀ x1 x2 x3 x4 x5 x6 x7 x8 S, Z67 x1 x2 x3 x4 x5 x6 x7 x8 S → xm_W K 0 0 67 [(0, xm_r (some h)), (1, xm_i x1), (2, xm_i x2), (3, xm_i x3), (4, xm_i x4), (5, xm_i x5), (6, xm_i x6), (7, xm_i x7), (8, xm_i x8)] [] S) (h1 : wp_X12_isRangeOf_97 h x1 x2 x3 x4 x5 x7 s0 S g Z27 Z67) : xm_W K 0 0 97 [(0, xm_r (some h)), (1, xm_i x1), (2, xm_i x2), (3, xm_i x3), (4, xm_i x4), (5, xm_i x5), (7, xm_i x7)] [xm_i s0] S := by
  unfold wp_X12_isRangeOf_97 at h1
  refine x_istore (L' := [(6, xm_i s0), (0, xm_r (some h)), (1, xm_i x1), (2, xm_i x2), (3, xm_i x3), (4, xm_i x4), (5, xm_i x5), (7, xm_i x7)]) C dX12_isRangeOf_97 (by decide) rfl ?_
  refine x_iload C 7 dX12_isRangeOf_99 rfl ?_
  refine x_if_ne (tgt := 112) C dX12_isRangeOf_101 (by decide) (fun z9 => ?_) (fun z9 => ?_)
  · have h1 := h1.1 z9
    refine x_keep (L' := [(0, xm_r (some h)), (1, xm_i x1), (2, xm_i x2), (3, xm_i x3), (4, xm_i x4), (5, xm_i x5), (6, xm_i s0)]) C [1, 2, 3, 4, 5, 6, 0] rfl ?_
    exact kp_X12_isRangeOf_112 h x1 x2 x3 x4 x5 s0 S C N hg hZ27 hZ67 h1
  · have h1 := h1.2 z9
    refine x_aload_n C 1 dX12_isRangeOf_104 rfl rfl ?_
    refine x_iload_n C 4 dX12_isRangeOf_105 rfl rfl ?_
    obtain ⟨ht7, h1⟩ := h1
    refine x_callV (rm' := rm_X12_isOfPreview) (n := h) C (kp_X12_isOfPreview_met h1) lk_101 gw_596 gw_597 xv_12 rfl rfl ht7 rfl (Nat.le_of_ble_eq_true rfl) ⟨Nat.le_of_ble_eq_true rfl, Nat.le_of_ble_eq_true rfl, (Nat.le_of_ble_eq_true rfl), (Nat.le_of_ble_eq_true rfl)⟩ dX12_isRangeOf_106 xm_kx (xm_ki (fun r9 S8 h1 => ?_))
    refine x_if_eq (tgt := 116) C dX12_isRangeOf_109 (by decide) (fun z9 => ?_) (fun z9 => ?_)
    · have h1 := h1.1 z9
      refine x_iconst (v := (0 : Int32)) C dX12_isRangeOf_116 (by decide) ?_
      refine x_keep (L' := [(0, xm_r (some h)), (1, xm_i x1), (2, xm_i x2), (3, xm_i x3), (4, xm_i x4), (5, xm_i x5), (6, xm_i s0)]) C [1, 2, 3, 4, 5, 6, 0] rfl ?_
      exact kp_X12_isRangeOf_117 h x1 x2 x3 x4 x5 s0 (0 : Int32) S8 C N hg hZ27 hZ67 h1
    · have h1 := h1.2 z9
      refine x_keep (L' := [(0, xm_r (some h)), (1, xm_i x1), (2, xm_i x2), (3, xm_i x3), (4, xm_i x4), (5, xm_i x5), (6, xm_i s0)]) C [1, 2, 3, 4, 5, 6, 0] rfl ?_
      exact kp_X12_isRangeOf_112 h x1 x2 x3 x4 x5 s0 S8 C N hg hZ27 hZ67 h1
def wp_X12_isRangeOf_96 (h : Nat) (x1 : Int32) (x2 : Int32) (x3 : Int32) (x4 : Int32) (x5 : Int32) (x7 : Int32) (S : xm_S) (g : Int32 → xm_S → Prop) (Z27 : Int32 → Int32 → Int32 → Int32 → Int32 → xm_S → Prop) (Z67 : Int32 → Int32 → Int32 → Int32 → Int32 → Int32 → Int32 → Int32 → xm_S → Prop) : Prop :=
  wp_X12_isRangeOf_97 h x1 x2 x3 x4 x5 x7 (0 : Int32) S g Z27 Z67
set_option maxRecDepth 100000 in
set_option maxHeartbeats 4000000 in
theorem kp_X12_isRangeOf_96 {K : xm_K} (h : Nat) (x1 : Int32) (x2 : Int32) (x3 : Int32) (x4 : Int32) (x5 : Int32) (x7 : Int32) (S : xm_S) {g : Int32 → xm_S → Prop} {Z27 : Int32 → Int32 → Int32 → Int32 → Int32 → xm_S → Prop} {Z67 : Int32 → Int32 → Int32 → Int32 → Int32 → Int32 → Int32 → Int32 → xm_S → Prop} (C : xm_Cx K cX12_isRangeOf RX12 10 (some (FieldType.boolean)) rm_X12_isRangeOf) (N : xm_Nx K) (hg : ∀ v S, g v S → xm_q K (some (xm_i v)) S) (hZ27 : ∀ x1 x2 x3 x4 x5 S, Z27 x1 x2 x3 x4 x5 S → xm_W K 0 0 27 [(0, xm_r (some h)), (1, xm_i x1), (2, xm_i x2), (3, xm_i x3), (4, xm_i x4), (5, xm_i x5)] [] S) (hZ67 : ∀ x1 x2 x3 x4 x5 x6 x7 x8 S, Z67 x1 x2 x3 x4 x5 x6 x7 x8 S → xm_W K 0 0 67 [(0, xm_r (some h)), (1, xm_i x1), (2, xm_i x2), (3, xm_i x3), (4, xm_i x4), (5, xm_i x5), (6, xm_i x6), (7, xm_i x7), (8, xm_i x8)] [] S) (h1 : wp_X12_isRangeOf_96 h x1 x2 x3 x4 x5 x7 S g Z27 Z67) : xm_W K 0 0 96 [(0, xm_r (some h)), (1, xm_i x1), (2, xm_i x2), (3, xm_i x3), (4, xm_i x4), (5, xm_i x5), (7, xm_i x7)] [] S := by
  unfold wp_X12_isRangeOf_96 at h1
  refine x_iconst (v := (0 : Int32)) C dX12_isRangeOf_96 (by decide) ?_
  exact kp_X12_isRangeOf_97 h x1 x2 x3 x4 x5 x7 (0 : Int32) S C N hg hZ27 hZ67 h1
def wp_X12_isRangeOf_67B (h : Nat) (x1 : Int32) (x2 : Int32) (x3 : Int32) (x4 : Int32) (x5 : Int32) (x6 : Int32) (x7 : Int32) (x8 : Int32) (S : xm_S) (g : Int32 → xm_S → Prop) (Z27 : Int32 → Int32 → Int32 → Int32 → Int32 → xm_S → Prop) (Z67 : Int32 → Int32 → Int32 → Int32 → Int32 → Int32 → Int32 → Int32 → xm_S → Prop) : Prop :=
  (x8 = 0 → wp_X12_isRangeOf_130 h x1 x2 x3 x4 x5 x6 x7 S g Z27) ∧ (¬ x8 = 0 → st_t S h = some (12, 0) ∧ wp_X12_readsTest h S (fun r12 S11 => (x6 = 0 → wp_X12_isRangeOf_96 h x1 x2 x3 x4 x5 x7 S11 g Z27 Z67) ∧ (¬ x6 = 0 → st_t S11 h = some (12, 0) ∧ wp_X12_isTestOf h x2 x3 S11 (fun r15 S14 => (r15 = 0 → wp_X12_isRangeOf_96 h x1 x2 x3 x4 x5 x7 S14 g Z27 Z67) ∧ (¬ r15 = 0 → wp_X12_isRangeOf_97 h x1 x2 x3 x4 x5 x7 (1 : Int32) S14 g Z27 Z67)))))
def wp_X12_isRangeOf_67 (h : Nat) (x1 : Int32) (x2 : Int32) (x3 : Int32) (x4 : Int32) (x5 : Int32) (x6 : Int32) (x7 : Int32) (x8 : Int32) (S : xm_S) (g : Int32 → xm_S → Prop) (Z27 : Int32 → Int32 → Int32 → Int32 → Int32 → xm_S → Prop) : Prop :=
  ∀ Z67 : Int32 → Int32 → Int32 → Int32 → Int32 → Int32 → Int32 → Int32 → xm_S → Prop, (∀ x1 x2 x3 x4 x5 x6 x7 x8 S, wp_X12_isRangeOf_67B h x1 x2 x3 x4 x5 x6 x7 x8 S g Z27 Z67 → Z67 x1 x2 x3 x4 x5 x6 x7 x8 S) → Z67 x1 x2 x3 x4 x5 x6 x7 x8 S
set_option maxRecDepth 100000 in
set_option maxHeartbeats 4000000 in
theorem kp_X12_isRangeOf_67B {K : xm_K} (h : Nat) (x1 : Int32) (x2 : Int32) (x3 : Int32) (x4 : Int32) (x5 : Int32) (x6 : Int32) (x7 : Int32) (x8 : Int32) (S : xm_S) {g : Int32 → xm_S → Prop} {Z27 : Int32 → Int32 → Int32 → Int32 → Int32 → xm_S → Prop} {Z67 : Int32 → Int32 → Int32 → Int32 → Int32 → Int32 → Int32 → Int32 → xm_S → Prop} (C : xm_Cx K cX12_isRangeOf RX12 10 (some (FieldType.boolean)) rm_X12_isRangeOf) (N : xm_Nx K) (hg : ∀ v S, g v S → xm_q K (some (xm_i v)) S) (hZ27 : ∀ x1 x2 x3 x4 x5 S, Z27 x1 x2 x3 x4 x5 S → xm_W K 0 0 27 [(0, xm_r (some h)), (1, xm_i x1), (2, xm_i x2), (3, xm_i x3), (4, xm_i x4), (5, xm_i x5)] [] S) (hZ67 : ∀ x1 x2 x3 x4 x5 x6 x7 x8 S, Z67 x1 x2 x3 x4 x5 x6 x7 x8 S → xm_W K 0 0 67 [(0, xm_r (some h)), (1, xm_i x1), (2, xm_i x2), (3, xm_i x3), (4, xm_i x4), (5, xm_i x5), (6, xm_i x6), (7, xm_i x7), (8, xm_i x8)] [] S) (h1 : wp_X12_isRangeOf_67B h x1 x2 x3 x4 x5 x6 x7 x8 S g Z27 Z67) : xm_W K 0 0 67 [(0, xm_r (some h)), (1, xm_i x1), (2, xm_i x2), (3, xm_i x3), (4, xm_i x4), (5, xm_i x5), (6, xm_i x6), (7, xm_i x7), (8, xm_i x8)] [] S := by
  unfold wp_X12_isRangeOf_67B at h1
  refine x_iload C 8 dX12_isRangeOf_67 rfl ?_
  refine x_if_eq (tgt := 130) C dX12_isRangeOf_69 (by decide) (fun z9 => ?_) (fun z9 => ?_)
  · have h1 := h1.1 z9
    refine x_keep (L' := [(0, xm_r (some h)), (1, xm_i x1), (2, xm_i x2), (3, xm_i x3), (4, xm_i x4), (5, xm_i x5), (6, xm_i x6), (7, xm_i x7)]) C [0, 1, 2, 3, 4, 5, 6, 7] rfl ?_
    exact kp_X12_isRangeOf_130 h x1 x2 x3 x4 x5 x6 x7 S C N hg hZ27 h1
  · have h1 := h1.2 z9
    refine x_aload_n C 0 dX12_isRangeOf_72 rfl rfl ?_
    obtain ⟨ht10, h1⟩ := h1
    refine x_callV (rm' := rm_X12_readsTest) (n := h) C (kp_X12_readsTest_met h1) lk_93 gw_563 gw_564 xv_12 rfl rfl ht10 rfl (Nat.le_of_ble_eq_true rfl) ⟨Nat.le_of_ble_eq_true rfl, Nat.le_of_ble_eq_true rfl, (Nat.le_of_ble_eq_true rfl), (Nat.le_of_ble_eq_true rfl)⟩ dX12_isRangeOf_73 xm_kx (xm_ki (fun r12 S11 h1 => ?_))
    refine x_istore (L' := [(9, xm_i r12), (0, xm_r (some h)), (1, xm_i x1), (2, xm_i x2), (3, xm_i x3), (4, xm_i x4), (5, xm_i x5), (6, xm_i x6), (7, xm_i x7), (8, xm_i x8)]) C dX12_isRangeOf_76 (by decide) rfl ?_
    refine x_iload C 7 dX12_isRangeOf_78 rfl ?_
    refine x_if_eq (tgt := 96) C dX12_isRangeOf_80 (by decide) (fun z9 => ?_) (fun z9 => ?_)
    · have h1 := h1.1 z9
      refine x_keep (L' := [(0, xm_r (some h)), (1, xm_i x1), (2, xm_i x2), (3, xm_i x3), (4, xm_i x4), (5, xm_i x5), (7, xm_i x7)]) C [1, 2, 3, 4, 5, 6, 8] rfl ?_
      exact kp_X12_isRangeOf_96 h x1 x2 x3 x4 x5 x7 S11 C N hg hZ27 hZ67 h1
    · have h1 := h1.2 z9
      refine x_aload_n C 1 dX12_isRangeOf_83 rfl rfl ?_
      refine x_iload_n C 3 dX12_isRangeOf_84 rfl rfl ?_
      refine x_iload_n C 4 dX12_isRangeOf_85 rfl rfl ?_
      obtain ⟨ht13, h1⟩ := h1
      refine x_callV (rm' := rm_X12_isTestOf) (n := h) C (kp_X12_isTestOf_met h1) lk_102 gw_600 gw_601 xv_12 rfl rfl ht13 rfl (Nat.le_of_ble_eq_true rfl) ⟨Nat.le_of_ble_eq_true rfl, Nat.le_of_ble_eq_true rfl, (Nat.le_of_ble_eq_true rfl), (Nat.le_of_ble_eq_true rfl)⟩ dX12_isRangeOf_86 xm_kx (xm_ki (fun r15 S14 h1 => ?_))
      refine x_if_eq (tgt := 96) C dX12_isRangeOf_89 (by decide) (fun z9 => ?_) (fun z9 => ?_)
      · have h1 := h1.1 z9
        refine x_keep (L' := [(0, xm_r (some h)), (1, xm_i x1), (2, xm_i x2), (3, xm_i x3), (4, xm_i x4), (5, xm_i x5), (7, xm_i x7)]) C [1, 2, 3, 4, 5, 6, 8] rfl ?_
        exact kp_X12_isRangeOf_96 h x1 x2 x3 x4 x5 x7 S14 C N hg hZ27 hZ67 h1
      · have h1 := h1.2 z9
        refine x_iconst (v := (1 : Int32)) C dX12_isRangeOf_92 (by decide) ?_
        refine x_goto (tgt := 97) C dX12_isRangeOf_93 (by decide) ?_
        refine x_keep (L' := [(0, xm_r (some h)), (1, xm_i x1), (2, xm_i x2), (3, xm_i x3), (4, xm_i x4), (5, xm_i x5), (7, xm_i x7)]) C [1, 2, 3, 4, 5, 6, 8] rfl ?_
        exact kp_X12_isRangeOf_97 h x1 x2 x3 x4 x5 x7 (1 : Int32) S14 C N hg hZ27 hZ67 h1
theorem kp_X12_isRangeOf_67 {K : xm_K} (h : Nat) (x1 : Int32) (x2 : Int32) (x3 : Int32) (x4 : Int32) (x5 : Int32) (x6 : Int32) (x7 : Int32) (x8 : Int32) (S : xm_S) {g : Int32 → xm_S → Prop} {Z27 : Int32 → Int32 → Int32 → Int32 → Int32 → xm_S → Prop} (C : xm_Cx K cX12_isRangeOf RX12 10 (some (FieldType.boolean)) rm_X12_isRangeOf) (N : xm_Nx K) (hg : ∀ v S, g v S → xm_q K (some (xm_i v)) S) (hZ27 : ∀ x1 x2 x3 x4 x5 S, Z27 x1 x2 x3 x4 x5 S → xm_W K 0 0 27 [(0, xm_r (some h)), (1, xm_i x1), (2, xm_i x2), (3, xm_i x3), (4, xm_i x4), (5, xm_i x5)] [] S) (h1 : wp_X12_isRangeOf_67 h x1 x2 x3 x4 x5 x6 x7 x8 S g Z27) : xm_W K 0 0 67 [(0, xm_r (some h)), (1, xm_i x1), (2, xm_i x2), (3, xm_i x3), (4, xm_i x4), (5, xm_i x5), (6, xm_i x6), (7, xm_i x7), (8, xm_i x8)] [] S :=
  h1 (fun x1 x2 x3 x4 x5 x6 x7 x8 S => xm_W K 0 0 67 [(0, xm_r (some h)), (1, xm_i x1), (2, xm_i x2), (3, xm_i x3), (4, xm_i x4), (5, xm_i x5), (6, xm_i x6), (7, xm_i x7), (8, xm_i x8)] [] S) (fun x1 x2 x3 x4 x5 x6 x7 x8 S hb => kp_X12_isRangeOf_67B h x1 x2 x3 x4 x5 x6 x7 x8 S C N hg hZ27 (fun x1 x2 x3 x4 x5 x6 x7 x8 S hz => hz) hb)
def wp_X12_isRangeOf_53 (h : Nat) (x1 : Int32) (x2 : Int32) (x3 : Int32) (x4 : Int32) (x5 : Int32) (x6 : Int32) (s0 : Int32) (S : xm_S) (g : Int32 → xm_S → Prop) (Z27 : Int32 → Int32 → Int32 → Int32 → Int32 → xm_S → Prop) : Prop :=
  st_t S h = some (12, 0) ∧ wp_X12_takes h (nI 42) S (fun r18 S17 => (¬ r18 = 0 → wp_X12_isRangeOf_130 h x1 x2 x3 x4 x5 x6 s0 S17 g Z27) ∧ (r18 = 0 → wp_X12_isRangeOf_67 h x1 x2 x3 x4 x5 x6 s0 (1 : Int32) S17 g Z27))
set_option maxRecDepth 100000 in
set_option maxHeartbeats 4000000 in
theorem kp_X12_isRangeOf_53 {K : xm_K} (h : Nat) (x1 : Int32) (x2 : Int32) (x3 : Int32) (x4 : Int32) (x5 : Int32) (x6 : Int32) (s0 : Int32) (S : xm_S) {g : Int32 → xm_S → Prop} {Z27 : Int32 → Int32 → Int32 → Int32 → Int32 → xm_S → Prop} (C : xm_Cx K cX12_isRangeOf RX12 10 (some (FieldType.boolean)) rm_X12_isRangeOf) (N : xm_Nx K) (hg : ∀ v S, g v S → xm_q K (some (xm_i v)) S) (hZ27 : ∀ x1 x2 x3 x4 x5 S, Z27 x1 x2 x3 x4 x5 S → xm_W K 0 0 27 [(0, xm_r (some h)), (1, xm_i x1), (2, xm_i x2), (3, xm_i x3), (4, xm_i x4), (5, xm_i x5)] [] S) (h1 : wp_X12_isRangeOf_53 h x1 x2 x3 x4 x5 x6 s0 S g Z27) : xm_W K 0 0 53 [(0, xm_r (some h)), (1, xm_i x1), (2, xm_i x2), (3, xm_i x3), (4, xm_i x4), (5, xm_i x5), (6, xm_i x6)] [xm_i s0] S := by
  unfold wp_X12_isRangeOf_53 at h1
  refine x_istore (L' := [(7, xm_i s0), (0, xm_r (some h)), (1, xm_i x1), (2, xm_i x2), (3, xm_i x3), (4, xm_i x4), (5, xm_i x5), (6, xm_i x6)]) C dX12_isRangeOf_53 (by decide) rfl ?_
  refine x_aload_n C 1 dX12_isRangeOf_55 rfl rfl ?_
  refine x_bipush (v := (nI 42)) C dX12_isRangeOf_56 (by decide) ?_
  obtain ⟨ht16, h1⟩ := h1
  refine x_callV (rm' := rm_X12_takes) (n := h) C (kp_X12_takes_met h1) lk_90 gw_549 gw_550 xv_12 rfl rfl ht16 rfl (Nat.le_of_ble_eq_true rfl) ⟨Nat.le_of_ble_eq_true rfl, Nat.le_of_ble_eq_true rfl, (Nat.le_of_ble_eq_true rfl), (Nat.le_of_ble_eq_true rfl)⟩ dX12_isRangeOf_58 xm_kx (xm_ki (fun r18 S17 h1 => ?_))
  refine x_if_ne (tgt := 130) C dX12_isRangeOf_61 (by decide) (fun z9 => ?_) (fun z9 => ?_)
  · have h1 := h1.1 z9
    refine x_keep (L' := [(0, xm_r (some h)), (1, xm_i x1), (2, xm_i x2), (3, xm_i x3), (4, xm_i x4), (5, xm_i x5), (6, xm_i x6), (7, xm_i s0)]) C [1, 2, 3, 4, 5, 6, 7, 0] rfl ?_
    exact kp_X12_isRangeOf_130 h x1 x2 x3 x4 x5 x6 s0 S17 C N hg hZ27 h1
  · have h1 := h1.2 z9
    refine x_iconst (v := (1 : Int32)) C dX12_isRangeOf_64 (by decide) ?_
    refine x_istore (L' := [(8, xm_i (1 : Int32)), (7, xm_i s0), (0, xm_r (some h)), (1, xm_i x1), (2, xm_i x2), (3, xm_i x3), (4, xm_i x4), (5, xm_i x5), (6, xm_i x6)]) C dX12_isRangeOf_65 (by decide) rfl ?_
    refine x_keep (L' := [(0, xm_r (some h)), (1, xm_i x1), (2, xm_i x2), (3, xm_i x3), (4, xm_i x4), (5, xm_i x5), (6, xm_i x6), (7, xm_i s0), (8, xm_i (1 : Int32))]) C [2, 3, 4, 5, 6, 7, 8, 1, 0] rfl ?_
    exact kp_X12_isRangeOf_67 h x1 x2 x3 x4 x5 x6 s0 (1 : Int32) S17 C N hg hZ27 h1
def wp_X12_isRangeOf_27B (h : Nat) (x1 : Int32) (x2 : Int32) (x3 : Int32) (x4 : Int32) (x5 : Int32) (S : xm_S) (g : Int32 → xm_S → Prop) (Z27 : Int32 → Int32 → Int32 → Int32 → Int32 → xm_S → Prop) : Prop :=
  st_t S h = some (12, 0) ∧ ∃ n20, (st_r S h 25) = some n20 ∧ ∃ z23, st_t S n20 = some (100, z23) ∧ vp_in x1 z23 ∧ ((st_i S n20 (x1).toNatClampNeg) ≤ (st_i S h 60) → (x5 = 0 ∨ x5 = 1) ∧ g x5 S) ∧ (¬ (st_i S n20 (x1).toNatClampNeg) ≤ (st_i S h 60) → (¬ x4 = 0 → wp_X12_isRangeOf_53 h x1 x2 x3 x4 x5 (1 : Int32) (0 : Int32) S g Z27) ∧ (x4 = 0 → wp_X12_isRangeOf_53 h x1 x2 x3 x4 x5 (1 : Int32) (1 : Int32) S g Z27))
def wp_X12_isRangeOf_27 (h : Nat) (x1 : Int32) (x2 : Int32) (x3 : Int32) (x4 : Int32) (x5 : Int32) (S : xm_S) (g : Int32 → xm_S → Prop) : Prop :=
  ∀ Z27 : Int32 → Int32 → Int32 → Int32 → Int32 → xm_S → Prop, (∀ x1 x2 x3 x4 x5 S, wp_X12_isRangeOf_27B h x1 x2 x3 x4 x5 S g Z27 → Z27 x1 x2 x3 x4 x5 S) → Z27 x1 x2 x3 x4 x5 S
set_option maxRecDepth 100000 in
set_option maxHeartbeats 4000000 in
theorem kp_X12_isRangeOf_27B {K : xm_K} (h : Nat) (x1 : Int32) (x2 : Int32) (x3 : Int32) (x4 : Int32) (x5 : Int32) (S : xm_S) {g : Int32 → xm_S → Prop} {Z27 : Int32 → Int32 → Int32 → Int32 → Int32 → xm_S → Prop} (C : xm_Cx K cX12_isRangeOf RX12 10 (some (FieldType.boolean)) rm_X12_isRangeOf) (N : xm_Nx K) (hg : ∀ v S, g v S → xm_q K (some (xm_i v)) S) (hZ27 : ∀ x1 x2 x3 x4 x5 S, Z27 x1 x2 x3 x4 x5 S → xm_W K 0 0 27 [(0, xm_r (some h)), (1, xm_i x1), (2, xm_i x2), (3, xm_i x3), (4, xm_i x4), (5, xm_i x5)] [] S) (h1 : wp_X12_isRangeOf_27B h x1 x2 x3 x4 x5 S g Z27) : xm_W K 0 0 27 [(0, xm_r (some h)), (1, xm_i x1), (2, xm_i x2), (3, xm_i x3), (4, xm_i x4), (5, xm_i x5)] [] S := by
  unfold wp_X12_isRangeOf_27B at h1
  refine x_aload_n C 0 dX12_isRangeOf_27 rfl rfl ?_
  obtain ⟨ht19, h1⟩ := h1
  refine x_getf_i (n := h) C rfl ht19 fd_158 (by decide) dX12_isRangeOf_28 ?_
  refine x_aload_n C 0 dX12_isRangeOf_31 rfl rfl ?_
  refine x_getf_r (n := h) C rfl ht19 fd_159 (by decide) dX12_isRangeOf_32 ?_
  refine x_iload_n C 1 dX12_isRangeOf_35 rfl rfl ?_
  obtain ⟨n20, hr21, h1⟩ := h1
  obtain ⟨z23, ht22, h1⟩ := h1
  obtain ⟨hi24, h1⟩ := h1
  refine x_iald (n := n20) C hr21 ht22 hi24 dX12_isRangeOf_36 ?_
  refine x_icmp_ge (tgt := 163) C dX12_isRangeOf_37 (by decide) (fun z9 => ?_) (fun z9 => ?_)
  · have h1 := h1.1 z9
    refine x_iload C 5 dX12_isRangeOf_163 rfl ?_
    exact x_zret C (Nat.le_of_ble_eq_true rfl) (Nat.le_of_ble_eq_true rfl) rfl h1.1 dX12_isRangeOf_165 (hg _ _ h1.2)
  · have h1 := h1.2 z9
    refine x_iconst (v := (1 : Int32)) C dX12_isRangeOf_40 (by decide) ?_
    refine x_istore (L' := [(6, xm_i (1 : Int32)), (0, xm_r (some h)), (1, xm_i x1), (2, xm_i x2), (3, xm_i x3), (4, xm_i x4), (5, xm_i x5)]) C dX12_isRangeOf_41 (by decide) rfl ?_
    refine x_iload C 5 dX12_isRangeOf_43 rfl ?_
    refine x_if_ne (tgt := 52) C dX12_isRangeOf_45 (by decide) (fun z9 => ?_) (fun z9 => ?_)
    · have h1 := h1.1 z9
      refine x_iconst (v := (0 : Int32)) C dX12_isRangeOf_52 (by decide) ?_
      refine x_keep (L' := [(0, xm_r (some h)), (1, xm_i x1), (2, xm_i x2), (3, xm_i x3), (4, xm_i x4), (5, xm_i x5), (6, xm_i (1 : Int32))]) C [1, 2, 3, 4, 5, 6, 0] rfl ?_
      exact kp_X12_isRangeOf_53 h x1 x2 x3 x4 x5 (1 : Int32) (0 : Int32) S C N hg hZ27 h1
    · have h1 := h1.2 z9
      refine x_iconst (v := (1 : Int32)) C dX12_isRangeOf_48 (by decide) ?_
      refine x_goto (tgt := 53) C dX12_isRangeOf_49 (by decide) ?_
      refine x_keep (L' := [(0, xm_r (some h)), (1, xm_i x1), (2, xm_i x2), (3, xm_i x3), (4, xm_i x4), (5, xm_i x5), (6, xm_i (1 : Int32))]) C [1, 2, 3, 4, 5, 6, 0] rfl ?_
      exact kp_X12_isRangeOf_53 h x1 x2 x3 x4 x5 (1 : Int32) (1 : Int32) S C N hg hZ27 h1
theorem kp_X12_isRangeOf_27 {K : xm_K} (h : Nat) (x1 : Int32) (x2 : Int32) (x3 : Int32) (x4 : Int32) (x5 : Int32) (S : xm_S) {g : Int32 → xm_S → Prop} (C : xm_Cx K cX12_isRangeOf RX12 10 (some (FieldType.boolean)) rm_X12_isRangeOf) (N : xm_Nx K) (hg : ∀ v S, g v S → xm_q K (some (xm_i v)) S)  (h1 : wp_X12_isRangeOf_27 h x1 x2 x3 x4 x5 S g) : xm_W K 0 0 27 [(0, xm_r (some h)), (1, xm_i x1), (2, xm_i x2), (3, xm_i x3), (4, xm_i x4), (5, xm_i x5)] [] S :=
  h1 (fun x1 x2 x3 x4 x5 S => xm_W K 0 0 27 [(0, xm_r (some h)), (1, xm_i x1), (2, xm_i x2), (3, xm_i x3), (4, xm_i x4), (5, xm_i x5)] [] S) (fun x1 x2 x3 x4 x5 S hb => kp_X12_isRangeOf_27B h x1 x2 x3 x4 x5 S C N hg (fun x1 x2 x3 x4 x5 S hz => hz) hb)
def wp_X12_isRangeOf_12 (h : Nat) (x1 : Int32) (x2 : Int32) (x3 : Int32) (s0 : Int32) (S : xm_S) (g : Int32 → xm_S → Prop) : Prop :=
  st_t S h = some (12, 0) ∧ ∀ S26, S26 = st_pi S h 61 x1 → ∀ S28, S28 = st_pi S26 h 60 (0 : Int32) → wp_X12_isRangeOf_27 h x1 x2 x3 s0 (0 : Int32) S28 g
set_option maxRecDepth 100000 in
set_option maxHeartbeats 4000000 in
theorem kp_X12_isRangeOf_12 {K : xm_K} (h : Nat) (x1 : Int32) (x2 : Int32) (x3 : Int32) (s0 : Int32) (S : xm_S) {g : Int32 → xm_S → Prop} (C : xm_Cx K cX12_isRangeOf RX12 10 (some (FieldType.boolean)) rm_X12_isRangeOf) (N : xm_Nx K) (hg : ∀ v S, g v S → xm_q K (some (xm_i v)) S)  (h1 : wp_X12_isRangeOf_12 h x1 x2 x3 s0 S g) : xm_W K 0 0 12 [(0, xm_r (some h)), (1, xm_i x1), (2, xm_i x2), (3, xm_i x3)] [xm_i s0] S := by
  unfold wp_X12_isRangeOf_12 at h1
  refine x_istore (L' := [(4, xm_i s0), (0, xm_r (some h)), (1, xm_i x1), (2, xm_i x2), (3, xm_i x3)]) C dX12_isRangeOf_12 (by decide) rfl ?_
  refine x_iconst (v := (0 : Int32)) C dX12_isRangeOf_14 (by decide) ?_
  refine x_istore (L' := [(5, xm_i (0 : Int32)), (4, xm_i s0), (0, xm_r (some h)), (1, xm_i x1), (2, xm_i x2), (3, xm_i x3)]) C dX12_isRangeOf_15 (by decide) rfl ?_
  refine x_aload_n C 2 dX12_isRangeOf_17 rfl rfl ?_
  refine x_iload_n C 3 dX12_isRangeOf_18 rfl rfl ?_
  obtain ⟨ht25, h1⟩ := h1
  refine x_putf_i (n := h) C rfl ht25 fd_160 xc_12 (by decide) rfl ⟨rfl, rfl⟩ dX12_isRangeOf_19 ?_
  refine x_topS (fun S26 e27 => ?_)
  have h1 := h1 S26 e27
  refine x_aload_n C 2 dX12_isRangeOf_22 rfl rfl ?_
  refine x_iconst (v := (0 : Int32)) C dX12_isRangeOf_23 (by decide) ?_
  refine x_putf_i (n := h) C rfl (tk_p e27 ht25) fd_158 xc_12 (by decide) rfl ⟨rfl, rfl⟩ dX12_isRangeOf_24 ?_
  refine x_topS (fun S28 e29 => ?_)
  have h1 := h1 S28 e29
  refine x_keep (L' := [(0, xm_r (some h)), (1, xm_i x1), (2, xm_i x2), (3, xm_i x3), (4, xm_i s0), (5, xm_i (0 : Int32))]) C [2, 3, 4, 5, 1, 0] rfl ?_
  exact kp_X12_isRangeOf_27 h x1 x2 x3 s0 (0 : Int32) S28 C N hg  h1
def wp_X12_isRangeOf (h : Nat) (x1 : Int32) (x2 : Int32) (x3 : Int32) (S : xm_S) (g : Int32 → xm_S → Prop) : Prop :=
  ((x3 - x3 / (nI 10) * (nI 10)) ≤ 0 → wp_X12_isRangeOf_12 h x1 x2 x3 (0 : Int32) S g) ∧ (¬ (x3 - x3 / (nI 10) * (nI 10)) ≤ 0 → wp_X12_isRangeOf_12 h x1 x2 x3 (1 : Int32) S g)
set_option maxRecDepth 100000 in
set_option maxHeartbeats 4000000 in
theorem kp_X12_isRangeOf {K : xm_K} (h : Nat) (x1 : Int32) (x2 : Int32) (x3 : Int32) (S : xm_S) {g : Int32 → xm_S → Prop} (C : xm_Cx K cX12_isRangeOf RX12 10 (some (FieldType.boolean)) rm_X12_isRangeOf) (N : xm_Nx K) (hg : ∀ v S, g v S → xm_q K (some (xm_i v)) S)  (h1 : wp_X12_isRangeOf h x1 x2 x3 S g) : xm_W K 0 0 0 [(0, xm_r (some h)), (1, xm_i x1), (2, xm_i x2), (3, xm_i x3)] [] S := by
  unfold wp_X12_isRangeOf at h1
  refine x_iload_n C 3 dX12_isRangeOf_0 rfl rfl ?_
  refine x_bipush (v := (nI 10)) C dX12_isRangeOf_1 (by decide) ?_
  refine x_irem C dX12_isRangeOf_3 (by decide) ?_
  refine x_if_le (tgt := 11) C dX12_isRangeOf_4 (by decide) (fun z9 => ?_) (fun z9 => ?_)
  · have h1 := h1.1 z9
    refine x_iconst (v := (0 : Int32)) C dX12_isRangeOf_11 (by decide) ?_
    exact kp_X12_isRangeOf_12 h x1 x2 x3 (0 : Int32) S C N hg  h1
  · have h1 := h1.2 z9
    refine x_iconst (v := (1 : Int32)) C dX12_isRangeOf_7 (by decide) ?_
    refine x_goto (tgt := 12) C dX12_isRangeOf_8 (by decide) ?_
    exact kp_X12_isRangeOf_12 h x1 x2 x3 (1 : Int32) S C N hg  h1
theorem kp_X12_isRangeOf_met {h : Nat} {x1 : Int32} {x2 : Int32} {x3 : Int32} {S : xm_S} {g : Int32 → xm_S → Prop}  (h1 : wp_X12_isRangeOf h x1 x2 x3 S g) : xm_Met yX12_isRangeOf cX12_isRangeOf 10 (some (FieldType.boolean)) rm_X12_isRangeOf [xm_r (some h), xm_i x1, xm_i x2, xm_i x3] S (xm_qi g) xm_nox :=
  xm_ofW RX12 (by decide +kernel) rfl (Nat.le_of_ble_eq_true rfl) (fun K C N hq hx hi => kp_X12_isRangeOf h x1 x2 x3 S C N (fun v S h => by rw [hq]; exact ⟨v, rfl, h⟩)  h1)
def rm_X12_advised : Room := { frames := 7, cells := 0, slots := 0, locals := 155 }
theorem dX12_advised_0 : decode cX12_advised 0 = .ok (.aload_n 0, 1) := by decide +kernel
theorem dX12_advised_1 : decode cX12_advised 1 = .ok (.iload_n 1, 1) := by decide +kernel
theorem dX12_advised_2 : decode cX12_advised 2 = .ok (.invokestatic 302, 3) := by decide +kernel
theorem dX12_advised_5 : decode cX12_advised 5 = .ok (.ifCond .ne 7, 3) := by decide +kernel
theorem dX12_advised_8 : decode cX12_advised 8 = .ok (.iconst 1, 1) := by decide +kernel
theorem dX12_advised_9 : decode cX12_advised 9 = .ok (.goto 18, 3) := by decide +kernel
theorem dX12_advised_12 : decode cX12_advised 12 = .ok (.iload_n 2, 1) := by decide +kernel
theorem dX12_advised_13 : decode cX12_advised 13 = .ok (.iconst 1, 1) := by decide +kernel
theorem dX12_advised_14 : decode cX12_advised 14 = .ok (.bipush 9, 2) := by decide +kernel
theorem dX12_advised_16 : decode cX12_advised 16 = .ok (.invokestatic 172, 3) := by decide +kernel
theorem dX12_advised_19 : decode cX12_advised 19 = .ok (.ifCond .eq 7, 3) := by decide +kernel
theorem dX12_advised_22 : decode cX12_advised 22 = .ok (.iconst 0, 1) := by decide +kernel
theorem dX12_advised_23 : decode cX12_advised 23 = .ok (.goto 4, 3) := by decide +kernel
theorem dX12_advised_26 : decode cX12_advised 26 = .ok (.iconst 2, 1) := by decide +kernel
theorem dX12_advised_27 : decode cX12_advised 27 = .ok (.invokevirtual 182, 3) := by decide +kernel
theorem dX12_advised_30 : decode cX12_advised 30 = .ok (.ifCond .ne 5, 3) := by decide +kernel
theorem dX12_advised_33 : decode cX12_advised 33 = .ok (.iconst 0, 1) := by decide +kernel
theorem dX12_advised_34 : decode cX12_advised 34 = .ok (.ireturn, 1) := by decide +kernel
theorem dX12_advised_35 : decode cX12_advised 35 = .ok (.iconst 0, 1) := by decide +kernel
theorem dX12_advised_36 : decode cX12_advised 36 = .ok (.istore_n 3, 1) := by decide +kernel
theorem dX12_advised_37 : decode cX12_advised 37 = .ok (.iconst 0, 1) := by decide +kernel
theorem dX12_advised_38 : decode cX12_advised 38 = .ok (.istore 4, 2) := by decide +kernel
theorem dX12_advised_40 : decode cX12_advised 40 = .ok (.iload 4, 2) := by decide +kernel
theorem dX12_advised_42 : decode cX12_advised 42 = .ok (.aload_n 0, 1) := by decide +kernel
theorem dX12_advised_43 : decode cX12_advised 43 = .ok (.getfield 317, 3) := by decide +kernel
theorem dX12_advised_46 : decode cX12_advised 46 = .ok (.if_icmp .ge 104, 3) := by decide +kernel
theorem dX12_advised_49 : decode cX12_advised 49 = .ok (.aload_n 0, 1) := by decide +kernel
theorem dX12_advised_50 : decode cX12_advised 50 = .ok (.getfield 68, 3) := by decide +kernel
theorem dX12_advised_53 : decode cX12_advised 53 = .ok (.iload 4, 2) := by decide +kernel
theorem dX12_advised_55 : decode cX12_advised 55 = .ok (.iaload, 1) := by decide +kernel
theorem dX12_advised_56 : decode cX12_advised 56 = .ok (.istore 5, 2) := by decide +kernel
theorem dX12_advised_58 : decode cX12_advised 58 = .ok (.aload_n 0, 1) := by decide +kernel
theorem dX12_advised_59 : decode cX12_advised 59 = .ok (.getfield 90, 3) := by decide +kernel
theorem dX12_advised_62 : decode cX12_advised 62 = .ok (.bipush 6, 2) := by decide +kernel
theorem dX12_advised_64 : decode cX12_advised 64 = .ok (.iload_n 1, 1) := by decide +kernel
theorem dX12_advised_65 : decode cX12_advised 65 = .ok (.imul, 1) := by decide +kernel
theorem dX12_advised_66 : decode cX12_advised 66 = .ok (.iload 5, 2) := by decide +kernel
theorem dX12_advised_68 : decode cX12_advised 68 = .ok (.iadd, 1) := by decide +kernel
theorem dX12_advised_69 : decode cX12_advised 69 = .ok (.iaload, 1) := by decide +kernel
theorem dX12_advised_70 : decode cX12_advised 70 = .ok (.istore 6, 2) := by decide +kernel
theorem dX12_advised_72 : decode cX12_advised 72 = .ok (.iload 6, 2) := by decide +kernel
theorem dX12_advised_74 : decode cX12_advised 74 = .ok (.iconst (-1), 1) := by decide +kernel
theorem dX12_advised_75 : decode cX12_advised 75 = .ok (.if_icmp .eq 50, 3) := by decide +kernel
theorem dX12_advised_78 : decode cX12_advised 78 = .ok (.aload_n 0, 1) := by decide +kernel
theorem dX12_advised_79 : decode cX12_advised 79 = .ok (.getfield 71, 3) := by decide +kernel
theorem dX12_advised_82 : decode cX12_advised 82 = .ok (.iload 4, 2) := by decide +kernel
theorem dX12_advised_84 : decode cX12_advised 84 = .ok (.iaload, 1) := by decide +kernel
theorem dX12_advised_85 : decode cX12_advised 85 = .ok (.iload_n 2, 1) := by decide +kernel
theorem dX12_advised_86 : decode cX12_advised 86 = .ok (.if_icmp .lt 39, 3) := by decide +kernel
theorem dX12_advised_89 : decode cX12_advised 89 = .ok (.aload_n 0, 1) := by decide +kernel
theorem dX12_advised_90 : decode cX12_advised 90 = .ok (.sipush 148, 3) := by decide +kernel
theorem dX12_advised_93 : decode cX12_advised 93 = .ok (.iload 4, 2) := by decide +kernel
theorem dX12_advised_95 : decode cX12_advised 95 = .ok (.iadd, 1) := by decide +kernel
theorem dX12_advised_96 : decode cX12_advised 96 = .ok (.aload_n 0, 1) := by decide +kernel
theorem dX12_advised_97 : decode cX12_advised 97 = .ok (.getfield 7, 3) := by decide +kernel
theorem dX12_advised_100 : decode cX12_advised 100 = .ok (.iload 5, 2) := by decide +kernel
theorem dX12_advised_102 : decode cX12_advised 102 = .ok (.iaload, 1) := by decide +kernel
theorem dX12_advised_103 : decode cX12_advised 103 = .ok (.aload_n 0, 1) := by decide +kernel
theorem dX12_advised_104 : decode cX12_advised 104 = .ok (.getfield 16, 3) := by decide +kernel
theorem dX12_advised_107 : decode cX12_advised 107 = .ok (.iconst 4, 1) := by decide +kernel
theorem dX12_advised_108 : decode cX12_advised 108 = .ok (.iload 5, 2) := by decide +kernel
theorem dX12_advised_110 : decode cX12_advised 110 = .ok (.imul, 1) := by decide +kernel
theorem dX12_advised_111 : decode cX12_advised 111 = .ok (.iload 6, 2) := by decide +kernel
theorem dX12_advised_113 : decode cX12_advised 113 = .ok (.iadd, 1) := by decide +kernel
theorem dX12_advised_114 : decode cX12_advised 114 = .ok (.iaload, 1) := by decide +kernel
theorem dX12_advised_115 : decode cX12_advised 115 = .ok (.invokevirtual 251, 3) := by decide +kernel
theorem dX12_advised_118 : decode cX12_advised 118 = .ok (.ifCond .eq 7, 3) := by decide +kernel
theorem dX12_advised_121 : decode cX12_advised 121 = .ok (.iconst 1, 1) := by decide +kernel
theorem dX12_advised_122 : decode cX12_advised 122 = .ok (.goto 4, 3) := by decide +kernel
theorem dX12_advised_125 : decode cX12_advised 125 = .ok (.iconst 0, 1) := by decide +kernel
theorem dX12_advised_126 : decode cX12_advised 126 = .ok (.istore 7, 2) := by decide +kernel
theorem dX12_advised_128 : decode cX12_advised 128 = .ok (.iload_n 3, 1) := by decide +kernel
theorem dX12_advised_129 : decode cX12_advised 129 = .ok (.iload 7, 2) := by decide +kernel
theorem dX12_advised_131 : decode cX12_advised 131 = .ok (.ifCond .eq 10, 3) := by decide +kernel
theorem dX12_advised_134 : decode cX12_advised 134 = .ok (.iconst 1, 1) := by decide +kernel
theorem dX12_advised_135 : decode cX12_advised 135 = .ok (.iload 5, 2) := by decide +kernel
theorem dX12_advised_137 : decode cX12_advised 137 = .ok (.ishl, 1) := by decide +kernel
theorem dX12_advised_138 : decode cX12_advised 138 = .ok (.goto 4, 3) := by decide +kernel
theorem dX12_advised_141 : decode cX12_advised 141 = .ok (.iconst 0, 1) := by decide +kernel
theorem dX12_advised_142 : decode cX12_advised 142 = .ok (.ior, 1) := by decide +kernel
theorem dX12_advised_143 : decode cX12_advised 143 = .ok (.istore_n 3, 1) := by decide +kernel
theorem dX12_advised_144 : decode cX12_advised 144 = .ok (.iinc 4 1, 3) := by decide +kernel
theorem dX12_advised_147 : decode cX12_advised 147 = .ok (.goto (-107), 3) := by decide +kernel
theorem dX12_advised_150 : decode cX12_advised 150 = .ok (.iload_n 3, 1) := by decide +kernel
theorem dX12_advised_151 : decode cX12_advised 151 = .ok (.ireturn, 1) := by decide +kernel
def wp_X12_advised_142 (h : Nat) (x1 : Int32) (x2 : Int32) (x4 : Int32) (s0 : Int32) (s1 : Int32) (S : xm_S) (g : Int32 → xm_S → Prop) (Z40 : Int32 → Int32 → Int32 → Int32 → xm_S → Prop) : Prop :=
  ∀ y1, y1 = (s1 ||| s0) → ∀ y3, y3 = (x4 + (1 : Int32)) → Z40 x1 x2 y1 y3 S
set_option maxRecDepth 100000 in
set_option maxHeartbeats 4000000 in
theorem kp_X12_advised_142 {K : xm_K} (h : Nat) (x1 : Int32) (x2 : Int32) (x4 : Int32) (s0 : Int32) (s1 : Int32) (S : xm_S) {g : Int32 → xm_S → Prop} {Z40 : Int32 → Int32 → Int32 → Int32 → xm_S → Prop} (C : xm_Cx K cX12_advised RX12 8 (some (FieldType.int)) rm_X12_advised) (N : xm_Nx K) (hg : ∀ v S, g v S → xm_q K (some (xm_i v)) S) (hZ40 : ∀ x1 x2 x3 x4 S, Z40 x1 x2 x3 x4 S → xm_W K 0 0 40 [(0, xm_r (some h)), (1, xm_i x1), (2, xm_i x2), (3, xm_i x3), (4, xm_i x4)] [] S) (h1 : wp_X12_advised_142 h x1 x2 x4 s0 s1 S g Z40) : xm_W K 0 0 142 [(0, xm_r (some h)), (1, xm_i x1), (2, xm_i x2), (4, xm_i x4)] [xm_i s0, xm_i s1] S := by
  unfold wp_X12_advised_142 at h1
  refine x_ior C dX12_advised_142 ?_
  refine x_topi (fun y1 e2 => ?_)
  have h1 := h1 y1 e2
  refine x_istore_n (L' := [(3, xm_i y1), (0, xm_r (some h)), (1, xm_i x1), (2, xm_i x2), (4, xm_i x4)]) C dX12_advised_143 rfl (by decide) rfl ?_
  obtain ⟨y3, e4⟩ : ∃ y3, y3 = (x4 + (1 : Int32)) := ⟨_, rfl⟩
  have h1 := h1 y3 e4
  refine x_iinc (v := y3) (L' := [(4, xm_i y3), (3, xm_i y1), (0, xm_r (some h)), (1, xm_i x1), (2, xm_i x2)]) C 4 dX12_advised_144 rfl (by rw [e4]; rfl) (by decide) rfl ?_
  refine x_goto (tgt := 40) C dX12_advised_147 (by decide) ?_
  refine x_keep (L' := [(0, xm_r (some h)), (1, xm_i x1), (2, xm_i x2), (3, xm_i y1), (4, xm_i y3)]) C [2, 3, 4, 1, 0] rfl ?_
  exact hZ40 x1 x2 y1 y3 S h1
def wp_X12_advised_126 (h : Nat) (x1 : Int32) (x2 : Int32) (x3 : Int32) (x4 : Int32) (x5 : Int32) (s0 : Int32) (S : xm_S) (g : Int32 → xm_S → Prop) (Z40 : Int32 → Int32 → Int32 → Int32 → xm_S → Prop) : Prop :=
  (s0 = 0 → wp_X12_advised_142 h x1 x2 x4 (0 : Int32) x3 S g Z40) ∧ (¬ s0 = 0 → wp_X12_advised_142 h x1 x2 x4 ((1 : Int32) <<< (x5 &&& 31)) x3 S g Z40)
set_option maxRecDepth 100000 in
set_option maxHeartbeats 4000000 in
theorem kp_X12_advised_126 {K : xm_K} (h : Nat) (x1 : Int32) (x2 : Int32) (x3 : Int32) (x4 : Int32) (x5 : Int32) (s0 : Int32) (S : xm_S) {g : Int32 → xm_S → Prop} {Z40 : Int32 → Int32 → Int32 → Int32 → xm_S → Prop} (C : xm_Cx K cX12_advised RX12 8 (some (FieldType.int)) rm_X12_advised) (N : xm_Nx K) (hg : ∀ v S, g v S → xm_q K (some (xm_i v)) S) (hZ40 : ∀ x1 x2 x3 x4 S, Z40 x1 x2 x3 x4 S → xm_W K 0 0 40 [(0, xm_r (some h)), (1, xm_i x1), (2, xm_i x2), (3, xm_i x3), (4, xm_i x4)] [] S) (h1 : wp_X12_advised_126 h x1 x2 x3 x4 x5 s0 S g Z40) : xm_W K 0 0 126 [(0, xm_r (some h)), (1, xm_i x1), (2, xm_i x2), (3, xm_i x3), (4, xm_i x4), (5, xm_i x5)] [xm_i s0] S := by
  unfold wp_X12_advised_126 at h1
  refine x_istore (L' := [(7, xm_i s0), (0, xm_r (some h)), (1, xm_i x1), (2, xm_i x2), (3, xm_i x3), (4, xm_i x4), (5, xm_i x5)]) C dX12_advised_126 (by decide) rfl ?_
  refine x_iload_n C 4 dX12_advised_128 rfl rfl ?_
  refine x_iload C 0 dX12_advised_129 rfl ?_
  refine x_if_eq (tgt := 141) C dX12_advised_131 (by decide) (fun z9 => ?_) (fun z9 => ?_)
  · have h1 := h1.1 z9
    refine x_iconst (v := (0 : Int32)) C dX12_advised_141 (by decide) ?_
    refine x_keep (L' := [(0, xm_r (some h)), (1, xm_i x1), (2, xm_i x2), (4, xm_i x4)]) C [1, 2, 3, 5] rfl ?_
    exact kp_X12_advised_142 h x1 x2 x4 (0 : Int32) x3 S C N hg hZ40 h1
  · have h1 := h1.2 z9
    refine x_iconst (v := (1 : Int32)) C dX12_advised_134 (by decide) ?_
    refine x_iload C 6 dX12_advised_135 rfl ?_
    refine x_ishl C dX12_advised_137 ?_
    refine x_goto (tgt := 142) C dX12_advised_138 (by decide) ?_
    refine x_keep (L' := [(0, xm_r (some h)), (1, xm_i x1), (2, xm_i x2), (4, xm_i x4)]) C [1, 2, 3, 5] rfl ?_
    exact kp_X12_advised_142 h x1 x2 x4 ((1 : Int32) <<< (x5 &&& 31)) x3 S C N hg hZ40 h1
def wp_X12_advised_125 (h : Nat) (x1 : Int32) (x2 : Int32) (x3 : Int32) (x4 : Int32) (x5 : Int32) (S : xm_S) (g : Int32 → xm_S → Prop) (Z40 : Int32 → Int32 → Int32 → Int32 → xm_S → Prop) : Prop :=
  wp_X12_advised_126 h x1 x2 x3 x4 x5 (0 : Int32) S g Z40
set_option maxRecDepth 100000 in
set_option maxHeartbeats 4000000 in
theorem kp_X12_advised_125 {K : xm_K} (h : Nat) (x1 : Int32) (x2 : Int32) (x3 : Int32) (x4 : Int32) (x5 : Int32) (S : xm_S) {g : Int32 → xm_S → Prop} {Z40 : Int32 → Int32 → Int32 → Int32 → xm_S → Prop} (C : xm_Cx K cX12_advised RX12 8 (some (FieldType.int)) rm_X12_advised) (N : xm_Nx K) (hg : ∀ v S, g v S → xm_q K (some (xm_i v)) S) (hZ40 : ∀ x1 x2 x3 x4 S, Z40 x1 x2 x3 x4 S → xm_W K 0 0 40 [(0, xm_r (some h)), (1, xm_i x1), (2, xm_i x2), (3, xm_i x3), (4, xm_i x4)] [] S) (h1 : wp_X12_advised_125 h x1 x2 x3 x4 x5 S g Z40) : xm_W K 0 0 125 [(0, xm_r (some h)), (1, xm_i x1), (2, xm_i x2), (3, xm_i x3), (4, xm_i x4), (5, xm_i x5)] [] S := by
  unfold wp_X12_advised_125 at h1
  refine x_iconst (v := (0 : Int32)) C dX12_advised_125 (by decide) ?_
  exact kp_X12_advised_126 h x1 x2 x3 x4 x5 (0 : Int32) S C N hg hZ40 h1
def wp_X12_advised_40B (h : Nat) (x1 : Int32) (x2 : Int32) (x3 : Int32) (x4 : Int32) (S : xm_S) (g : Int32 → xm_S → Prop) (Z40 : Int32 → Int32 → Int32 → Int32 → xm_S → Prop) : Prop :=
  st_t S h = some (12, 0) ∧ ((st_i S h 21) ≤ x4 → g x3 S) ∧ (¬ (st_i S h 21) ≤ x4 → ∃ n6, (st_r S h 22) = some n6 ∧ ∃ z9, st_t S n6 = some (100, z9) ∧ vp_in x4 z9 ∧ ∀ y11, y11 = (st_i S n6 (x4).toNatClampNeg) → ∃ n13, (st_r S h 29) = some n13 ∧ ∃ z16, st_t S n13 = some (100, z16) ∧ vp_in (((nI 6) * x1) + y11) z16 ∧ ∀ y18, y18 = (st_i S n13 ((((nI 6) * x1) + y11)).toNatClampNeg) → (y18 = (-1 : Int32) → wp_X12_advised_125 h x1 x2 x3 x4 y11 S g Z40) ∧ (¬ y18 = (-1 : Int32) → ∃ n20, (st_r S h 23) = some n20 ∧ ∃ z23, st_t S n20 = some (100, z23) ∧ vp_in x4 z23 ∧ ((st_i S n20 (x4).toNatClampNeg) < x2 → wp_X12_advised_125 h x1 x2 x3 x4 y11 S g Z40) ∧ (¬ (st_i S n20 (x4).toNatClampNeg) < x2 → ∃ n25, (st_r S h 1) = some n25 ∧ ∃ z28, st_t S n25 = some (100, z28) ∧ vp_in y11 z28 ∧ ∃ n30, (st_r S h 3) = some n30 ∧ ∃ z33, st_t S n30 = some (100, z33) ∧ vp_in (((nI 4) * y11) + y18) z33 ∧ wp_X12_isRangeOf h ((nI 148) + x4) (st_i S n25 (y11).toNatClampNeg) (st_i S n30 ((((nI 4) * y11) + y18)).toNatClampNeg) S (fun r36 S35 => (r36 = 0 → wp_X12_advised_125 h x1 x2 x3 x4 y11 S35 g Z40) ∧ (¬ r36 = 0 → wp_X12_advised_126 h x1 x2 x3 x4 y11 (1 : Int32) S35 g Z40)))))
def wp_X12_advised_40 (h : Nat) (x1 : Int32) (x2 : Int32) (x3 : Int32) (x4 : Int32) (S : xm_S) (g : Int32 → xm_S → Prop) : Prop :=
  ∀ Z40 : Int32 → Int32 → Int32 → Int32 → xm_S → Prop, (∀ x1 x2 x3 x4 S, wp_X12_advised_40B h x1 x2 x3 x4 S g Z40 → Z40 x1 x2 x3 x4 S) → Z40 x1 x2 x3 x4 S
set_option maxRecDepth 100000 in
set_option maxHeartbeats 4000000 in
theorem kp_X12_advised_40B {K : xm_K} (h : Nat) (x1 : Int32) (x2 : Int32) (x3 : Int32) (x4 : Int32) (S : xm_S) {g : Int32 → xm_S → Prop} {Z40 : Int32 → Int32 → Int32 → Int32 → xm_S → Prop} (C : xm_Cx K cX12_advised RX12 8 (some (FieldType.int)) rm_X12_advised) (N : xm_Nx K) (hg : ∀ v S, g v S → xm_q K (some (xm_i v)) S) (hZ40 : ∀ x1 x2 x3 x4 S, Z40 x1 x2 x3 x4 S → xm_W K 0 0 40 [(0, xm_r (some h)), (1, xm_i x1), (2, xm_i x2), (3, xm_i x3), (4, xm_i x4)] [] S) (h1 : wp_X12_advised_40B h x1 x2 x3 x4 S g Z40) : xm_W K 0 0 40 [(0, xm_r (some h)), (1, xm_i x1), (2, xm_i x2), (3, xm_i x3), (4, xm_i x4)] [] S := by
  unfold wp_X12_advised_40B at h1
  refine x_iload C 4 dX12_advised_40 rfl ?_
  refine x_aload_n C 0 dX12_advised_42 rfl rfl ?_
  obtain ⟨ht5, h1⟩ := h1
  refine x_getf_i (n := h) C rfl ht5 fd_167 (by decide) dX12_advised_43 ?_
  refine x_icmp_ge (tgt := 150) C dX12_advised_46 (by decide) (fun z9 => ?_) (fun z9 => ?_)
  · have h1 := h1.1 z9
    refine x_iload_n C 3 dX12_advised_150 rfl rfl ?_
    exact x_iret C (Nat.le_of_ble_eq_true rfl) (Nat.le_of_ble_eq_true rfl) rfl dX12_advised_151 (hg _ _ h1)
  · have h1 := h1.2 z9
    refine x_aload_n C 0 dX12_advised_49 rfl rfl ?_
    refine x_getf_r (n := h) C rfl ht5 fd_166 (by decide) dX12_advised_50 ?_
    refine x_iload C 4 dX12_advised_53 rfl ?_
    obtain ⟨n6, hr7, h1⟩ := h1
    obtain ⟨z9, ht8, h1⟩ := h1
    obtain ⟨hi10, h1⟩ := h1
    refine x_iald (n := n6) C hr7 ht8 hi10 dX12_advised_55 ?_
    refine x_topi (fun y11 e12 => ?_)
    have h1 := h1 y11 e12
    refine x_istore (L' := [(5, xm_i y11), (0, xm_r (some h)), (1, xm_i x1), (2, xm_i x2), (3, xm_i x3), (4, xm_i x4)]) C dX12_advised_56 (by decide) rfl ?_
    refine x_aload_n C 1 dX12_advised_58 rfl rfl ?_
    refine x_getf_r (n := h) C rfl ht5 fd_169 (by decide) dX12_advised_59 ?_
    refine x_bipush (v := (nI 6)) C dX12_advised_62 (by decide) ?_
    refine x_iload_n C 2 dX12_advised_64 rfl rfl ?_
    refine x_imul C dX12_advised_65 ?_
    refine x_iload C 0 dX12_advised_66 rfl ?_
    refine x_iadd C dX12_advised_68 ?_
    obtain ⟨n13, hr14, h1⟩ := h1
    obtain ⟨z16, ht15, h1⟩ := h1
    obtain ⟨hi17, h1⟩ := h1
    refine x_iald (n := n13) C hr14 ht15 hi17 dX12_advised_69 ?_
    refine x_topi (fun y18 e19 => ?_)
    have h1 := h1 y18 e19
    refine x_istore (L' := [(6, xm_i y18), (5, xm_i y11), (0, xm_r (some h)), (1, xm_i x1), (2, xm_i x2), (3, xm_i x3), (4, xm_i x4)]) C dX12_advised_70 (by decide) rfl ?_
    refine x_iload C 0 dX12_advised_72 rfl ?_
    refine x_iconst (v := (-1 : Int32)) C dX12_advised_74 (by decide) ?_
    refine x_icmp_eq (tgt := 125) C dX12_advised_75 (by decide) (fun z9 => ?_) (fun z9 => ?_)
    · have h1 := h1.1 z9
      refine x_keep (L' := [(0, xm_r (some h)), (1, xm_i x1), (2, xm_i x2), (3, xm_i x3), (4, xm_i x4), (5, xm_i y11)]) C [2, 3, 4, 5, 6, 1] rfl ?_
      exact kp_X12_advised_125 h x1 x2 x3 x4 y11 S C N hg hZ40 h1
    · have h1 := h1.2 z9
      refine x_aload_n C 2 dX12_advised_78 rfl rfl ?_
      refine x_getf_r (n := h) C rfl ht5 fd_168 (by decide) dX12_advised_79 ?_
      refine x_iload C 6 dX12_advised_82 rfl ?_
      obtain ⟨n20, hr21, h1⟩ := h1
      obtain ⟨z23, ht22, h1⟩ := h1
      obtain ⟨hi24, h1⟩ := h1
      refine x_iald (n := n20) C hr21 ht22 hi24 dX12_advised_84 ?_
      refine x_iload_n C 4 dX12_advised_85 rfl rfl ?_
      refine x_icmp_lt (tgt := 125) C dX12_advised_86 (by decide) (fun z9 => ?_) (fun z9 => ?_)
      · have h1 := h1.1 z9
        refine x_keep (L' := [(0, xm_r (some h)), (1, xm_i x1), (2, xm_i x2), (3, xm_i x3), (4, xm_i x4), (5, xm_i y11)]) C [2, 3, 4, 5, 6, 1] rfl ?_
        exact kp_X12_advised_125 h x1 x2 x3 x4 y11 S C N hg hZ40 h1
      · have h1 := h1.2 z9
        refine x_aload_n C 2 dX12_advised_89 rfl rfl ?_
        refine x_sipush (v := (nI 148)) C dX12_advised_90 (by decide) ?_
        refine x_iload C 6 dX12_advised_93 rfl ?_
        refine x_iadd C dX12_advised_95 ?_
        refine x_aload_n C 2 dX12_advised_96 rfl rfl ?_
        refine x_getf_r (n := h) C rfl ht5 fd_170 (by decide) dX12_advised_97 ?_
        refine x_iload C 1 dX12_advised_100 rfl ?_
        obtain ⟨n25, hr26, h1⟩ := h1
        obtain ⟨z28, ht27, h1⟩ := h1
        obtain ⟨hi29, h1⟩ := h1
        refine x_iald (n := n25) C hr26 ht27 hi29 dX12_advised_102 ?_
        refine x_aload_n C 2 dX12_advised_103 rfl rfl ?_
        refine x_getf_r (n := h) C rfl ht5 fd_171 (by decide) dX12_advised_104 ?_
        refine x_iconst (v := (nI 4)) C dX12_advised_107 (by decide) ?_
        refine x_iload C 1 dX12_advised_108 rfl ?_
        refine x_imul C dX12_advised_110 ?_
        refine x_iload C 0 dX12_advised_111 rfl ?_
        refine x_iadd C dX12_advised_113 ?_
        obtain ⟨n30, hr31, h1⟩ := h1
        obtain ⟨z33, ht32, h1⟩ := h1
        obtain ⟨hi34, h1⟩ := h1
        refine x_iald (n := n30) C hr31 ht32 hi34 dX12_advised_114 ?_
        refine x_callV (rm' := rm_X12_isRangeOf) (n := h) C (kp_X12_isRangeOf_met h1) lk_103 gw_607 gw_608 xv_12 rfl rfl ht5 rfl (Nat.le_of_ble_eq_true rfl) ⟨Nat.le_of_ble_eq_true rfl, Nat.le_of_ble_eq_true rfl, (Nat.le_of_ble_eq_true rfl), (Nat.le_of_ble_eq_true rfl)⟩ dX12_advised_115 xm_kx (xm_ki (fun r36 S35 h1 => ?_))
        refine x_if_eq (tgt := 125) C dX12_advised_118 (by decide) (fun z9 => ?_) (fun z9 => ?_)
        · have h1 := h1.1 z9
          refine x_keep (L' := [(0, xm_r (some h)), (1, xm_i x1), (2, xm_i x2), (3, xm_i x3), (4, xm_i x4), (5, xm_i y11)]) C [2, 3, 4, 5, 6, 1] rfl ?_
          exact kp_X12_advised_125 h x1 x2 x3 x4 y11 S35 C N hg hZ40 h1
        · have h1 := h1.2 z9
          refine x_iconst (v := (1 : Int32)) C dX12_advised_121 (by decide) ?_
          refine x_goto (tgt := 126) C dX12_advised_122 (by decide) ?_
          refine x_keep (L' := [(0, xm_r (some h)), (1, xm_i x1), (2, xm_i x2), (3, xm_i x3), (4, xm_i x4), (5, xm_i y11)]) C [2, 3, 4, 5, 6, 1] rfl ?_
          exact kp_X12_advised_126 h x1 x2 x3 x4 y11 (1 : Int32) S35 C N hg hZ40 h1
theorem kp_X12_advised_40 {K : xm_K} (h : Nat) (x1 : Int32) (x2 : Int32) (x3 : Int32) (x4 : Int32) (S : xm_S) {g : Int32 → xm_S → Prop} (C : xm_Cx K cX12_advised RX12 8 (some (FieldType.int)) rm_X12_advised) (N : xm_Nx K) (hg : ∀ v S, g v S → xm_q K (some (xm_i v)) S)  (h1 : wp_X12_advised_40 h x1 x2 x3 x4 S g) : xm_W K 0 0 40 [(0, xm_r (some h)), (1, xm_i x1), (2, xm_i x2), (3, xm_i x3), (4, xm_i x4)] [] S :=
  h1 (fun x1 x2 x3 x4 S => xm_W K 0 0 40 [(0, xm_r (some h)), (1, xm_i x1), (2, xm_i x2), (3, xm_i x3), (4, xm_i x4)] [] S) (fun x1 x2 x3 x4 S hb => kp_X12_advised_40B h x1 x2 x3 x4 S C N hg (fun x1 x2 x3 x4 S hz => hz) hb)
def wp_X12_advised_27 (h : Nat) (x1 : Int32) (x2 : Int32) (s0 : Int32) (s1 : Option Nat) (S : xm_S) (g : Int32 → xm_S → Prop) : Prop :=
  ∃ n37, s1 = some n37 ∧ st_t S n37 = some (12, 0) ∧ wp_X12_may n37 s0 S (fun r41 S40 => (¬ r41 = 0 → wp_X12_advised_40 h x1 x2 (0 : Int32) (0 : Int32) S40 g) ∧ (r41 = 0 → g (0 : Int32) S40))
set_option maxRecDepth 100000 in
set_option maxHeartbeats 4000000 in
theorem kp_X12_advised_27 {K : xm_K} (h : Nat) (x1 : Int32) (x2 : Int32) (s0 : Int32) (s1 : Option Nat) (S : xm_S) {g : Int32 → xm_S → Prop} (C : xm_Cx K cX12_advised RX12 8 (some (FieldType.int)) rm_X12_advised) (N : xm_Nx K) (hg : ∀ v S, g v S → xm_q K (some (xm_i v)) S)  (h1 : wp_X12_advised_27 h x1 x2 s0 s1 S g) : xm_W K 0 0 27 [(0, xm_r (some h)), (1, xm_i x1), (2, xm_i x2)] [xm_i s0, xm_r s1] S := by
  unfold wp_X12_advised_27 at h1
  obtain ⟨n37, hr38, h1⟩ := h1
  obtain ⟨ht39, h1⟩ := h1
  refine x_callV (rm' := rm_X12_may) (n := n37) C (kp_X12_may_met h1) lk_95 gw_572 gw_573 xv_12 rfl hr38 ht39 rfl (Nat.le_of_ble_eq_true rfl) ⟨Nat.le_of_ble_eq_true rfl, Nat.le_of_ble_eq_true rfl, (Nat.le_of_ble_eq_true rfl), (Nat.le_of_ble_eq_true rfl)⟩ dX12_advised_27 xm_kx (xm_ki (fun r41 S40 h1 => ?_))
  refine x_if_ne (tgt := 35) C dX12_advised_30 (by decide) (fun z9 => ?_) (fun z9 => ?_)
  · have h1 := h1.1 z9
    refine x_iconst (v := (0 : Int32)) C dX12_advised_35 (by decide) ?_
    refine x_istore_n (L' := [(3, xm_i (0 : Int32)), (0, xm_r (some h)), (1, xm_i x1), (2, xm_i x2)]) C dX12_advised_36 rfl (by decide) rfl ?_
    refine x_iconst (v := (0 : Int32)) C dX12_advised_37 (by decide) ?_
    refine x_istore (L' := [(4, xm_i (0 : Int32)), (3, xm_i (0 : Int32)), (0, xm_r (some h)), (1, xm_i x1), (2, xm_i x2)]) C dX12_advised_38 (by decide) rfl ?_
    refine x_keep (L' := [(0, xm_r (some h)), (1, xm_i x1), (2, xm_i x2), (3, xm_i (0 : Int32)), (4, xm_i (0 : Int32))]) C [2, 3, 4, 1, 0] rfl ?_
    exact kp_X12_advised_40 h x1 x2 (0 : Int32) (0 : Int32) S40 C N hg  h1
  · have h1 := h1.2 z9
    refine x_iconst (v := (0 : Int32)) C dX12_advised_33 (by decide) ?_
    exact x_iret C (Nat.le_of_ble_eq_true rfl) (Nat.le_of_ble_eq_true rfl) rfl dX12_advised_34 (hg _ _ h1)
def wp_X12_advised (h : Nat) (x1 : Int32) (x2 : Int32) (S : xm_S) (g : Int32 → xm_S → Prop) : Prop :=
  wp_X12_isPlatform x1 S (fun r43 S42 => (¬ r43 = 0 → wp_X12_in x2 (1 : Int32) (nI 9) S42 (fun r45 S44 => (r45 = 0 → wp_X12_advised_27 h x1 x2 (nI 2) (some h) S44 g) ∧ (¬ r45 = 0 → wp_X12_advised_27 h x1 x2 (0 : Int32) (some h) S44 g))) ∧ (r43 = 0 → wp_X12_advised_27 h x1 x2 (1 : Int32) (some h) S42 g))
set_option maxRecDepth 100000 in
set_option maxHeartbeats 4000000 in
theorem kp_X12_advised {K : xm_K} (h : Nat) (x1 : Int32) (x2 : Int32) (S : xm_S) {g : Int32 → xm_S → Prop} (C : xm_Cx K cX12_advised RX12 8 (some (FieldType.int)) rm_X12_advised) (N : xm_Nx K) (hg : ∀ v S, g v S → xm_q K (some (xm_i v)) S)  (h1 : wp_X12_advised h x1 x2 S g) : xm_W K 0 0 0 [(0, xm_r (some h)), (1, xm_i x1), (2, xm_i x2)] [] S := by
  unfold wp_X12_advised at h1
  refine x_aload_n C 0 dX12_advised_0 rfl rfl ?_
  refine x_iload_n C 1 dX12_advised_1 rfl rfl ?_
  refine x_callS (rm' := rm_X12_isPlatform) C (kp_X12_isPlatform_met h1) lk_104 gw_611 rfl (Nat.le_of_ble_eq_true rfl) ⟨Nat.le_of_ble_eq_true rfl, Nat.le_of_ble_eq_true rfl, (Nat.le_of_ble_eq_true rfl), (Nat.le_of_ble_eq_true rfl)⟩ dX12_advised_2 xm_kx (xm_ki (fun r43 S42 h1 => ?_))
  refine x_if_ne (tgt := 12) C dX12_advised_5 (by decide) (fun z9 => ?_) (fun z9 => ?_)
  · have h1 := h1.1 z9
    refine x_iload_n C 2 dX12_advised_12 rfl rfl ?_
    refine x_iconst (v := (1 : Int32)) C dX12_advised_13 (by decide) ?_
    refine x_bipush (v := (nI 9)) C dX12_advised_14 (by decide) ?_
    refine x_callS (rm' := rm_X12_in) C (kp_X12_in_met h1) lk_87 gw_533 rfl (Nat.le_of_ble_eq_true rfl) ⟨Nat.le_of_ble_eq_true rfl, Nat.le_of_ble_eq_true rfl, (Nat.le_of_ble_eq_true rfl), (Nat.le_of_ble_eq_true rfl)⟩ dX12_advised_16 xm_kx (xm_ki (fun r45 S44 h1 => ?_))
    refine x_if_eq (tgt := 26) C dX12_advised_19 (by decide) (fun z9 => ?_) (fun z9 => ?_)
    · have h1 := h1.1 z9
      refine x_iconst (v := (nI 2)) C dX12_advised_26 (by decide) ?_
      exact kp_X12_advised_27 h x1 x2 (nI 2) (some h) S44 C N hg  h1
    · have h1 := h1.2 z9
      refine x_iconst (v := (0 : Int32)) C dX12_advised_22 (by decide) ?_
      refine x_goto (tgt := 27) C dX12_advised_23 (by decide) ?_
      exact kp_X12_advised_27 h x1 x2 (0 : Int32) (some h) S44 C N hg  h1
  · have h1 := h1.2 z9
    refine x_iconst (v := (1 : Int32)) C dX12_advised_8 (by decide) ?_
    refine x_goto (tgt := 27) C dX12_advised_9 (by decide) ?_
    exact kp_X12_advised_27 h x1 x2 (1 : Int32) (some h) S42 C N hg  h1
theorem kp_X12_advised_met {h : Nat} {x1 : Int32} {x2 : Int32} {S : xm_S} {g : Int32 → xm_S → Prop}  (h1 : wp_X12_advised h x1 x2 S g) : xm_Met yX12_advised cX12_advised 8 (some (FieldType.int)) rm_X12_advised [xm_r (some h), xm_i x1, xm_i x2] S (xm_qi g) xm_nox :=
  xm_ofW RX12 (by decide +kernel) rfl (Nat.le_of_ble_eq_true rfl) (fun K C N hq hx hi => kp_X12_advised h x1 x2 S C N (fun v S h => by rw [hq]; exact ⟨v, rfl, h⟩)  h1)
def rm_X12_aside : Room := { frames := 1, cells := 0, slots := 0, locals := 20 }
theorem dX12_aside_0 : decode cX12_aside 0 = .ok (.aload_n 0, 1) := by decide +kernel
theorem dX12_aside_1 : decode cX12_aside 1 = .ok (.iconst 0, 1) := by decide +kernel
theorem dX12_aside_2 : decode cX12_aside 2 = .ok (.putfield 169, 3) := by decide +kernel
theorem dX12_aside_5 : decode cX12_aside 5 = .ok (.aload_n 0, 1) := by decide +kernel
theorem dX12_aside_6 : decode cX12_aside 6 = .ok (.getfield 343, 3) := by decide +kernel
theorem dX12_aside_9 : decode cX12_aside 9 = .ok (.ireturn, 1) := by decide +kernel
def wp_X12_aside (h : Nat)  (S : xm_S) (g : Int32 → xm_S → Prop) : Prop :=
  st_t S h = some (12, 0) ∧ ∀ S2, S2 = st_pi S h 0 (0 : Int32) → g (st_i S2 h 53) S2
set_option maxRecDepth 100000 in
set_option maxHeartbeats 4000000 in
theorem kp_X12_aside {K : xm_K} (h : Nat)  (S : xm_S) {g : Int32 → xm_S → Prop} (C : xm_Cx K cX12_aside RX12 1 (some (FieldType.int)) rm_X12_aside) (N : xm_Nx K) (hg : ∀ v S, g v S → xm_q K (some (xm_i v)) S)  (h1 : wp_X12_aside h  S g) : xm_W K 0 0 0 [(0, xm_r (some h))] [] S := by
  unfold wp_X12_aside at h1
  refine x_aload_n C 0 dX12_aside_0 rfl rfl ?_
  refine x_iconst (v := (0 : Int32)) C dX12_aside_1 (by decide) ?_
  obtain ⟨ht1, h1⟩ := h1
  refine x_putf_i (n := h) C rfl ht1 fd_165 xc_12 (by decide) rfl ⟨rfl, rfl⟩ dX12_aside_2 ?_
  refine x_topS (fun S2 e3 => ?_)
  have h1 := h1 S2 e3
  refine x_aload_n C 0 dX12_aside_5 rfl rfl ?_
  refine x_getf_i (n := h) C rfl (tk_p e3 ht1) fd_172 (by decide) dX12_aside_6 ?_
  exact x_iret C (Nat.le_of_ble_eq_true rfl) (Nat.le_of_ble_eq_true rfl) rfl dX12_aside_9 (hg _ _ h1)
theorem kp_X12_aside_met {h : Nat}  {S : xm_S} {g : Int32 → xm_S → Prop}  (h1 : wp_X12_aside h  S g) : xm_Met yX12_aside cX12_aside 1 (some (FieldType.int)) rm_X12_aside [xm_r (some h)] S (xm_qi g) xm_nox :=
  xm_ofW RX12 (by decide +kernel) rfl (Nat.le_of_ble_eq_true rfl) (fun K C N hq hx hi => kp_X12_aside h  S C N (fun v S h => by rw [hq]; exact ⟨v, rfl, h⟩)  h1)
def rm_X12_asks : Room := { frames := 1, cells := 0, slots := 0, locals := 20 }
theorem dX12_asks_0 : decode cX12_asks 0 = .ok (.aload_n 0, 1) := by decide +kernel
theorem dX12_asks_1 : decode cX12_asks 1 = .ok (.getfield 106, 3) := by decide +kernel
theorem dX12_asks_4 : decode cX12_asks 4 = .ok (.iload_n 1, 1) := by decide +kernel
theorem dX12_asks_5 : decode cX12_asks 5 = .ok (.dup2, 1) := by decide +kernel
theorem dX12_asks_6 : decode cX12_asks 6 = .ok (.iaload, 1) := by decide +kernel
theorem dX12_asks_7 : decode cX12_asks 7 = .ok (.aload_n 0, 1) := by decide +kernel
theorem dX12_asks_8 : decode cX12_asks 8 = .ok (.getfield 103, 3) := by decide +kernel
theorem dX12_asks_11 : decode cX12_asks 11 = .ok (.iload_n 1, 1) := by decide +kernel
theorem dX12_asks_12 : decode cX12_asks 12 = .ok (.iaload, 1) := by decide +kernel
theorem dX12_asks_13 : decode cX12_asks 13 = .ok (.iconst (-1), 1) := by decide +kernel
theorem dX12_asks_14 : decode cX12_asks 14 = .ok (.if_icmp .ne 7, 3) := by decide +kernel
theorem dX12_asks_17 : decode cX12_asks 17 = .ok (.iconst 0, 1) := by decide +kernel
theorem dX12_asks_18 : decode cX12_asks 18 = .ok (.goto 4, 3) := by decide +kernel
theorem dX12_asks_21 : decode cX12_asks 21 = .ok (.iload_n 2, 1) := by decide +kernel
theorem dX12_asks_22 : decode cX12_asks 22 = .ok (.ior, 1) := by decide +kernel
theorem dX12_asks_23 : decode cX12_asks 23 = .ok (.iastore, 1) := by decide +kernel
theorem dX12_asks_24 : decode cX12_asks 24 = .ok (.return_, 1) := by decide +kernel
def wp_X12_asks_22 (h : Nat) (s0 : Int32) (s1 : Int32) (s2 : Int32) (s3 : Option Nat) (S : xm_S) (g : xm_S → Prop) : Prop :=
  ∃ n1, s3 = some n1 ∧ ∃ z4, st_t S n1 = some (100, z4) ∧ vp_in s2 z4 ∧ ∀ S6, S6 = st_pi S n1 (s2).toNatClampNeg (s1 ||| s0) → g S6
set_option maxRecDepth 100000 in
set_option maxHeartbeats 4000000 in
theorem kp_X12_asks_22 {K : xm_K} (h : Nat) (s0 : Int32) (s1 : Int32) (s2 : Int32) (s3 : Option Nat) (S : xm_S) {g : xm_S → Prop} (C : xm_Cx K cX12_asks RX12 3 none rm_X12_asks) (N : xm_Nx K) (hg : ∀ S, g S → xm_q K none S)  (h1 : wp_X12_asks_22 h s0 s1 s2 s3 S g) : xm_W K 0 0 22 [] [xm_i s0, xm_i s1, xm_i s2, xm_r s3] S := by
  unfold wp_X12_asks_22 at h1
  refine x_ior C dX12_asks_22 ?_
  obtain ⟨n1, hr2, h1⟩ := h1
  obtain ⟨z4, ht3, h1⟩ := h1
  obtain ⟨hi5, h1⟩ := h1
  refine x_iast (n := n1) C hr2 ht3 hi5 dX12_asks_23 ?_
  refine x_topS (fun S6 e7 => ?_)
  have h1 := h1 S6 e7
  exact x_vret C (Nat.le_of_ble_eq_true rfl) (Nat.le_of_ble_eq_true rfl) rfl dX12_asks_24 (hg _ h1)
def wp_X12_asks (h : Nat) (x1 : Int32) (x2 : Int32) (S : xm_S) (g : xm_S → Prop) : Prop :=
  st_t S h = some (12, 0) ∧ ∃ n9, (st_r S h 34) = some n9 ∧ ∃ z12, st_t S n9 = some (100, z12) ∧ vp_in x1 z12 ∧ ∃ n14, (st_r S h 33) = some n14 ∧ ∃ z17, st_t S n14 = some (100, z17) ∧ vp_in x1 z17 ∧ (¬ (st_i S n14 (x1).toNatClampNeg) = (-1 : Int32) → wp_X12_asks_22 h x2 (st_i S n9 (x1).toNatClampNeg) x1 (st_r S h 34) S g) ∧ ((st_i S n14 (x1).toNatClampNeg) = (-1 : Int32) → wp_X12_asks_22 h (0 : Int32) (st_i S n9 (x1).toNatClampNeg) x1 (st_r S h 34) S g)
set_option maxRecDepth 100000 in
set_option maxHeartbeats 4000000 in
theorem kp_X12_asks {K : xm_K} (h : Nat) (x1 : Int32) (x2 : Int32) (S : xm_S) {g : xm_S → Prop} (C : xm_Cx K cX12_asks RX12 3 none rm_X12_asks) (N : xm_Nx K) (hg : ∀ S, g S → xm_q K none S)  (h1 : wp_X12_asks h x1 x2 S g) : xm_W K 0 0 0 [(0, xm_r (some h)), (1, xm_i x1), (2, xm_i x2)] [] S := by
  unfold wp_X12_asks at h1
  refine x_aload_n C 0 dX12_asks_0 rfl rfl ?_
  obtain ⟨ht8, h1⟩ := h1
  refine x_getf_r (n := h) C rfl ht8 fd_173 (by decide) dX12_asks_1 ?_
  refine x_iload_n C 1 dX12_asks_4 rfl rfl ?_
  refine x_dup2_ir C dX12_asks_5 ?_
  obtain ⟨n9, hr10, h1⟩ := h1
  obtain ⟨z12, ht11, h1⟩ := h1
  obtain ⟨hi13, h1⟩ := h1
  refine x_iald (n := n9) C hr10 ht11 hi13 dX12_asks_6 ?_
  refine x_aload_n C 0 dX12_asks_7 rfl rfl ?_
  refine x_getf_r (n := h) C rfl ht8 fd_174 (by decide) dX12_asks_8 ?_
  refine x_iload_n C 1 dX12_asks_11 rfl rfl ?_
  obtain ⟨n14, hr15, h1⟩ := h1
  obtain ⟨z17, ht16, h1⟩ := h1
  obtain ⟨hi18, h1⟩ := h1
  refine x_iald (n := n14) C hr15 ht16 hi18 dX12_asks_12 ?_
  refine x_iconst (v := (-1 : Int32)) C dX12_asks_13 (by decide) ?_
  refine x_icmp_ne (tgt := 21) C dX12_asks_14 (by decide) (fun z9 => ?_) (fun z9 => ?_)
  · have h1 := h1.1 z9
    refine x_iload_n C 2 dX12_asks_21 rfl rfl ?_
    refine x_keep (L' := []) C [] rfl ?_
    exact kp_X12_asks_22 h x2 (st_i S n9 (x1).toNatClampNeg) x1 (st_r S h 34) S C N hg  h1
  · have h1 := h1.2 z9
    refine x_iconst (v := (0 : Int32)) C dX12_asks_17 (by decide) ?_
    refine x_goto (tgt := 22) C dX12_asks_18 (by decide) ?_
    refine x_keep (L' := []) C [] rfl ?_
    exact kp_X12_asks_22 h (0 : Int32) (st_i S n9 (x1).toNatClampNeg) x1 (st_r S h 34) S C N hg  h1
theorem kp_X12_asks_met {h : Nat} {x1 : Int32} {x2 : Int32} {S : xm_S} {g : xm_S → Prop}  (h1 : wp_X12_asks h x1 x2 S g) : xm_Met yX12_asks cX12_asks 3 none rm_X12_asks [xm_r (some h), xm_i x1, xm_i x2] S (xm_qv g) xm_nox :=
  xm_ofW RX12 (by decide +kernel) rfl (Nat.le_of_ble_eq_true rfl) (fun K C N hq hx hi => kp_X12_asks h x1 x2 S C N (fun S h => by rw [hq]; exact ⟨rfl, h⟩)  h1)
