def rm_X12_file : Room := { frames := 4, cells := 0, slots := 0, locals := 84 }
theorem dX12_file_0 : decode cX12_file 0 = .ok (.aload_n 0, 1) := by decide +kernel
theorem dX12_file_1 : decode cX12_file 1 = .ok (.iload_n 1, 1) := by decide +kernel
theorem dX12_file_2 : decode cX12_file 2 = .ok (.iload_n 2, 1) := by decide +kernel
theorem dX12_file_3 : decode cX12_file 3 = .ok (.invokevirtual 237, 3) := by decide +kernel
theorem dX12_file_6 : decode cX12_file 6 = .ok (.istore 6, 2) := by decide +kernel
theorem dX12_file_8 : decode cX12_file 8 = .ok (.iload 6, 2) := by decide +kernel
theorem dX12_file_10 : decode cX12_file 10 = .ok (.ifCond .eq 11, 3) := by decide +kernel
theorem dX12_file_13 : decode cX12_file 13 = .ok (.iconst 4, 1) := by decide +kernel
theorem dX12_file_14 : decode cX12_file 14 = .ok (.iload_n 1, 1) := by decide +kernel
theorem dX12_file_15 : decode cX12_file 15 = .ok (.imul, 1) := by decide +kernel
theorem dX12_file_16 : decode cX12_file 16 = .ok (.iload_n 2, 1) := by decide +kernel
theorem dX12_file_17 : decode cX12_file 17 = .ok (.iadd, 1) := by decide +kernel
theorem dX12_file_18 : decode cX12_file 18 = .ok (.goto 4, 3) := by decide +kernel
theorem dX12_file_21 : decode cX12_file 21 = .ok (.iconst 0, 1) := by decide +kernel
theorem dX12_file_22 : decode cX12_file 22 = .ok (.istore 7, 2) := by decide +kernel
theorem dX12_file_24 : decode cX12_file 24 = .ok (.iload 6, 2) := by decide +kernel
theorem dX12_file_26 : decode cX12_file 26 = .ok (.ifCond .eq 39, 3) := by decide +kernel
theorem dX12_file_29 : decode cX12_file 29 = .ok (.iload_n 3, 1) := by decide +kernel
theorem dX12_file_30 : decode cX12_file 30 = .ok (.iconst 0, 1) := by decide +kernel
theorem dX12_file_31 : decode cX12_file 31 = .ok (.bipush 15, 2) := by decide +kernel
theorem dX12_file_33 : decode cX12_file 33 = .ok (.invokestatic 172, 3) := by decide +kernel
theorem dX12_file_36 : decode cX12_file 36 = .ok (.ifCond .eq 29, 3) := by decide +kernel
theorem dX12_file_39 : decode cX12_file 39 = .ok (.iload 4, 2) := by decide +kernel
theorem dX12_file_41 : decode cX12_file 41 = .ok (.iconst 0, 1) := by decide +kernel
theorem dX12_file_42 : decode cX12_file 42 = .ok (.sipush 999, 3) := by decide +kernel
theorem dX12_file_45 : decode cX12_file 45 = .ok (.invokestatic 172, 3) := by decide +kernel
theorem dX12_file_48 : decode cX12_file 48 = .ok (.ifCond .eq 17, 3) := by decide +kernel
theorem dX12_file_51 : decode cX12_file 51 = .ok (.aload_n 0, 1) := by decide +kernel
theorem dX12_file_52 : decode cX12_file 52 = .ok (.iload 7, 2) := by decide +kernel
theorem dX12_file_54 : decode cX12_file 54 = .ok (.iload_n 3, 1) := by decide +kernel
theorem dX12_file_55 : decode cX12_file 55 = .ok (.invokevirtual 334, 3) := by decide +kernel
theorem dX12_file_58 : decode cX12_file 58 = .ok (.ifCond .ne 7, 3) := by decide +kernel
theorem dX12_file_61 : decode cX12_file 61 = .ok (.iconst 1, 1) := by decide +kernel
theorem dX12_file_62 : decode cX12_file 62 = .ok (.goto 4, 3) := by decide +kernel
theorem dX12_file_65 : decode cX12_file 65 = .ok (.iconst 0, 1) := by decide +kernel
theorem dX12_file_66 : decode cX12_file 66 = .ok (.istore 8, 2) := by decide +kernel
theorem dX12_file_68 : decode cX12_file 68 = .ok (.aload_n 0, 1) := by decide +kernel
theorem dX12_file_69 : decode cX12_file 69 = .ok (.iload 6, 2) := by decide +kernel
theorem dX12_file_71 : decode cX12_file 71 = .ok (.ifCond .ne 7, 3) := by decide +kernel
theorem dX12_file_74 : decode cX12_file 74 = .ok (.iconst 1, 1) := by decide +kernel
theorem dX12_file_75 : decode cX12_file 75 = .ok (.goto 28, 3) := by decide +kernel
theorem dX12_file_78 : decode cX12_file 78 = .ok (.iload 8, 2) := by decide +kernel
theorem dX12_file_80 : decode cX12_file 80 = .ok (.ifCond .ne 7, 3) := by decide +kernel
theorem dX12_file_83 : decode cX12_file 83 = .ok (.iconst 2, 1) := by decide +kernel
theorem dX12_file_84 : decode cX12_file 84 = .ok (.goto 19, 3) := by decide +kernel
theorem dX12_file_87 : decode cX12_file 87 = .ok (.aload_n 0, 1) := by decide +kernel
theorem dX12_file_88 : decode cX12_file 88 = .ok (.getfield 130, 3) := by decide +kernel
theorem dX12_file_91 : decode cX12_file 91 = .ok (.iload 7, 2) := by decide +kernel
theorem dX12_file_93 : decode cX12_file 93 = .ok (.iaload, 1) := by decide +kernel
theorem dX12_file_94 : decode cX12_file 94 = .ok (.iconst 3, 1) := by decide +kernel
theorem dX12_file_95 : decode cX12_file 95 = .ok (.if_icmp .ne 7, 3) := by decide +kernel
theorem dX12_file_98 : decode cX12_file 98 = .ok (.iconst 3, 1) := by decide +kernel
theorem dX12_file_99 : decode cX12_file 99 = .ok (.goto 4, 3) := by decide +kernel
theorem dX12_file_102 : decode cX12_file 102 = .ok (.iconst 0, 1) := by decide +kernel
theorem dX12_file_103 : decode cX12_file 103 = .ok (.invokevirtual 182, 3) := by decide +kernel
theorem dX12_file_106 : decode cX12_file 106 = .ok (.ifCond .ne 5, 3) := by decide +kernel
theorem dX12_file_109 : decode cX12_file 109 = .ok (.iconst 0, 1) := by decide +kernel
theorem dX12_file_110 : decode cX12_file 110 = .ok (.ireturn, 1) := by decide +kernel
theorem dX12_file_111 : decode cX12_file 111 = .ok (.iconst 3, 1) := by decide +kernel
theorem dX12_file_112 : decode cX12_file 112 = .ok (.iload 7, 2) := by decide +kernel
theorem dX12_file_114 : decode cX12_file 114 = .ok (.imul, 1) := by decide +kernel
theorem dX12_file_115 : decode cX12_file 115 = .ok (.aload_n 0, 1) := by decide +kernel
theorem dX12_file_116 : decode cX12_file 116 = .ok (.getfield 130, 3) := by decide +kernel
theorem dX12_file_119 : decode cX12_file 119 = .ok (.iload 7, 2) := by decide +kernel
theorem dX12_file_121 : decode cX12_file 121 = .ok (.iaload, 1) := by decide +kernel
theorem dX12_file_122 : decode cX12_file 122 = .ok (.iadd, 1) := by decide +kernel
theorem dX12_file_123 : decode cX12_file 123 = .ok (.istore 9, 2) := by decide +kernel
theorem dX12_file_125 : decode cX12_file 125 = .ok (.aload_n 0, 1) := by decide +kernel
theorem dX12_file_126 : decode cX12_file 126 = .ok (.getfield 133, 3) := by decide +kernel
theorem dX12_file_129 : decode cX12_file 129 = .ok (.iload 9, 2) := by decide +kernel
theorem dX12_file_131 : decode cX12_file 131 = .ok (.iload_n 3, 1) := by decide +kernel
theorem dX12_file_132 : decode cX12_file 132 = .ok (.iastore, 1) := by decide +kernel
theorem dX12_file_133 : decode cX12_file 133 = .ok (.aload_n 0, 1) := by decide +kernel
theorem dX12_file_134 : decode cX12_file 134 = .ok (.getfield 136, 3) := by decide +kernel
theorem dX12_file_137 : decode cX12_file 137 = .ok (.iload 9, 2) := by decide +kernel
theorem dX12_file_139 : decode cX12_file 139 = .ok (.iload 4, 2) := by decide +kernel
theorem dX12_file_141 : decode cX12_file 141 = .ok (.iastore, 1) := by decide +kernel
theorem dX12_file_142 : decode cX12_file 142 = .ok (.aload_n 0, 1) := by decide +kernel
theorem dX12_file_143 : decode cX12_file 143 = .ok (.getfield 139, 3) := by decide +kernel
theorem dX12_file_146 : decode cX12_file 146 = .ok (.iload 9, 2) := by decide +kernel
theorem dX12_file_148 : decode cX12_file 148 = .ok (.iload 5, 2) := by decide +kernel
theorem dX12_file_150 : decode cX12_file 150 = .ok (.bastore, 1) := by decide +kernel
theorem dX12_file_151 : decode cX12_file 151 = .ok (.aload_n 0, 1) := by decide +kernel
theorem dX12_file_152 : decode cX12_file 152 = .ok (.getfield 130, 3) := by decide +kernel
theorem dX12_file_155 : decode cX12_file 155 = .ok (.iload 7, 2) := by decide +kernel
theorem dX12_file_157 : decode cX12_file 157 = .ok (.dup2, 1) := by decide +kernel
theorem dX12_file_158 : decode cX12_file 158 = .ok (.iaload, 1) := by decide +kernel
theorem dX12_file_159 : decode cX12_file 159 = .ok (.iconst 1, 1) := by decide +kernel
theorem dX12_file_160 : decode cX12_file 160 = .ok (.iadd, 1) := by decide +kernel
theorem dX12_file_161 : decode cX12_file 161 = .ok (.iastore, 1) := by decide +kernel
theorem dX12_file_162 : decode cX12_file 162 = .ok (.aload_n 0, 1) := by decide +kernel
theorem dX12_file_163 : decode cX12_file 163 = .ok (.getfield 130, 3) := by decide +kernel
theorem dX12_file_166 : decode cX12_file 166 = .ok (.iload 7, 2) := by decide +kernel
theorem dX12_file_168 : decode cX12_file 168 = .ok (.iaload, 1) := by decide +kernel
theorem dX12_file_169 : decode cX12_file 169 = .ok (.ireturn, 1) := by decide +kernel
def wp_X12_file_103 (h : Nat) (x3 : Int32) (x4 : Int32) (x5 : Int32) (x7 : Int32) (s0 : Int32) (s1 : Option Nat) (S : xm_S) (g : Int32 → xm_S → Prop) : Prop :=
  ∃ n1, s1 = some n1 ∧ st_t S n1 = some (12, 0) ∧ wp_X12_may n1 s0 S (fun r5 S4 => (¬ r5 = 0 → st_t S4 h = some (12, 0) ∧ ∃ n7, (st_r S4 h 44) = some n7 ∧ ∃ z10, st_t S4 n7 = some (100, z10) ∧ vp_in x7 z10 ∧ ∀ y12, y12 = (((nI 3) * x7) + (st_i S4 n7 (x7).toNatClampNeg)) → ∃ n14, (st_r S4 h 45) = some n14 ∧ ∃ z17, st_t S4 n14 = some (100, z17) ∧ vp_in y12 z17 ∧ ∀ S19, S19 = st_pi S4 n14 (y12).toNatClampNeg x3 → ∃ n21, (st_r S19 h 46) = some n21 ∧ ∃ z24, st_t S19 n21 = some (100, z24) ∧ vp_in y12 z24 ∧ ∀ S26, S26 = st_pi S19 n21 (y12).toNatClampNeg x4 → ∃ n28, (st_r S26 h 47) = some n28 ∧ ∃ z31, st_t S26 n28 = some (101, z31) ∧ vp_in y12 z31 ∧ (x5 = 0 ∨ x5 = 1) ∧ ∀ S34, S34 = st_pi S26 n28 (y12).toNatClampNeg x5 → ∃ n36, (st_r S34 h 44) = some n36 ∧ ∃ z39, st_t S34 n36 = some (100, z39) ∧ vp_in x7 z39 ∧ ∃ n41, (st_r S34 h 44) = some n41 ∧ ∃ z44, st_t S34 n41 = some (100, z44) ∧ vp_in x7 z44 ∧ ∀ S46, S46 = st_pi S34 n41 (x7).toNatClampNeg ((st_i S34 n36 (x7).toNatClampNeg) + (1 : Int32)) → ∃ n48, (st_r S46 h 44) = some n48 ∧ ∃ z51, st_t S46 n48 = some (100, z51) ∧ vp_in x7 z51 ∧ g (st_i S46 n48 (x7).toNatClampNeg) S46) ∧ (r5 = 0 → g (0 : Int32) S4))
set_option maxRecDepth 100000 in
set_option maxHeartbeats 4000000 in
theorem kp_X12_file_103 {K : xm_K} (h : Nat) (x3 : Int32) (x4 : Int32) (x5 : Int32) (x7 : Int32) (s0 : Int32) (s1 : Option Nat) (S : xm_S) {g : Int32 → xm_S → Prop} (C : xm_Cx K cX12_file RX12 10 (some (FieldType.int)) rm_X12_file) (N : xm_Nx K) (hg : ∀ v S, g v S → xm_q K (some (xm_i v)) S)  (h1 : wp_X12_file_103 h x3 x4 x5 x7 s0 s1 S g) : xm_W K 0 0 103 [(0, xm_r (some h)), (3, xm_i x3), (4, xm_i x4), (5, xm_i x5), (7, xm_i x7)] [xm_i s0, xm_r s1] S := by
  unfold wp_X12_file_103 at h1
  obtain ⟨n1, hr2, h1⟩ := h1
  obtain ⟨ht3, h1⟩ := h1
  refine x_callV (rm' := rm_X12_may) (n := n1) C (kp_X12_may_met h1) lk_95 gw_572 gw_573 xv_12 rfl hr2 ht3 rfl (Nat.le_of_ble_eq_true rfl) ⟨Nat.le_of_ble_eq_true rfl, Nat.le_of_ble_eq_true rfl, (Nat.le_of_ble_eq_true rfl), (Nat.le_of_ble_eq_true rfl)⟩ dX12_file_103 xm_kx (xm_ki (fun r5 S4 h1 => ?_))
  refine x_if_ne (tgt := 111) C dX12_file_106 (by decide) (fun z9 => ?_) (fun z9 => ?_)
  · have h1 := h1.1 z9
    refine x_iconst (v := (nI 3)) C dX12_file_111 (by decide) ?_
    refine x_iload C 4 dX12_file_112 rfl ?_
    refine x_imul C dX12_file_114 ?_
    refine x_aload_n C 0 dX12_file_115 rfl rfl ?_
    obtain ⟨ht6, h1⟩ := h1
    refine x_getf_r (n := h) C rfl ht6 fd_209 (by decide) dX12_file_116 ?_
    refine x_iload C 4 dX12_file_119 rfl ?_
    obtain ⟨n7, hr8, h1⟩ := h1
    obtain ⟨z10, ht9, h1⟩ := h1
    obtain ⟨hi11, h1⟩ := h1
    refine x_iald (n := n7) C hr8 ht9 hi11 dX12_file_121 ?_
    refine x_iadd C dX12_file_122 ?_
    refine x_topi (fun y12 e13 => ?_)
    have h1 := h1 y12 e13
    refine x_istore (L' := [(9, xm_i y12), (0, xm_r (some h)), (3, xm_i x3), (4, xm_i x4), (5, xm_i x5), (7, xm_i x7)]) C dX12_file_123 (by decide) rfl ?_
    refine x_aload_n C 1 dX12_file_125 rfl rfl ?_
    refine x_getf_r (n := h) C rfl ht6 fd_210 (by decide) dX12_file_126 ?_
    refine x_iload C 0 dX12_file_129 rfl ?_
    refine x_iload_n C 2 dX12_file_131 rfl rfl ?_
    obtain ⟨n14, hr15, h1⟩ := h1
    obtain ⟨z17, ht16, h1⟩ := h1
    obtain ⟨hi18, h1⟩ := h1
    refine x_iast (n := n14) C hr15 ht16 hi18 dX12_file_132 ?_
    refine x_topS (fun S19 e20 => ?_)
    have h1 := h1 S19 e20
    refine x_aload_n C 1 dX12_file_133 rfl rfl ?_
    refine x_getf_r (n := h) C rfl (tk_p e20 ht6) fd_211 (by decide) dX12_file_134 ?_
    refine x_iload C 0 dX12_file_137 rfl ?_
    refine x_iload C 3 dX12_file_139 rfl ?_
    obtain ⟨n21, hr22, h1⟩ := h1
    obtain ⟨z24, ht23, h1⟩ := h1
    obtain ⟨hi25, h1⟩ := h1
    refine x_iast (n := n21) C hr22 ht23 hi25 dX12_file_141 ?_
    refine x_topS (fun S26 e27 => ?_)
    have h1 := h1 S26 e27
    refine x_aload_n C 1 dX12_file_142 rfl rfl ?_
    refine x_getf_r (n := h) C rfl (tk_p e27 (tk_p e20 ht6)) fd_212 (by decide) dX12_file_143 ?_
    refine x_iload C 0 dX12_file_146 rfl ?_
    refine x_iload C 4 dX12_file_148 rfl ?_
    obtain ⟨n28, hr29, h1⟩ := h1
    obtain ⟨z31, ht30, h1⟩ := h1
    obtain ⟨hi32, h1⟩ := h1
    obtain ⟨hz33, h1⟩ := h1
    refine x_zast (n := n28) C hr29 ht30 hi32 hz33 dX12_file_150 ?_
    refine x_topS (fun S34 e35 => ?_)
    have h1 := h1 S34 e35
    refine x_aload_n C 1 dX12_file_151 rfl rfl ?_
    refine x_getf_r (n := h) C rfl (tk_p e35 (tk_p e27 (tk_p e20 ht6))) fd_209 (by decide) dX12_file_152 ?_
    refine x_iload C 5 dX12_file_155 rfl ?_
    refine x_dup2_ir C dX12_file_157 ?_
    obtain ⟨n36, hr37, h1⟩ := h1
    obtain ⟨z39, ht38, h1⟩ := h1
    obtain ⟨hi40, h1⟩ := h1
    refine x_iald (n := n36) C hr37 ht38 hi40 dX12_file_158 ?_
    refine x_iconst (v := (1 : Int32)) C dX12_file_159 (by decide) ?_
    refine x_iadd C dX12_file_160 ?_
    obtain ⟨n41, hr42, h1⟩ := h1
    obtain ⟨z44, ht43, h1⟩ := h1
    obtain ⟨hi45, h1⟩ := h1
    refine x_iast (n := n41) C hr42 ht43 hi45 dX12_file_161 ?_
    refine x_topS (fun S46 e47 => ?_)
    have h1 := h1 S46 e47
    refine x_aload_n C 1 dX12_file_162 rfl rfl ?_
    refine x_getf_r (n := h) C rfl (tk_p e47 (tk_p e35 (tk_p e27 (tk_p e20 ht6)))) fd_209 (by decide) dX12_file_163 ?_
    refine x_iload C 5 dX12_file_166 rfl ?_
    obtain ⟨n48, hr49, h1⟩ := h1
    obtain ⟨z51, ht50, h1⟩ := h1
    obtain ⟨hi52, h1⟩ := h1
    refine x_iald (n := n48) C hr49 ht50 hi52 dX12_file_168 ?_
    exact x_iret C (Nat.le_of_ble_eq_true rfl) (Nat.le_of_ble_eq_true rfl) rfl dX12_file_169 (hg _ _ h1)
  · have h1 := h1.2 z9
    refine x_iconst (v := (0 : Int32)) C dX12_file_109 (by decide) ?_
    exact x_iret C (Nat.le_of_ble_eq_true rfl) (Nat.le_of_ble_eq_true rfl) rfl dX12_file_110 (hg _ _ h1)
def wp_X12_file_66 (h : Nat) (x3 : Int32) (x4 : Int32) (x5 : Int32) (x6 : Int32) (x7 : Int32) (s0 : Int32) (S : xm_S) (g : Int32 → xm_S → Prop) : Prop :=
  (¬ x6 = 0 → (¬ s0 = 0 → st_t S h = some (12, 0) ∧ ∃ n54, (st_r S h 44) = some n54 ∧ ∃ z57, st_t S n54 = some (100, z57) ∧ vp_in x7 z57 ∧ (¬ (st_i S n54 (x7).toNatClampNeg) = (nI 3) → wp_X12_file_103 h x3 x4 x5 x7 (0 : Int32) (some h) S g) ∧ ((st_i S n54 (x7).toNatClampNeg) = (nI 3) → wp_X12_file_103 h x3 x4 x5 x7 (nI 3) (some h) S g)) ∧ (s0 = 0 → wp_X12_file_103 h x3 x4 x5 x7 (nI 2) (some h) S g)) ∧ (x6 = 0 → wp_X12_file_103 h x3 x4 x5 x7 (1 : Int32) (some h) S g)
set_option maxRecDepth 100000 in
set_option maxHeartbeats 4000000 in
theorem kp_X12_file_66 {K : xm_K} (h : Nat) (x3 : Int32) (x4 : Int32) (x5 : Int32) (x6 : Int32) (x7 : Int32) (s0 : Int32) (S : xm_S) {g : Int32 → xm_S → Prop} (C : xm_Cx K cX12_file RX12 10 (some (FieldType.int)) rm_X12_file) (N : xm_Nx K) (hg : ∀ v S, g v S → xm_q K (some (xm_i v)) S)  (h1 : wp_X12_file_66 h x3 x4 x5 x6 x7 s0 S g) : xm_W K 0 0 66 [(0, xm_r (some h)), (3, xm_i x3), (4, xm_i x4), (5, xm_i x5), (6, xm_i x6), (7, xm_i x7)] [xm_i s0] S := by
  unfold wp_X12_file_66 at h1
  refine x_istore (L' := [(8, xm_i s0), (0, xm_r (some h)), (3, xm_i x3), (4, xm_i x4), (5, xm_i x5), (6, xm_i x6), (7, xm_i x7)]) C dX12_file_66 (by decide) rfl ?_
  refine x_aload_n C 1 dX12_file_68 rfl rfl ?_
  refine x_iload C 5 dX12_file_69 rfl ?_
  refine x_if_ne (tgt := 78) C dX12_file_71 (by decide) (fun z9 => ?_) (fun z9 => ?_)
  · have h1 := h1.1 z9
    refine x_iload C 0 dX12_file_78 rfl ?_
    refine x_if_ne (tgt := 87) C dX12_file_80 (by decide) (fun z9 => ?_) (fun z9 => ?_)
    · have h1 := h1.1 z9
      refine x_aload_n C 1 dX12_file_87 rfl rfl ?_
      obtain ⟨ht53, h1⟩ := h1
      refine x_getf_r (n := h) C rfl ht53 fd_209 (by decide) dX12_file_88 ?_
      refine x_iload C 6 dX12_file_91 rfl ?_
      obtain ⟨n54, hr55, h1⟩ := h1
      obtain ⟨z57, ht56, h1⟩ := h1
      obtain ⟨hi58, h1⟩ := h1
      refine x_iald (n := n54) C hr55 ht56 hi58 dX12_file_93 ?_
      refine x_iconst (v := (nI 3)) C dX12_file_94 (by decide) ?_
      refine x_icmp_ne (tgt := 102) C dX12_file_95 (by decide) (fun z9 => ?_) (fun z9 => ?_)
      · have h1 := h1.1 z9
        refine x_iconst (v := (0 : Int32)) C dX12_file_102 (by decide) ?_
        refine x_keep (L' := [(0, xm_r (some h)), (3, xm_i x3), (4, xm_i x4), (5, xm_i x5), (7, xm_i x7)]) C [1, 2, 3, 4, 6] rfl ?_
        exact kp_X12_file_103 h x3 x4 x5 x7 (0 : Int32) (some h) S C N hg  h1
      · have h1 := h1.2 z9
        refine x_iconst (v := (nI 3)) C dX12_file_98 (by decide) ?_
        refine x_goto (tgt := 103) C dX12_file_99 (by decide) ?_
        refine x_keep (L' := [(0, xm_r (some h)), (3, xm_i x3), (4, xm_i x4), (5, xm_i x5), (7, xm_i x7)]) C [1, 2, 3, 4, 6] rfl ?_
        exact kp_X12_file_103 h x3 x4 x5 x7 (nI 3) (some h) S C N hg  h1
    · have h1 := h1.2 z9
      refine x_iconst (v := (nI 2)) C dX12_file_83 (by decide) ?_
      refine x_goto (tgt := 103) C dX12_file_84 (by decide) ?_
      refine x_keep (L' := [(0, xm_r (some h)), (3, xm_i x3), (4, xm_i x4), (5, xm_i x5), (7, xm_i x7)]) C [1, 2, 3, 4, 6] rfl ?_
      exact kp_X12_file_103 h x3 x4 x5 x7 (nI 2) (some h) S C N hg  h1
  · have h1 := h1.2 z9
    refine x_iconst (v := (1 : Int32)) C dX12_file_74 (by decide) ?_
    refine x_goto (tgt := 103) C dX12_file_75 (by decide) ?_
    refine x_keep (L' := [(0, xm_r (some h)), (3, xm_i x3), (4, xm_i x4), (5, xm_i x5), (7, xm_i x7)]) C [1, 2, 3, 4, 6] rfl ?_
    exact kp_X12_file_103 h x3 x4 x5 x7 (1 : Int32) (some h) S C N hg  h1
def wp_X12_file_65 (h : Nat) (x3 : Int32) (x4 : Int32) (x5 : Int32) (x6 : Int32) (x7 : Int32) (S : xm_S) (g : Int32 → xm_S → Prop) : Prop :=
  wp_X12_file_66 h x3 x4 x5 x6 x7 (0 : Int32) S g
set_option maxRecDepth 100000 in
set_option maxHeartbeats 4000000 in
theorem kp_X12_file_65 {K : xm_K} (h : Nat) (x3 : Int32) (x4 : Int32) (x5 : Int32) (x6 : Int32) (x7 : Int32) (S : xm_S) {g : Int32 → xm_S → Prop} (C : xm_Cx K cX12_file RX12 10 (some (FieldType.int)) rm_X12_file) (N : xm_Nx K) (hg : ∀ v S, g v S → xm_q K (some (xm_i v)) S)  (h1 : wp_X12_file_65 h x3 x4 x5 x6 x7 S g) : xm_W K 0 0 65 [(0, xm_r (some h)), (3, xm_i x3), (4, xm_i x4), (5, xm_i x5), (6, xm_i x6), (7, xm_i x7)] [] S := by
  unfold wp_X12_file_65 at h1
  refine x_iconst (v := (0 : Int32)) C dX12_file_65 (by decide) ?_
  exact kp_X12_file_66 h x3 x4 x5 x6 x7 (0 : Int32) S C N hg  h1
def wp_X12_file_22 (h : Nat) (x3 : Int32) (x4 : Int32) (x5 : Int32) (x6 : Int32) (s0 : Int32) (S : xm_S) (g : Int32 → xm_S → Prop) : Prop :=
  (x6 = 0 → wp_X12_file_65 h x3 x4 x5 x6 s0 S g) ∧ (¬ x6 = 0 → wp_X12_in x3 (0 : Int32) (nI 15) S (fun r60 S59 => (r60 = 0 → wp_X12_file_65 h x3 x4 x5 x6 s0 S59 g) ∧ (¬ r60 = 0 → wp_X12_in x4 (0 : Int32) (nI 999) S59 (fun r62 S61 => (r62 = 0 → wp_X12_file_65 h x3 x4 x5 x6 s0 S61 g) ∧ (¬ r62 = 0 → st_t S61 h = some (12, 0) ∧ wp_X12_hasFile h s0 x3 S61 (fun r65 S64 => (¬ r65 = 0 → wp_X12_file_65 h x3 x4 x5 x6 s0 S64 g) ∧ (r65 = 0 → wp_X12_file_66 h x3 x4 x5 x6 s0 (1 : Int32) S64 g)))))))
set_option maxRecDepth 100000 in
set_option maxHeartbeats 4000000 in
theorem kp_X12_file_22 {K : xm_K} (h : Nat) (x3 : Int32) (x4 : Int32) (x5 : Int32) (x6 : Int32) (s0 : Int32) (S : xm_S) {g : Int32 → xm_S → Prop} (C : xm_Cx K cX12_file RX12 10 (some (FieldType.int)) rm_X12_file) (N : xm_Nx K) (hg : ∀ v S, g v S → xm_q K (some (xm_i v)) S)  (h1 : wp_X12_file_22 h x3 x4 x5 x6 s0 S g) : xm_W K 0 0 22 [(0, xm_r (some h)), (3, xm_i x3), (4, xm_i x4), (5, xm_i x5), (6, xm_i x6)] [xm_i s0] S := by
  unfold wp_X12_file_22 at h1
  refine x_istore (L' := [(7, xm_i s0), (0, xm_r (some h)), (3, xm_i x3), (4, xm_i x4), (5, xm_i x5), (6, xm_i x6)]) C dX12_file_22 (by decide) rfl ?_
  refine x_iload C 5 dX12_file_24 rfl ?_
  refine x_if_eq (tgt := 65) C dX12_file_26 (by decide) (fun z9 => ?_) (fun z9 => ?_)
  · have h1 := h1.1 z9
    refine x_keep (L' := [(0, xm_r (some h)), (3, xm_i x3), (4, xm_i x4), (5, xm_i x5), (6, xm_i x6), (7, xm_i s0)]) C [1, 2, 3, 4, 5, 0] rfl ?_
    exact kp_X12_file_65 h x3 x4 x5 x6 s0 S C N hg  h1
  · have h1 := h1.2 z9
    refine x_iload_n C 2 dX12_file_29 rfl rfl ?_
    refine x_iconst (v := (0 : Int32)) C dX12_file_30 (by decide) ?_
    refine x_bipush (v := (nI 15)) C dX12_file_31 (by decide) ?_
    refine x_callS (rm' := rm_X12_in) C (kp_X12_in_met h1) lk_87 gw_533 rfl (Nat.le_of_ble_eq_true rfl) ⟨Nat.le_of_ble_eq_true rfl, Nat.le_of_ble_eq_true rfl, (Nat.le_of_ble_eq_true rfl), (Nat.le_of_ble_eq_true rfl)⟩ dX12_file_33 xm_kx (xm_ki (fun r60 S59 h1 => ?_))
    refine x_if_eq (tgt := 65) C dX12_file_36 (by decide) (fun z9 => ?_) (fun z9 => ?_)
    · have h1 := h1.1 z9
      refine x_keep (L' := [(0, xm_r (some h)), (3, xm_i x3), (4, xm_i x4), (5, xm_i x5), (6, xm_i x6), (7, xm_i s0)]) C [1, 2, 3, 4, 5, 0] rfl ?_
      exact kp_X12_file_65 h x3 x4 x5 x6 s0 S59 C N hg  h1
    · have h1 := h1.2 z9
      refine x_iload C 3 dX12_file_39 rfl ?_
      refine x_iconst (v := (0 : Int32)) C dX12_file_41 (by decide) ?_
      refine x_sipush (v := (nI 999)) C dX12_file_42 (by decide) ?_
      refine x_callS (rm' := rm_X12_in) C (kp_X12_in_met h1) lk_87 gw_533 rfl (Nat.le_of_ble_eq_true rfl) ⟨Nat.le_of_ble_eq_true rfl, Nat.le_of_ble_eq_true rfl, (Nat.le_of_ble_eq_true rfl), (Nat.le_of_ble_eq_true rfl)⟩ dX12_file_45 xm_kx (xm_ki (fun r62 S61 h1 => ?_))
      refine x_if_eq (tgt := 65) C dX12_file_48 (by decide) (fun z9 => ?_) (fun z9 => ?_)
      · have h1 := h1.1 z9
        refine x_keep (L' := [(0, xm_r (some h)), (3, xm_i x3), (4, xm_i x4), (5, xm_i x5), (6, xm_i x6), (7, xm_i s0)]) C [1, 2, 3, 4, 5, 0] rfl ?_
        exact kp_X12_file_65 h x3 x4 x5 x6 s0 S61 C N hg  h1
      · have h1 := h1.2 z9
        refine x_aload_n C 1 dX12_file_51 rfl rfl ?_
        refine x_iload C 0 dX12_file_52 rfl ?_
        refine x_iload_n C 2 dX12_file_54 rfl rfl ?_
        obtain ⟨ht63, h1⟩ := h1
        refine x_callV (rm' := rm_X12_hasFile) (n := h) C (kp_X12_hasFile_met h1) lk_121 gw_719 gw_720 xv_12 rfl rfl ht63 rfl (Nat.le_of_ble_eq_true rfl) ⟨Nat.le_of_ble_eq_true rfl, Nat.le_of_ble_eq_true rfl, (Nat.le_of_ble_eq_true rfl), (Nat.le_of_ble_eq_true rfl)⟩ dX12_file_55 xm_kx (xm_ki (fun r65 S64 h1 => ?_))
        refine x_if_ne (tgt := 65) C dX12_file_58 (by decide) (fun z9 => ?_) (fun z9 => ?_)
        · have h1 := h1.1 z9
          refine x_keep (L' := [(0, xm_r (some h)), (3, xm_i x3), (4, xm_i x4), (5, xm_i x5), (6, xm_i x6), (7, xm_i s0)]) C [1, 2, 3, 4, 5, 0] rfl ?_
          exact kp_X12_file_65 h x3 x4 x5 x6 s0 S64 C N hg  h1
        · have h1 := h1.2 z9
          refine x_iconst (v := (1 : Int32)) C dX12_file_61 (by decide) ?_
          refine x_goto (tgt := 66) C dX12_file_62 (by decide) ?_
          refine x_keep (L' := [(0, xm_r (some h)), (3, xm_i x3), (4, xm_i x4), (5, xm_i x5), (6, xm_i x6), (7, xm_i s0)]) C [1, 2, 3, 4, 5, 0] rfl ?_
          exact kp_X12_file_66 h x3 x4 x5 x6 s0 (1 : Int32) S64 C N hg  h1
def wp_X12_file (h : Nat) (x1 : Int32) (x2 : Int32) (x3 : Int32) (x4 : Int32) (x5 : Int32) (S : xm_S) (g : Int32 → xm_S → Prop) : Prop :=
  st_t S h = some (12, 0) ∧ wp_X12_isVersion h x1 x2 S (fun r68 S67 => (r68 = 0 → wp_X12_file_22 h x3 x4 x5 r68 (0 : Int32) S67 g) ∧ (¬ r68 = 0 → wp_X12_file_22 h x3 x4 x5 r68 (((nI 4) * x1) + x2) S67 g))
set_option maxRecDepth 100000 in
set_option maxHeartbeats 4000000 in
theorem kp_X12_file {K : xm_K} (h : Nat) (x1 : Int32) (x2 : Int32) (x3 : Int32) (x4 : Int32) (x5 : Int32) (S : xm_S) {g : Int32 → xm_S → Prop} (C : xm_Cx K cX12_file RX12 10 (some (FieldType.int)) rm_X12_file) (N : xm_Nx K) (hg : ∀ v S, g v S → xm_q K (some (xm_i v)) S)  (h1 : wp_X12_file h x1 x2 x3 x4 x5 S g) : xm_W K 0 0 0 [(0, xm_r (some h)), (1, xm_i x1), (2, xm_i x2), (3, xm_i x3), (4, xm_i x4), (5, xm_i x5)] [] S := by
  unfold wp_X12_file at h1
  refine x_aload_n C 0 dX12_file_0 rfl rfl ?_
  refine x_iload_n C 1 dX12_file_1 rfl rfl ?_
  refine x_iload_n C 2 dX12_file_2 rfl rfl ?_
  obtain ⟨ht66, h1⟩ := h1
  refine x_callV (rm' := rm_X12_isVersion) (n := h) C (kp_X12_isVersion_met h1) lk_119 gw_699 gw_700 xv_12 rfl rfl ht66 rfl (Nat.le_of_ble_eq_true rfl) ⟨Nat.le_of_ble_eq_true rfl, Nat.le_of_ble_eq_true rfl, (Nat.le_of_ble_eq_true rfl), (Nat.le_of_ble_eq_true rfl)⟩ dX12_file_3 xm_kx (xm_ki (fun r68 S67 h1 => ?_))
  refine x_istore (L' := [(6, xm_i r68), (0, xm_r (some h)), (1, xm_i x1), (2, xm_i x2), (3, xm_i x3), (4, xm_i x4), (5, xm_i x5)]) C dX12_file_6 (by decide) rfl ?_
  refine x_iload C 0 dX12_file_8 rfl ?_
  refine x_if_eq (tgt := 21) C dX12_file_10 (by decide) (fun z9 => ?_) (fun z9 => ?_)
  · have h1 := h1.1 z9
    refine x_iconst (v := (0 : Int32)) C dX12_file_21 (by decide) ?_
    refine x_keep (L' := [(0, xm_r (some h)), (3, xm_i x3), (4, xm_i x4), (5, xm_i x5), (6, xm_i r68)]) C [1, 4, 5, 6, 0] rfl ?_
    exact kp_X12_file_22 h x3 x4 x5 r68 (0 : Int32) S67 C N hg  h1
  · have h1 := h1.2 z9
    refine x_iconst (v := (nI 4)) C dX12_file_13 (by decide) ?_
    refine x_iload_n C 2 dX12_file_14 rfl rfl ?_
    refine x_imul C dX12_file_15 ?_
    refine x_iload_n C 3 dX12_file_16 rfl rfl ?_
    refine x_iadd C dX12_file_17 ?_
    refine x_goto (tgt := 22) C dX12_file_18 (by decide) ?_
    refine x_keep (L' := [(0, xm_r (some h)), (3, xm_i x3), (4, xm_i x4), (5, xm_i x5), (6, xm_i r68)]) C [1, 4, 5, 6, 0] rfl ?_
    exact kp_X12_file_22 h x3 x4 x5 r68 (((nI 4) * x1) + x2) S67 C N hg  h1
theorem kp_X12_file_met {h : Nat} {x1 : Int32} {x2 : Int32} {x3 : Int32} {x4 : Int32} {x5 : Int32} {S : xm_S} {g : Int32 → xm_S → Prop}  (h1 : wp_X12_file h x1 x2 x3 x4 x5 S g) : xm_Met yX12_file cX12_file 10 (some (FieldType.int)) rm_X12_file [xm_r (some h), xm_i x1, xm_i x2, xm_i x3, xm_i x4, xm_i x5] S (xm_qi g) xm_nox :=
  xm_ofW RX12 (by decide +kernel) rfl (Nat.le_of_ble_eq_true rfl) (fun K C N hq hx hi => kp_X12_file h x1 x2 x3 x4 x5 S C N (fun v S h => by rw [hq]; exact ⟨v, rfl, h⟩)  h1)
def rm_X12_placeOf : Room := { frames := 1, cells := 0, slots := 0, locals := 20 }
theorem dX12_placeOf_0 : decode cX12_placeOf 0 = .ok (.aload_n 0, 1) := by decide +kernel
theorem dX12_placeOf_1 : decode cX12_placeOf 1 = .ok (.getfield 142, 3) := by decide +kernel
theorem dX12_placeOf_4 : decode cX12_placeOf 4 = .ok (.iload_n 2, 1) := by decide +kernel
theorem dX12_placeOf_5 : decode cX12_placeOf 5 = .ok (.iaload, 1) := by decide +kernel
theorem dX12_placeOf_6 : decode cX12_placeOf 6 = .ok (.iconst (-1), 1) := by decide +kernel
theorem dX12_placeOf_7 : decode cX12_placeOf 7 = .ok (.if_icmp .eq 13, 3) := by decide +kernel
theorem dX12_placeOf_10 : decode cX12_placeOf 10 = .ok (.aload_n 0, 1) := by decide +kernel
theorem dX12_placeOf_11 : decode cX12_placeOf 11 = .ok (.getfield 142, 3) := by decide +kernel
theorem dX12_placeOf_14 : decode cX12_placeOf 14 = .ok (.iload_n 2, 1) := by decide +kernel
theorem dX12_placeOf_15 : decode cX12_placeOf 15 = .ok (.iaload, 1) := by decide +kernel
theorem dX12_placeOf_16 : decode cX12_placeOf 16 = .ok (.iload_n 1, 1) := by decide +kernel
theorem dX12_placeOf_17 : decode cX12_placeOf 17 = .ok (.if_icmp .ne 7, 3) := by decide +kernel
theorem dX12_placeOf_20 : decode cX12_placeOf 20 = .ok (.iload_n 2, 1) := by decide +kernel
theorem dX12_placeOf_21 : decode cX12_placeOf 21 = .ok (.goto 9, 3) := by decide +kernel
theorem dX12_placeOf_24 : decode cX12_placeOf 24 = .ok (.aload_n 0, 1) := by decide +kernel
theorem dX12_placeOf_25 : decode cX12_placeOf 25 = .ok (.getfield 145, 3) := by decide +kernel
theorem dX12_placeOf_28 : decode cX12_placeOf 28 = .ok (.iload_n 2, 1) := by decide +kernel
theorem dX12_placeOf_29 : decode cX12_placeOf 29 = .ok (.iaload, 1) := by decide +kernel
theorem dX12_placeOf_30 : decode cX12_placeOf 30 = .ok (.ireturn, 1) := by decide +kernel
def wp_X12_placeOf_30 (h : Nat) (s0 : Int32) (S : xm_S) (g : Int32 → xm_S → Prop) : Prop :=
  g s0 S
set_option maxRecDepth 100000 in
set_option maxHeartbeats 4000000 in
theorem kp_X12_placeOf_30 {K : xm_K} (h : Nat) (s0 : Int32) (S : xm_S) {g : Int32 → xm_S → Prop} (C : xm_Cx K cX12_placeOf RX12 3 (some (FieldType.int)) rm_X12_placeOf) (N : xm_Nx K) (hg : ∀ v S, g v S → xm_q K (some (xm_i v)) S)  (h1 : wp_X12_placeOf_30 h s0 S g) : xm_W K 0 0 30 [] [xm_i s0] S := by
  unfold wp_X12_placeOf_30 at h1
  exact x_iret C (Nat.le_of_ble_eq_true rfl) (Nat.le_of_ble_eq_true rfl) rfl dX12_placeOf_30 (hg _ _ h1)
def wp_X12_placeOf_20 (h : Nat) (x2 : Int32) (S : xm_S) (g : Int32 → xm_S → Prop) : Prop :=
  wp_X12_placeOf_30 h x2 S g
set_option maxRecDepth 100000 in
set_option maxHeartbeats 4000000 in
theorem kp_X12_placeOf_20 {K : xm_K} (h : Nat) (x2 : Int32) (S : xm_S) {g : Int32 → xm_S → Prop} (C : xm_Cx K cX12_placeOf RX12 3 (some (FieldType.int)) rm_X12_placeOf) (N : xm_Nx K) (hg : ∀ v S, g v S → xm_q K (some (xm_i v)) S)  (h1 : wp_X12_placeOf_20 h x2 S g) : xm_W K 0 0 20 [(2, xm_i x2)] [] S := by
  unfold wp_X12_placeOf_20 at h1
  refine x_iload_n C 0 dX12_placeOf_20 rfl rfl ?_
  refine x_goto (tgt := 30) C dX12_placeOf_21 (by decide) ?_
  refine x_keep (L' := []) C [] rfl ?_
  exact kp_X12_placeOf_30 h x2 S C N hg  h1
def wp_X12_placeOf (h : Nat) (x1 : Int32) (x2 : Int32) (S : xm_S) (g : Int32 → xm_S → Prop) : Prop :=
  st_t S h = some (12, 0) ∧ ∃ n2, (st_r S h 48) = some n2 ∧ ∃ z5, st_t S n2 = some (100, z5) ∧ vp_in x2 z5 ∧ ((st_i S n2 (x2).toNatClampNeg) = (-1 : Int32) → wp_X12_placeOf_20 h x2 S g) ∧ (¬ (st_i S n2 (x2).toNatClampNeg) = (-1 : Int32) → ∃ n7, (st_r S h 48) = some n7 ∧ ∃ z10, st_t S n7 = some (100, z10) ∧ vp_in x2 z10 ∧ (¬ (st_i S n7 (x2).toNatClampNeg) = x1 → ∃ n12, (st_r S h 49) = some n12 ∧ ∃ z15, st_t S n12 = some (100, z15) ∧ vp_in x2 z15 ∧ wp_X12_placeOf_30 h (st_i S n12 (x2).toNatClampNeg) S g) ∧ ((st_i S n7 (x2).toNatClampNeg) = x1 → wp_X12_placeOf_20 h x2 S g))
set_option maxRecDepth 100000 in
set_option maxHeartbeats 4000000 in
theorem kp_X12_placeOf {K : xm_K} (h : Nat) (x1 : Int32) (x2 : Int32) (S : xm_S) {g : Int32 → xm_S → Prop} (C : xm_Cx K cX12_placeOf RX12 3 (some (FieldType.int)) rm_X12_placeOf) (N : xm_Nx K) (hg : ∀ v S, g v S → xm_q K (some (xm_i v)) S)  (h1 : wp_X12_placeOf h x1 x2 S g) : xm_W K 0 0 0 [(0, xm_r (some h)), (1, xm_i x1), (2, xm_i x2)] [] S := by
  unfold wp_X12_placeOf at h1
  refine x_aload_n C 0 dX12_placeOf_0 rfl rfl ?_
  obtain ⟨ht1, h1⟩ := h1
  refine x_getf_r (n := h) C rfl ht1 fd_201 (by decide) dX12_placeOf_1 ?_
  refine x_iload_n C 2 dX12_placeOf_4 rfl rfl ?_
  obtain ⟨n2, hr3, h1⟩ := h1
  obtain ⟨z5, ht4, h1⟩ := h1
  obtain ⟨hi6, h1⟩ := h1
  refine x_iald (n := n2) C hr3 ht4 hi6 dX12_placeOf_5 ?_
  refine x_iconst (v := (-1 : Int32)) C dX12_placeOf_6 (by decide) ?_
  refine x_icmp_eq (tgt := 20) C dX12_placeOf_7 (by decide) (fun z9 => ?_) (fun z9 => ?_)
  · have h1 := h1.1 z9
    refine x_keep (L' := [(2, xm_i x2)]) C [2] rfl ?_
    exact kp_X12_placeOf_20 h x2 S C N hg  h1
  · have h1 := h1.2 z9
    refine x_aload_n C 0 dX12_placeOf_10 rfl rfl ?_
    refine x_getf_r (n := h) C rfl ht1 fd_201 (by decide) dX12_placeOf_11 ?_
    refine x_iload_n C 2 dX12_placeOf_14 rfl rfl ?_
    obtain ⟨n7, hr8, h1⟩ := h1
    obtain ⟨z10, ht9, h1⟩ := h1
    obtain ⟨hi11, h1⟩ := h1
    refine x_iald (n := n7) C hr8 ht9 hi11 dX12_placeOf_15 ?_
    refine x_iload_n C 1 dX12_placeOf_16 rfl rfl ?_
    refine x_icmp_ne (tgt := 24) C dX12_placeOf_17 (by decide) (fun z9 => ?_) (fun z9 => ?_)
    · have h1 := h1.1 z9
      refine x_aload_n C 0 dX12_placeOf_24 rfl rfl ?_
      refine x_getf_r (n := h) C rfl ht1 fd_202 (by decide) dX12_placeOf_25 ?_
      refine x_iload_n C 2 dX12_placeOf_28 rfl rfl ?_
      obtain ⟨n12, hr13, h1⟩ := h1
      obtain ⟨z15, ht14, h1⟩ := h1
      obtain ⟨hi16, h1⟩ := h1
      refine x_iald (n := n12) C hr13 ht14 hi16 dX12_placeOf_29 ?_
      refine x_keep (L' := []) C [] rfl ?_
      exact kp_X12_placeOf_30 h (st_i S n12 (x2).toNatClampNeg) S C N hg  h1
    · have h1 := h1.2 z9
      refine x_keep (L' := [(2, xm_i x2)]) C [2] rfl ?_
      exact kp_X12_placeOf_20 h x2 S C N hg  h1
theorem kp_X12_placeOf_met {h : Nat} {x1 : Int32} {x2 : Int32} {S : xm_S} {g : Int32 → xm_S → Prop}  (h1 : wp_X12_placeOf h x1 x2 S g) : xm_Met yX12_placeOf cX12_placeOf 3 (some (FieldType.int)) rm_X12_placeOf [xm_r (some h), xm_i x1, xm_i x2] S (xm_qi g) xm_nox :=
  xm_ofW RX12 (by decide +kernel) rfl (Nat.le_of_ble_eq_true rfl) (fun K C N hq hx hi => kp_X12_placeOf h x1 x2 S C N (fun v S h => by rw [hq]; exact ⟨v, rfl, h⟩)  h1)
def rm_X12_fileComes : Room := { frames := 2, cells := 0, slots := 0, locals := 42 }
theorem dX12_fileComes_0 : decode cX12_fileComes 0 = .ok (.aload_n 0, 1) := by decide +kernel
theorem dX12_fileComes_1 : decode cX12_fileComes 1 = .ok (.iload_n 1, 1) := by decide +kernel
theorem dX12_fileComes_2 : decode cX12_fileComes 2 = .ok (.aload_n 0, 1) := by decide +kernel
theorem dX12_fileComes_3 : decode cX12_fileComes 3 = .ok (.getfield 133, 3) := by decide +kernel
theorem dX12_fileComes_6 : decode cX12_fileComes 6 = .ok (.iload_n 2, 1) := by decide +kernel
theorem dX12_fileComes_7 : decode cX12_fileComes 7 = .ok (.iaload, 1) := by decide +kernel
theorem dX12_fileComes_8 : decode cX12_fileComes 8 = .ok (.invokevirtual 337, 3) := by decide +kernel
theorem dX12_fileComes_11 : decode cX12_fileComes 11 = .ok (.istore_n 3, 1) := by decide +kernel
theorem dX12_fileComes_12 : decode cX12_fileComes 12 = .ok (.bipush 6, 2) := by decide +kernel
theorem dX12_fileComes_14 : decode cX12_fileComes 14 = .ok (.iload_n 3, 1) := by decide +kernel
theorem dX12_fileComes_15 : decode cX12_fileComes 15 = .ok (.iadd, 1) := by decide +kernel
theorem dX12_fileComes_16 : decode cX12_fileComes 16 = .ok (.istore 4, 2) := by decide +kernel
theorem dX12_fileComes_18 : decode cX12_fileComes 18 = .ok (.bipush 38, 2) := by decide +kernel
theorem dX12_fileComes_20 : decode cX12_fileComes 20 = .ok (.iload_n 3, 1) := by decide +kernel
theorem dX12_fileComes_21 : decode cX12_fileComes 21 = .ok (.iadd, 1) := by decide +kernel
theorem dX12_fileComes_22 : decode cX12_fileComes 22 = .ok (.istore 5, 2) := by decide +kernel
theorem dX12_fileComes_24 : decode cX12_fileComes 24 = .ok (.iconst 0, 1) := by decide +kernel
theorem dX12_fileComes_25 : decode cX12_fileComes 25 = .ok (.istore 6, 2) := by decide +kernel
theorem dX12_fileComes_27 : decode cX12_fileComes 27 = .ok (.aload_n 0, 1) := by decide +kernel
theorem dX12_fileComes_28 : decode cX12_fileComes 28 = .ok (.getfield 139, 3) := by decide +kernel
theorem dX12_fileComes_31 : decode cX12_fileComes 31 = .ok (.iload_n 2, 1) := by decide +kernel
theorem dX12_fileComes_32 : decode cX12_fileComes 32 = .ok (.baload, 1) := by decide +kernel
theorem dX12_fileComes_33 : decode cX12_fileComes 33 = .ok (.ifCond .eq 86, 3) := by decide +kernel
theorem dX12_fileComes_36 : decode cX12_fileComes 36 = .ok (.aload_n 0, 1) := by decide +kernel
theorem dX12_fileComes_37 : decode cX12_fileComes 37 = .ok (.getfield 148, 3) := by decide +kernel
theorem dX12_fileComes_40 : decode cX12_fileComes 40 = .ok (.iload 4, 2) := by decide +kernel
theorem dX12_fileComes_42 : decode cX12_fileComes 42 = .ok (.iaload, 1) := by decide +kernel
theorem dX12_fileComes_43 : decode cX12_fileComes 43 = .ok (.iconst (-1), 1) := by decide +kernel
theorem dX12_fileComes_44 : decode cX12_fileComes 44 = .ok (.if_icmp .eq 75, 3) := by decide +kernel
theorem dX12_fileComes_47 : decode cX12_fileComes 47 = .ok (.aload_n 0, 1) := by decide +kernel
theorem dX12_fileComes_48 : decode cX12_fileComes 48 = .ok (.getfield 148, 3) := by decide +kernel
theorem dX12_fileComes_51 : decode cX12_fileComes 51 = .ok (.bipush 22, 2) := by decide +kernel
theorem dX12_fileComes_53 : decode cX12_fileComes 53 = .ok (.iload_n 3, 1) := by decide +kernel
theorem dX12_fileComes_54 : decode cX12_fileComes 54 = .ok (.iadd, 1) := by decide +kernel
theorem dX12_fileComes_55 : decode cX12_fileComes 55 = .ok (.iaload, 1) := by decide +kernel
theorem dX12_fileComes_56 : decode cX12_fileComes 56 = .ok (.iload_n 1, 1) := by decide +kernel
theorem dX12_fileComes_57 : decode cX12_fileComes 57 = .ok (.if_icmp .ne 62, 3) := by decide +kernel
theorem dX12_fileComes_60 : decode cX12_fileComes 60 = .ok (.aload_n 0, 1) := by decide +kernel
theorem dX12_fileComes_61 : decode cX12_fileComes 61 = .ok (.getfield 148, 3) := by decide +kernel
theorem dX12_fileComes_64 : decode cX12_fileComes 64 = .ok (.iload 4, 2) := by decide +kernel
theorem dX12_fileComes_66 : decode cX12_fileComes 66 = .ok (.iaload, 1) := by decide +kernel
theorem dX12_fileComes_67 : decode cX12_fileComes 67 = .ok (.aload_n 0, 1) := by decide +kernel
theorem dX12_fileComes_68 : decode cX12_fileComes 68 = .ok (.getfield 148, 3) := by decide +kernel
theorem dX12_fileComes_71 : decode cX12_fileComes 71 = .ok (.iload 5, 2) := by decide +kernel
theorem dX12_fileComes_73 : decode cX12_fileComes 73 = .ok (.iaload, 1) := by decide +kernel
theorem dX12_fileComes_74 : decode cX12_fileComes 74 = .ok (.if_icmp .eq 7, 3) := by decide +kernel
theorem dX12_fileComes_77 : decode cX12_fileComes 77 = .ok (.iconst 1, 1) := by decide +kernel
theorem dX12_fileComes_78 : decode cX12_fileComes 78 = .ok (.goto 4, 3) := by decide +kernel
theorem dX12_fileComes_81 : decode cX12_fileComes 81 = .ok (.iconst 0, 1) := by decide +kernel
theorem dX12_fileComes_82 : decode cX12_fileComes 82 = .ok (.istore 6, 2) := by decide +kernel
theorem dX12_fileComes_84 : decode cX12_fileComes 84 = .ok (.aload_n 0, 1) := by decide +kernel
theorem dX12_fileComes_85 : decode cX12_fileComes 85 = .ok (.dup, 1) := by decide +kernel
theorem dX12_fileComes_86 : decode cX12_fileComes 86 = .ok (.getfield 343, 3) := by decide +kernel
theorem dX12_fileComes_89 : decode cX12_fileComes 89 = .ok (.iload 6, 2) := by decide +kernel
theorem dX12_fileComes_91 : decode cX12_fileComes 91 = .ok (.ifCond .eq 23, 3) := by decide +kernel
theorem dX12_fileComes_94 : decode cX12_fileComes 94 = .ok (.aload_n 0, 1) := by decide +kernel
theorem dX12_fileComes_95 : decode cX12_fileComes 95 = .ok (.getfield 148, 3) := by decide +kernel
theorem dX12_fileComes_98 : decode cX12_fileComes 98 = .ok (.iload 5, 2) := by decide +kernel
theorem dX12_fileComes_100 : decode cX12_fileComes 100 = .ok (.iaload, 1) := by decide +kernel
theorem dX12_fileComes_101 : decode cX12_fileComes 101 = .ok (.aload_n 0, 1) := by decide +kernel
theorem dX12_fileComes_102 : decode cX12_fileComes 102 = .ok (.getfield 136, 3) := by decide +kernel
theorem dX12_fileComes_105 : decode cX12_fileComes 105 = .ok (.iload_n 2, 1) := by decide +kernel
theorem dX12_fileComes_106 : decode cX12_fileComes 106 = .ok (.iaload, 1) := by decide +kernel
theorem dX12_fileComes_107 : decode cX12_fileComes 107 = .ok (.if_icmp .eq 7, 3) := by decide +kernel
theorem dX12_fileComes_110 : decode cX12_fileComes 110 = .ok (.iconst 1, 1) := by decide +kernel
theorem dX12_fileComes_111 : decode cX12_fileComes 111 = .ok (.goto 4, 3) := by decide +kernel
theorem dX12_fileComes_114 : decode cX12_fileComes 114 = .ok (.iconst 0, 1) := by decide +kernel
theorem dX12_fileComes_115 : decode cX12_fileComes 115 = .ok (.iadd, 1) := by decide +kernel
theorem dX12_fileComes_116 : decode cX12_fileComes 116 = .ok (.putfield 343, 3) := by decide +kernel
theorem dX12_fileComes_119 : decode cX12_fileComes 119 = .ok (.aload_n 0, 1) := by decide +kernel
theorem dX12_fileComes_120 : decode cX12_fileComes 120 = .ok (.getfield 148, 3) := by decide +kernel
theorem dX12_fileComes_123 : decode cX12_fileComes 123 = .ok (.iload 4, 2) := by decide +kernel
theorem dX12_fileComes_125 : decode cX12_fileComes 125 = .ok (.iload 6, 2) := by decide +kernel
theorem dX12_fileComes_127 : decode cX12_fileComes 127 = .ok (.ifCond .eq 13, 3) := by decide +kernel
theorem dX12_fileComes_130 : decode cX12_fileComes 130 = .ok (.aload_n 0, 1) := by decide +kernel
theorem dX12_fileComes_131 : decode cX12_fileComes 131 = .ok (.getfield 148, 3) := by decide +kernel
theorem dX12_fileComes_134 : decode cX12_fileComes 134 = .ok (.iload 4, 2) := by decide +kernel
theorem dX12_fileComes_136 : decode cX12_fileComes 136 = .ok (.iaload, 1) := by decide +kernel
theorem dX12_fileComes_137 : decode cX12_fileComes 137 = .ok (.goto 9, 3) := by decide +kernel
theorem dX12_fileComes_140 : decode cX12_fileComes 140 = .ok (.aload_n 0, 1) := by decide +kernel
theorem dX12_fileComes_141 : decode cX12_fileComes 141 = .ok (.getfield 136, 3) := by decide +kernel
theorem dX12_fileComes_144 : decode cX12_fileComes 144 = .ok (.iload_n 2, 1) := by decide +kernel
theorem dX12_fileComes_145 : decode cX12_fileComes 145 = .ok (.iaload, 1) := by decide +kernel
theorem dX12_fileComes_146 : decode cX12_fileComes 146 = .ok (.iastore, 1) := by decide +kernel
theorem dX12_fileComes_147 : decode cX12_fileComes 147 = .ok (.aload_n 0, 1) := by decide +kernel
theorem dX12_fileComes_148 : decode cX12_fileComes 148 = .ok (.getfield 148, 3) := by decide +kernel
theorem dX12_fileComes_151 : decode cX12_fileComes 151 = .ok (.bipush 22, 2) := by decide +kernel
theorem dX12_fileComes_153 : decode cX12_fileComes 153 = .ok (.iload_n 3, 1) := by decide +kernel
theorem dX12_fileComes_154 : decode cX12_fileComes 154 = .ok (.iadd, 1) := by decide +kernel
theorem dX12_fileComes_155 : decode cX12_fileComes 155 = .ok (.iload_n 1, 1) := by decide +kernel
theorem dX12_fileComes_156 : decode cX12_fileComes 156 = .ok (.iastore, 1) := by decide +kernel
theorem dX12_fileComes_157 : decode cX12_fileComes 157 = .ok (.aload_n 0, 1) := by decide +kernel
theorem dX12_fileComes_158 : decode cX12_fileComes 158 = .ok (.getfield 148, 3) := by decide +kernel
theorem dX12_fileComes_161 : decode cX12_fileComes 161 = .ok (.iload 5, 2) := by decide +kernel
theorem dX12_fileComes_163 : decode cX12_fileComes 163 = .ok (.aload_n 0, 1) := by decide +kernel
theorem dX12_fileComes_164 : decode cX12_fileComes 164 = .ok (.getfield 136, 3) := by decide +kernel
theorem dX12_fileComes_167 : decode cX12_fileComes 167 = .ok (.iload_n 2, 1) := by decide +kernel
theorem dX12_fileComes_168 : decode cX12_fileComes 168 = .ok (.iaload, 1) := by decide +kernel
theorem dX12_fileComes_169 : decode cX12_fileComes 169 = .ok (.iastore, 1) := by decide +kernel
theorem dX12_fileComes_170 : decode cX12_fileComes 170 = .ok (.return_, 1) := by decide +kernel
def wp_X12_fileComes_146 (h : Nat) (x1 : Int32) (x2 : Int32) (x3 : Int32) (x5 : Int32) (s0 : Int32) (s1 : Int32) (s2 : Option Nat) (S : xm_S) (g : xm_S → Prop) : Prop :=
  ∃ n1, s2 = some n1 ∧ ∃ z4, st_t S n1 = some (100, z4) ∧ vp_in s1 z4 ∧ ∀ S6, S6 = st_pi S n1 (s1).toNatClampNeg s0 → st_t S6 h = some (12, 0) ∧ ∃ n9, (st_r S6 h 50) = some n9 ∧ ∃ z12, st_t S6 n9 = some (100, z12) ∧ vp_in ((nI 22) + x3) z12 ∧ ∀ S14, S14 = st_pi S6 n9 (((nI 22) + x3)).toNatClampNeg x1 → ∃ n16, (st_r S14 h 46) = some n16 ∧ ∃ z19, st_t S14 n16 = some (100, z19) ∧ vp_in x2 z19 ∧ ∃ n21, (st_r S14 h 50) = some n21 ∧ ∃ z24, st_t S14 n21 = some (100, z24) ∧ vp_in x5 z24 ∧ ∀ S26, S26 = st_pi S14 n21 (x5).toNatClampNeg (st_i S14 n16 (x2).toNatClampNeg) → g S26
set_option maxRecDepth 100000 in
set_option maxHeartbeats 4000000 in
theorem kp_X12_fileComes_146 {K : xm_K} (h : Nat) (x1 : Int32) (x2 : Int32) (x3 : Int32) (x5 : Int32) (s0 : Int32) (s1 : Int32) (s2 : Option Nat) (S : xm_S) {g : xm_S → Prop} (C : xm_Cx K cX12_fileComes RX12 7 none rm_X12_fileComes) (N : xm_Nx K) (hg : ∀ S, g S → xm_q K none S)  (h1 : wp_X12_fileComes_146 h x1 x2 x3 x5 s0 s1 s2 S g) : xm_W K 0 0 146 [(0, xm_r (some h)), (1, xm_i x1), (2, xm_i x2), (3, xm_i x3), (5, xm_i x5)] [xm_i s0, xm_i s1, xm_r s2] S := by
  unfold wp_X12_fileComes_146 at h1
  obtain ⟨n1, hr2, h1⟩ := h1
  obtain ⟨z4, ht3, h1⟩ := h1
  obtain ⟨hi5, h1⟩ := h1
  refine x_iast (n := n1) C hr2 ht3 hi5 dX12_fileComes_146 ?_
  refine x_topS (fun S6 e7 => ?_)
  have h1 := h1 S6 e7
  refine x_aload_n C 0 dX12_fileComes_147 rfl rfl ?_
  obtain ⟨ht8, h1⟩ := h1
  refine x_getf_r (n := h) C rfl ht8 fd_203 (by decide) dX12_fileComes_148 ?_
  refine x_bipush (v := (nI 22)) C dX12_fileComes_151 (by decide) ?_
  refine x_iload_n C 3 dX12_fileComes_153 rfl rfl ?_
  refine x_iadd C dX12_fileComes_154 ?_
  refine x_iload_n C 1 dX12_fileComes_155 rfl rfl ?_
  obtain ⟨n9, hr10, h1⟩ := h1
  obtain ⟨z12, ht11, h1⟩ := h1
  obtain ⟨hi13, h1⟩ := h1
  refine x_iast (n := n9) C hr10 ht11 hi13 dX12_fileComes_156 ?_
  refine x_topS (fun S14 e15 => ?_)
  have h1 := h1 S14 e15
  refine x_aload_n C 0 dX12_fileComes_157 rfl rfl ?_
  refine x_getf_r (n := h) C rfl (tk_p e15 ht8) fd_203 (by decide) dX12_fileComes_158 ?_
  refine x_iload C 4 dX12_fileComes_161 rfl ?_
  refine x_aload_n C 0 dX12_fileComes_163 rfl rfl ?_
  refine x_getf_r (n := h) C rfl (tk_p e15 ht8) fd_211 (by decide) dX12_fileComes_164 ?_
  refine x_iload_n C 2 dX12_fileComes_167 rfl rfl ?_
  obtain ⟨n16, hr17, h1⟩ := h1
  obtain ⟨z19, ht18, h1⟩ := h1
  obtain ⟨hi20, h1⟩ := h1
  refine x_iald (n := n16) C hr17 ht18 hi20 dX12_fileComes_168 ?_
  obtain ⟨n21, hr22, h1⟩ := h1
  obtain ⟨z24, ht23, h1⟩ := h1
  obtain ⟨hi25, h1⟩ := h1
  refine x_iast (n := n21) C hr22 ht23 hi25 dX12_fileComes_169 ?_
  refine x_topS (fun S26 e27 => ?_)
  have h1 := h1 S26 e27
  exact x_vret C (Nat.le_of_ble_eq_true rfl) (Nat.le_of_ble_eq_true rfl) rfl dX12_fileComes_170 (hg _ h1)
def wp_X12_fileComes_119 (h : Nat) (x1 : Int32) (x2 : Int32) (x3 : Int32) (x4 : Int32) (x5 : Int32) (x6 : Int32) (S : xm_S) (g : xm_S → Prop) : Prop :=
  st_t S h = some (12, 0) ∧ (x6 = 0 → ∃ n29, (st_r S h 46) = some n29 ∧ ∃ z32, st_t S n29 = some (100, z32) ∧ vp_in x2 z32 ∧ wp_X12_fileComes_146 h x1 x2 x3 x5 (st_i S n29 (x2).toNatClampNeg) x4 (st_r S h 50) S g) ∧ (¬ x6 = 0 → ∃ n34, (st_r S h 50) = some n34 ∧ ∃ z37, st_t S n34 = some (100, z37) ∧ vp_in x4 z37 ∧ wp_X12_fileComes_146 h x1 x2 x3 x5 (st_i S n34 (x4).toNatClampNeg) x4 (st_r S h 50) S g)
set_option maxRecDepth 100000 in
set_option maxHeartbeats 4000000 in
theorem kp_X12_fileComes_119 {K : xm_K} (h : Nat) (x1 : Int32) (x2 : Int32) (x3 : Int32) (x4 : Int32) (x5 : Int32) (x6 : Int32) (S : xm_S) {g : xm_S → Prop} (C : xm_Cx K cX12_fileComes RX12 7 none rm_X12_fileComes) (N : xm_Nx K) (hg : ∀ S, g S → xm_q K none S)  (h1 : wp_X12_fileComes_119 h x1 x2 x3 x4 x5 x6 S g) : xm_W K 0 0 119 [(0, xm_r (some h)), (1, xm_i x1), (2, xm_i x2), (3, xm_i x3), (4, xm_i x4), (5, xm_i x5), (6, xm_i x6)] [] S := by
  unfold wp_X12_fileComes_119 at h1
  refine x_aload_n C 0 dX12_fileComes_119 rfl rfl ?_
  obtain ⟨ht28, h1⟩ := h1
  refine x_getf_r (n := h) C rfl ht28 fd_203 (by decide) dX12_fileComes_120 ?_
  refine x_iload C 4 dX12_fileComes_123 rfl ?_
  refine x_iload C 6 dX12_fileComes_125 rfl ?_
  refine x_if_eq (tgt := 140) C dX12_fileComes_127 (by decide) (fun z9 => ?_) (fun z9 => ?_)
  · have h1 := h1.1 z9
    refine x_aload_n C 0 dX12_fileComes_140 rfl rfl ?_
    refine x_getf_r (n := h) C rfl ht28 fd_211 (by decide) dX12_fileComes_141 ?_
    refine x_iload_n C 2 dX12_fileComes_144 rfl rfl ?_
    obtain ⟨n29, hr30, h1⟩ := h1
    obtain ⟨z32, ht31, h1⟩ := h1
    obtain ⟨hi33, h1⟩ := h1
    refine x_iald (n := n29) C hr30 ht31 hi33 dX12_fileComes_145 ?_
    refine x_keep (L' := [(0, xm_r (some h)), (1, xm_i x1), (2, xm_i x2), (3, xm_i x3), (5, xm_i x5)]) C [0, 1, 2, 3, 5] rfl ?_
    exact kp_X12_fileComes_146 h x1 x2 x3 x5 (st_i S n29 (x2).toNatClampNeg) x4 (st_r S h 50) S C N hg  h1
  · have h1 := h1.2 z9
    refine x_aload_n C 0 dX12_fileComes_130 rfl rfl ?_
    refine x_getf_r (n := h) C rfl ht28 fd_203 (by decide) dX12_fileComes_131 ?_
    refine x_iload C 4 dX12_fileComes_134 rfl ?_
    obtain ⟨n34, hr35, h1⟩ := h1
    obtain ⟨z37, ht36, h1⟩ := h1
    obtain ⟨hi38, h1⟩ := h1
    refine x_iald (n := n34) C hr35 ht36 hi38 dX12_fileComes_136 ?_
    refine x_goto (tgt := 146) C dX12_fileComes_137 (by decide) ?_
    refine x_keep (L' := [(0, xm_r (some h)), (1, xm_i x1), (2, xm_i x2), (3, xm_i x3), (5, xm_i x5)]) C [0, 1, 2, 3, 5] rfl ?_
    exact kp_X12_fileComes_146 h x1 x2 x3 x5 (st_i S n34 (x4).toNatClampNeg) x4 (st_r S h 50) S C N hg  h1
def wp_X12_fileComes_115 (h : Nat) (x1 : Int32) (x2 : Int32) (x3 : Int32) (x4 : Int32) (x5 : Int32) (x6 : Int32) (s0 : Int32) (s1 : Int32) (s2 : Option Nat) (S : xm_S) (g : xm_S → Prop) : Prop :=
  ∃ n39, s2 = some n39 ∧ st_t S n39 = some (12, 0) ∧ ∀ S42, S42 = st_pi S n39 53 (s1 + s0) → wp_X12_fileComes_119 h x1 x2 x3 x4 x5 x6 S42 g
set_option maxRecDepth 100000 in
set_option maxHeartbeats 4000000 in
theorem kp_X12_fileComes_115 {K : xm_K} (h : Nat) (x1 : Int32) (x2 : Int32) (x3 : Int32) (x4 : Int32) (x5 : Int32) (x6 : Int32) (s0 : Int32) (s1 : Int32) (s2 : Option Nat) (S : xm_S) {g : xm_S → Prop} (C : xm_Cx K cX12_fileComes RX12 7 none rm_X12_fileComes) (N : xm_Nx K) (hg : ∀ S, g S → xm_q K none S)  (h1 : wp_X12_fileComes_115 h x1 x2 x3 x4 x5 x6 s0 s1 s2 S g) : xm_W K 0 0 115 [(0, xm_r (some h)), (1, xm_i x1), (2, xm_i x2), (3, xm_i x3), (4, xm_i x4), (5, xm_i x5), (6, xm_i x6)] [xm_i s0, xm_i s1, xm_r s2] S := by
  unfold wp_X12_fileComes_115 at h1
  refine x_iadd C dX12_fileComes_115 ?_
  obtain ⟨n39, hr40, h1⟩ := h1
  obtain ⟨ht41, h1⟩ := h1
  refine x_putf_i (n := n39) C hr40 ht41 fd_172 xc_12 (by decide) rfl ⟨rfl, rfl⟩ dX12_fileComes_116 ?_
  refine x_topS (fun S42 e43 => ?_)
  have h1 := h1 S42 e43
  exact kp_X12_fileComes_119 h x1 x2 x3 x4 x5 x6 S42 C N hg  h1
def wp_X12_fileComes_114 (h : Nat) (x1 : Int32) (x2 : Int32) (x3 : Int32) (x4 : Int32) (x5 : Int32) (x6 : Int32) (s0 : Int32) (s1 : Option Nat) (S : xm_S) (g : xm_S → Prop) : Prop :=
  wp_X12_fileComes_115 h x1 x2 x3 x4 x5 x6 (0 : Int32) s0 s1 S g
set_option maxRecDepth 100000 in
set_option maxHeartbeats 4000000 in
theorem kp_X12_fileComes_114 {K : xm_K} (h : Nat) (x1 : Int32) (x2 : Int32) (x3 : Int32) (x4 : Int32) (x5 : Int32) (x6 : Int32) (s0 : Int32) (s1 : Option Nat) (S : xm_S) {g : xm_S → Prop} (C : xm_Cx K cX12_fileComes RX12 7 none rm_X12_fileComes) (N : xm_Nx K) (hg : ∀ S, g S → xm_q K none S)  (h1 : wp_X12_fileComes_114 h x1 x2 x3 x4 x5 x6 s0 s1 S g) : xm_W K 0 0 114 [(0, xm_r (some h)), (1, xm_i x1), (2, xm_i x2), (3, xm_i x3), (4, xm_i x4), (5, xm_i x5), (6, xm_i x6)] [xm_i s0, xm_r s1] S := by
  unfold wp_X12_fileComes_114 at h1
  refine x_iconst (v := (0 : Int32)) C dX12_fileComes_114 (by decide) ?_
  exact kp_X12_fileComes_115 h x1 x2 x3 x4 x5 x6 (0 : Int32) s0 s1 S C N hg  h1
def wp_X12_fileComes_82 (h : Nat) (x1 : Int32) (x2 : Int32) (x3 : Int32) (x4 : Int32) (x5 : Int32) (s0 : Int32) (S : xm_S) (g : xm_S → Prop) : Prop :=
  st_t S h = some (12, 0) ∧ (s0 = 0 → wp_X12_fileComes_114 h x1 x2 x3 x4 x5 s0 (st_i S h 53) (some h) S g) ∧ (¬ s0 = 0 → ∃ n45, (st_r S h 50) = some n45 ∧ ∃ z48, st_t S n45 = some (100, z48) ∧ vp_in x5 z48 ∧ ∃ n50, (st_r S h 46) = some n50 ∧ ∃ z53, st_t S n50 = some (100, z53) ∧ vp_in x2 z53 ∧ ((st_i S n45 (x5).toNatClampNeg) = (st_i S n50 (x2).toNatClampNeg) → wp_X12_fileComes_114 h x1 x2 x3 x4 x5 s0 (st_i S h 53) (some h) S g) ∧ (¬ (st_i S n45 (x5).toNatClampNeg) = (st_i S n50 (x2).toNatClampNeg) → wp_X12_fileComes_115 h x1 x2 x3 x4 x5 s0 (1 : Int32) (st_i S h 53) (some h) S g))
set_option maxRecDepth 100000 in
set_option maxHeartbeats 4000000 in
theorem kp_X12_fileComes_82 {K : xm_K} (h : Nat) (x1 : Int32) (x2 : Int32) (x3 : Int32) (x4 : Int32) (x5 : Int32) (s0 : Int32) (S : xm_S) {g : xm_S → Prop} (C : xm_Cx K cX12_fileComes RX12 7 none rm_X12_fileComes) (N : xm_Nx K) (hg : ∀ S, g S → xm_q K none S)  (h1 : wp_X12_fileComes_82 h x1 x2 x3 x4 x5 s0 S g) : xm_W K 0 0 82 [(0, xm_r (some h)), (1, xm_i x1), (2, xm_i x2), (3, xm_i x3), (4, xm_i x4), (5, xm_i x5)] [xm_i s0] S := by
  unfold wp_X12_fileComes_82 at h1
  refine x_istore (L' := [(6, xm_i s0), (0, xm_r (some h)), (1, xm_i x1), (2, xm_i x2), (3, xm_i x3), (4, xm_i x4), (5, xm_i x5)]) C dX12_fileComes_82 (by decide) rfl ?_
  refine x_aload_n C 1 dX12_fileComes_84 rfl rfl ?_
  refine x_dup_r C dX12_fileComes_85 ?_
  obtain ⟨ht44, h1⟩ := h1
  refine x_getf_i (n := h) C rfl ht44 fd_172 (by decide) dX12_fileComes_86 ?_
  refine x_iload C 0 dX12_fileComes_89 rfl ?_
  refine x_if_eq (tgt := 114) C dX12_fileComes_91 (by decide) (fun z9 => ?_) (fun z9 => ?_)
  · have h1 := h1.1 z9
    refine x_keep (L' := [(0, xm_r (some h)), (1, xm_i x1), (2, xm_i x2), (3, xm_i x3), (4, xm_i x4), (5, xm_i x5), (6, xm_i s0)]) C [1, 2, 3, 4, 5, 6, 0] rfl ?_
    exact kp_X12_fileComes_114 h x1 x2 x3 x4 x5 s0 (st_i S h 53) (some h) S C N hg  h1
  · have h1 := h1.2 z9
    refine x_aload_n C 1 dX12_fileComes_94 rfl rfl ?_
    refine x_getf_r (n := h) C rfl ht44 fd_203 (by decide) dX12_fileComes_95 ?_
    refine x_iload C 6 dX12_fileComes_98 rfl ?_
    obtain ⟨n45, hr46, h1⟩ := h1
    obtain ⟨z48, ht47, h1⟩ := h1
    obtain ⟨hi49, h1⟩ := h1
    refine x_iald (n := n45) C hr46 ht47 hi49 dX12_fileComes_100 ?_
    refine x_aload_n C 1 dX12_fileComes_101 rfl rfl ?_
    refine x_getf_r (n := h) C rfl ht44 fd_211 (by decide) dX12_fileComes_102 ?_
    refine x_iload_n C 3 dX12_fileComes_105 rfl rfl ?_
    obtain ⟨n50, hr51, h1⟩ := h1
    obtain ⟨z53, ht52, h1⟩ := h1
    obtain ⟨hi54, h1⟩ := h1
    refine x_iald (n := n50) C hr51 ht52 hi54 dX12_fileComes_106 ?_
    refine x_icmp_eq (tgt := 114) C dX12_fileComes_107 (by decide) (fun z9 => ?_) (fun z9 => ?_)
    · have h1 := h1.1 z9
      refine x_keep (L' := [(0, xm_r (some h)), (1, xm_i x1), (2, xm_i x2), (3, xm_i x3), (4, xm_i x4), (5, xm_i x5), (6, xm_i s0)]) C [1, 2, 3, 4, 5, 6, 0] rfl ?_
      exact kp_X12_fileComes_114 h x1 x2 x3 x4 x5 s0 (st_i S h 53) (some h) S C N hg  h1
    · have h1 := h1.2 z9
      refine x_iconst (v := (1 : Int32)) C dX12_fileComes_110 (by decide) ?_
      refine x_goto (tgt := 115) C dX12_fileComes_111 (by decide) ?_
      refine x_keep (L' := [(0, xm_r (some h)), (1, xm_i x1), (2, xm_i x2), (3, xm_i x3), (4, xm_i x4), (5, xm_i x5), (6, xm_i s0)]) C [1, 2, 3, 4, 5, 6, 0] rfl ?_
      exact kp_X12_fileComes_115 h x1 x2 x3 x4 x5 s0 (1 : Int32) (st_i S h 53) (some h) S C N hg  h1
def wp_X12_fileComes (h : Nat) (x1 : Int32) (x2 : Int32) (S : xm_S) (g : xm_S → Prop) : Prop :=
  st_t S h = some (12, 0) ∧ ∃ n56, (st_r S h 45) = some n56 ∧ ∃ z59, st_t S n56 = some (100, z59) ∧ vp_in x2 z59 ∧ wp_X12_placeOf h x1 (st_i S n56 (x2).toNatClampNeg) S (fun r62 S61 => ∀ y63, y63 = ((nI 6) + r62) → ∀ y65, y65 = ((nI 38) + r62) → st_t S61 h = some (12, 0) ∧ ∃ n68, (st_r S61 h 47) = some n68 ∧ ∃ z71, st_t S61 n68 = some (101, z71) ∧ vp_in x2 z71 ∧ ((st_i S61 n68 (x2).toNatClampNeg) = 0 → wp_X12_fileComes_119 h x1 x2 r62 y63 y65 (0 : Int32) S61 g) ∧ (¬ (st_i S61 n68 (x2).toNatClampNeg) = 0 → ∃ n73, (st_r S61 h 50) = some n73 ∧ ∃ z76, st_t S61 n73 = some (100, z76) ∧ vp_in y63 z76 ∧ ((st_i S61 n73 (y63).toNatClampNeg) = (-1 : Int32) → wp_X12_fileComes_119 h x1 x2 r62 y63 y65 (0 : Int32) S61 g) ∧ (¬ (st_i S61 n73 (y63).toNatClampNeg) = (-1 : Int32) → ∃ n78, (st_r S61 h 50) = some n78 ∧ ∃ z81, st_t S61 n78 = some (100, z81) ∧ vp_in ((nI 22) + r62) z81 ∧ (¬ (st_i S61 n78 (((nI 22) + r62)).toNatClampNeg) = x1 → wp_X12_fileComes_119 h x1 x2 r62 y63 y65 (0 : Int32) S61 g) ∧ ((st_i S61 n78 (((nI 22) + r62)).toNatClampNeg) = x1 → ∃ n83, (st_r S61 h 50) = some n83 ∧ ∃ z86, st_t S61 n83 = some (100, z86) ∧ vp_in y63 z86 ∧ ∃ n88, (st_r S61 h 50) = some n88 ∧ ∃ z91, st_t S61 n88 = some (100, z91) ∧ vp_in y65 z91 ∧ ((st_i S61 n83 (y63).toNatClampNeg) = (st_i S61 n88 (y65).toNatClampNeg) → wp_X12_fileComes_82 h x1 x2 r62 y63 y65 (0 : Int32) S61 g) ∧ (¬ (st_i S61 n83 (y63).toNatClampNeg) = (st_i S61 n88 (y65).toNatClampNeg) → wp_X12_fileComes_82 h x1 x2 r62 y63 y65 (1 : Int32) S61 g)))))
set_option maxRecDepth 100000 in
set_option maxHeartbeats 4000000 in
theorem kp_X12_fileComes {K : xm_K} (h : Nat) (x1 : Int32) (x2 : Int32) (S : xm_S) {g : xm_S → Prop} (C : xm_Cx K cX12_fileComes RX12 7 none rm_X12_fileComes) (N : xm_Nx K) (hg : ∀ S, g S → xm_q K none S)  (h1 : wp_X12_fileComes h x1 x2 S g) : xm_W K 0 0 0 [(0, xm_r (some h)), (1, xm_i x1), (2, xm_i x2)] [] S := by
  unfold wp_X12_fileComes at h1
  refine x_aload_n C 0 dX12_fileComes_0 rfl rfl ?_
  refine x_iload_n C 1 dX12_fileComes_1 rfl rfl ?_
  refine x_aload_n C 0 dX12_fileComes_2 rfl rfl ?_
  obtain ⟨ht55, h1⟩ := h1
  refine x_getf_r (n := h) C rfl ht55 fd_210 (by decide) dX12_fileComes_3 ?_
  refine x_iload_n C 2 dX12_fileComes_6 rfl rfl ?_
  obtain ⟨n56, hr57, h1⟩ := h1
  obtain ⟨z59, ht58, h1⟩ := h1
  obtain ⟨hi60, h1⟩ := h1
  refine x_iald (n := n56) C hr57 ht58 hi60 dX12_fileComes_7 ?_
  refine x_callV (rm' := rm_X12_placeOf) (n := h) C (kp_X12_placeOf_met h1) lk_122 gw_723 gw_724 xv_12 rfl rfl ht55 rfl (Nat.le_of_ble_eq_true rfl) ⟨Nat.le_of_ble_eq_true rfl, Nat.le_of_ble_eq_true rfl, (Nat.le_of_ble_eq_true rfl), (Nat.le_of_ble_eq_true rfl)⟩ dX12_fileComes_8 xm_kx (xm_ki (fun r62 S61 h1 => ?_))
  refine x_istore_n (L' := [(3, xm_i r62), (0, xm_r (some h)), (1, xm_i x1), (2, xm_i x2)]) C dX12_fileComes_11 rfl (by decide) rfl ?_
  refine x_bipush (v := (nI 6)) C dX12_fileComes_12 (by decide) ?_
  refine x_iload_n C 0 dX12_fileComes_14 rfl rfl ?_
  refine x_iadd C dX12_fileComes_15 ?_
  refine x_topi (fun y63 e64 => ?_)
  have h1 := h1 y63 e64
  refine x_istore (L' := [(4, xm_i y63), (3, xm_i r62), (0, xm_r (some h)), (1, xm_i x1), (2, xm_i x2)]) C dX12_fileComes_16 (by decide) rfl ?_
  refine x_bipush (v := (nI 38)) C dX12_fileComes_18 (by decide) ?_
  refine x_iload_n C 1 dX12_fileComes_20 rfl rfl ?_
  refine x_iadd C dX12_fileComes_21 ?_
  refine x_topi (fun y65 e66 => ?_)
  have h1 := h1 y65 e66
  refine x_istore (L' := [(5, xm_i y65), (4, xm_i y63), (3, xm_i r62), (0, xm_r (some h)), (1, xm_i x1), (2, xm_i x2)]) C dX12_fileComes_22 (by decide) rfl ?_
  refine x_iconst (v := (0 : Int32)) C dX12_fileComes_24 (by decide) ?_
  refine x_istore (L' := [(6, xm_i (0 : Int32)), (5, xm_i y65), (4, xm_i y63), (3, xm_i r62), (0, xm_r (some h)), (1, xm_i x1), (2, xm_i x2)]) C dX12_fileComes_25 (by decide) rfl ?_
  refine x_aload_n C 4 dX12_fileComes_27 rfl rfl ?_
  obtain ⟨ht67, h1⟩ := h1
  refine x_getf_r (n := h) C rfl ht67 fd_212 (by decide) dX12_fileComes_28 ?_
  refine x_iload_n C 6 dX12_fileComes_31 rfl rfl ?_
  obtain ⟨n68, hr69, h1⟩ := h1
  obtain ⟨z71, ht70, h1⟩ := h1
  obtain ⟨hi72, h1⟩ := h1
  refine x_zald (n := n68) C hr69 ht70 hi72 dX12_fileComes_32 ?_
  refine x_if_eq (tgt := 119) C dX12_fileComes_33 (by decide) (fun z9 => ?_) (fun z9 => ?_)
  · have h1 := h1.1 z9
    refine x_keep (L' := [(0, xm_r (some h)), (1, xm_i x1), (2, xm_i x2), (3, xm_i r62), (4, xm_i y63), (5, xm_i y65), (6, xm_i (0 : Int32))]) C [4, 5, 6, 3, 2, 1, 0] rfl ?_
    exact kp_X12_fileComes_119 h x1 x2 r62 y63 y65 (0 : Int32) S61 C N hg  h1
  · have h1 := h1.2 z9
    refine x_aload_n C 4 dX12_fileComes_36 rfl rfl ?_
    refine x_getf_r (n := h) C rfl ht67 fd_203 (by decide) dX12_fileComes_37 ?_
    refine x_iload C 2 dX12_fileComes_40 rfl ?_
    obtain ⟨n73, hr74, h1⟩ := h1
    obtain ⟨z76, ht75, h1⟩ := h1
    obtain ⟨hi77, h1⟩ := h1
    refine x_iald (n := n73) C hr74 ht75 hi77 dX12_fileComes_42 ?_
    refine x_iconst (v := (-1 : Int32)) C dX12_fileComes_43 (by decide) ?_
    refine x_icmp_eq (tgt := 119) C dX12_fileComes_44 (by decide) (fun z9 => ?_) (fun z9 => ?_)
    · have h1 := h1.1 z9
      refine x_keep (L' := [(0, xm_r (some h)), (1, xm_i x1), (2, xm_i x2), (3, xm_i r62), (4, xm_i y63), (5, xm_i y65), (6, xm_i (0 : Int32))]) C [4, 5, 6, 3, 2, 1, 0] rfl ?_
      exact kp_X12_fileComes_119 h x1 x2 r62 y63 y65 (0 : Int32) S61 C N hg  h1
    · have h1 := h1.2 z9
      refine x_aload_n C 4 dX12_fileComes_47 rfl rfl ?_
      refine x_getf_r (n := h) C rfl ht67 fd_203 (by decide) dX12_fileComes_48 ?_
      refine x_bipush (v := (nI 22)) C dX12_fileComes_51 (by decide) ?_
      refine x_iload_n C 3 dX12_fileComes_53 rfl rfl ?_
      refine x_iadd C dX12_fileComes_54 ?_
      obtain ⟨n78, hr79, h1⟩ := h1
      obtain ⟨z81, ht80, h1⟩ := h1
      obtain ⟨hi82, h1⟩ := h1
      refine x_iald (n := n78) C hr79 ht80 hi82 dX12_fileComes_55 ?_
      refine x_iload_n C 5 dX12_fileComes_56 rfl rfl ?_
      refine x_icmp_ne (tgt := 119) C dX12_fileComes_57 (by decide) (fun z9 => ?_) (fun z9 => ?_)
      · have h1 := h1.1 z9
        refine x_keep (L' := [(0, xm_r (some h)), (1, xm_i x1), (2, xm_i x2), (3, xm_i r62), (4, xm_i y63), (5, xm_i y65), (6, xm_i (0 : Int32))]) C [4, 5, 6, 3, 2, 1, 0] rfl ?_
        exact kp_X12_fileComes_119 h x1 x2 r62 y63 y65 (0 : Int32) S61 C N hg  h1
      · have h1 := h1.2 z9
        refine x_aload_n C 4 dX12_fileComes_60 rfl rfl ?_
        refine x_getf_r (n := h) C rfl ht67 fd_203 (by decide) dX12_fileComes_61 ?_
        refine x_iload C 2 dX12_fileComes_64 rfl ?_
        obtain ⟨n83, hr84, h1⟩ := h1
        obtain ⟨z86, ht85, h1⟩ := h1
        obtain ⟨hi87, h1⟩ := h1
        refine x_iald (n := n83) C hr84 ht85 hi87 dX12_fileComes_66 ?_
        refine x_aload_n C 4 dX12_fileComes_67 rfl rfl ?_
        refine x_getf_r (n := h) C rfl ht67 fd_203 (by decide) dX12_fileComes_68 ?_
        refine x_iload C 1 dX12_fileComes_71 rfl ?_
        obtain ⟨n88, hr89, h1⟩ := h1
        obtain ⟨z91, ht90, h1⟩ := h1
        obtain ⟨hi92, h1⟩ := h1
        refine x_iald (n := n88) C hr89 ht90 hi92 dX12_fileComes_73 ?_
        refine x_icmp_eq (tgt := 81) C dX12_fileComes_74 (by decide) (fun z9 => ?_) (fun z9 => ?_)
        · have h1 := h1.1 z9
          refine x_iconst (v := (0 : Int32)) C dX12_fileComes_81 (by decide) ?_
          refine x_keep (L' := [(0, xm_r (some h)), (1, xm_i x1), (2, xm_i x2), (3, xm_i r62), (4, xm_i y63), (5, xm_i y65)]) C [4, 5, 6, 3, 2, 1] rfl ?_
          exact kp_X12_fileComes_82 h x1 x2 r62 y63 y65 (0 : Int32) S61 C N hg  h1
        · have h1 := h1.2 z9
          refine x_iconst (v := (1 : Int32)) C dX12_fileComes_77 (by decide) ?_
          refine x_goto (tgt := 82) C dX12_fileComes_78 (by decide) ?_
          refine x_keep (L' := [(0, xm_r (some h)), (1, xm_i x1), (2, xm_i x2), (3, xm_i r62), (4, xm_i y63), (5, xm_i y65)]) C [4, 5, 6, 3, 2, 1] rfl ?_
          exact kp_X12_fileComes_82 h x1 x2 r62 y63 y65 (1 : Int32) S61 C N hg  h1
theorem kp_X12_fileComes_met {h : Nat} {x1 : Int32} {x2 : Int32} {S : xm_S} {g : xm_S → Prop}  (h1 : wp_X12_fileComes h x1 x2 S g) : xm_Met yX12_fileComes cX12_fileComes 7 none rm_X12_fileComes [xm_r (some h), xm_i x1, xm_i x2] S (xm_qv g) xm_nox :=
  xm_ofW RX12 (by decide +kernel) rfl (Nat.le_of_ble_eq_true rfl) (fun K C N hq hx hi => kp_X12_fileComes h x1 x2 S C N (fun S h => by rw [hq]; exact ⟨rfl, h⟩)  h1)
def rm_X12_generation : Room := { frames := 1, cells := 0, slots := 0, locals := 20 }
theorem dX12_generation_0 : decode cX12_generation 0 = .ok (.aload_n 0, 1) := by decide +kernel
theorem dX12_generation_1 : decode cX12_generation 1 = .ok (.iconst 0, 1) := by decide +kernel
theorem dX12_generation_2 : decode cX12_generation 2 = .ok (.putfield 169, 3) := by decide +kernel
theorem dX12_generation_5 : decode cX12_generation 5 = .ok (.aload_n 0, 1) := by decide +kernel
theorem dX12_generation_6 : decode cX12_generation 6 = .ok (.getfield 154, 3) := by decide +kernel
theorem dX12_generation_9 : decode cX12_generation 9 = .ok (.ireturn, 1) := by decide +kernel
def wp_X12_generation (h : Nat)  (S : xm_S) (g : Int32 → xm_S → Prop) : Prop :=
  st_t S h = some (12, 0) ∧ ∀ S2, S2 = st_pi S h 0 (0 : Int32) → g (st_i S2 h 55) S2
set_option maxRecDepth 100000 in
set_option maxHeartbeats 4000000 in
theorem kp_X12_generation {K : xm_K} (h : Nat)  (S : xm_S) {g : Int32 → xm_S → Prop} (C : xm_Cx K cX12_generation RX12 1 (some (FieldType.int)) rm_X12_generation) (N : xm_Nx K) (hg : ∀ v S, g v S → xm_q K (some (xm_i v)) S)  (h1 : wp_X12_generation h  S g) : xm_W K 0 0 0 [(0, xm_r (some h))] [] S := by
  unfold wp_X12_generation at h1
  refine x_aload_n C 0 dX12_generation_0 rfl rfl ?_
  refine x_iconst (v := (0 : Int32)) C dX12_generation_1 (by decide) ?_
  obtain ⟨ht1, h1⟩ := h1
  refine x_putf_i (n := h) C rfl ht1 fd_165 xc_12 (by decide) rfl ⟨rfl, rfl⟩ dX12_generation_2 ?_
  refine x_topS (fun S2 e3 => ?_)
  have h1 := h1 S2 e3
  refine x_aload_n C 0 dX12_generation_5 rfl rfl ?_
  refine x_getf_i (n := h) C rfl (tk_p e3 ht1) fd_200 (by decide) dX12_generation_6 ?_
  exact x_iret C (Nat.le_of_ble_eq_true rfl) (Nat.le_of_ble_eq_true rfl) rfl dX12_generation_9 (hg _ _ h1)
theorem kp_X12_generation_met {h : Nat}  {S : xm_S} {g : Int32 → xm_S → Prop}  (h1 : wp_X12_generation h  S g) : xm_Met yX12_generation cX12_generation 1 (some (FieldType.int)) rm_X12_generation [xm_r (some h)] S (xm_qi g) xm_nox :=
  xm_ofW RX12 (by decide +kernel) rfl (Nat.le_of_ble_eq_true rfl) (fun K C N hq hx hi => kp_X12_generation h  S C N (fun v S h => by rw [hq]; exact ⟨v, rfl, h⟩)  h1)
def rm_X12_generations : Room := { frames := 1, cells := 0, slots := 0, locals := 20 }
theorem dX12_generations_0 : decode cX12_generations 0 = .ok (.aload_n 0, 1) := by decide +kernel
theorem dX12_generations_1 : decode cX12_generations 1 = .ok (.iconst 0, 1) := by decide +kernel
theorem dX12_generations_2 : decode cX12_generations 2 = .ok (.putfield 169, 3) := by decide +kernel
theorem dX12_generations_5 : decode cX12_generations 5 = .ok (.aload_n 0, 1) := by decide +kernel
theorem dX12_generations_6 : decode cX12_generations 6 = .ok (.getfield 340, 3) := by decide +kernel
theorem dX12_generations_9 : decode cX12_generations 9 = .ok (.ireturn, 1) := by decide +kernel
def wp_X12_generations (h : Nat)  (S : xm_S) (g : Int32 → xm_S → Prop) : Prop :=
  st_t S h = some (12, 0) ∧ ∀ S2, S2 = st_pi S h 0 (0 : Int32) → g (st_i S2 h 56) S2
set_option maxRecDepth 100000 in
set_option maxHeartbeats 4000000 in
theorem kp_X12_generations {K : xm_K} (h : Nat)  (S : xm_S) {g : Int32 → xm_S → Prop} (C : xm_Cx K cX12_generations RX12 1 (some (FieldType.int)) rm_X12_generations) (N : xm_Nx K) (hg : ∀ v S, g v S → xm_q K (some (xm_i v)) S)  (h1 : wp_X12_generations h  S g) : xm_W K 0 0 0 [(0, xm_r (some h))] [] S := by
  unfold wp_X12_generations at h1
  refine x_aload_n C 0 dX12_generations_0 rfl rfl ?_
  refine x_iconst (v := (0 : Int32)) C dX12_generations_1 (by decide) ?_
  obtain ⟨ht1, h1⟩ := h1
  refine x_putf_i (n := h) C rfl ht1 fd_165 xc_12 (by decide) rfl ⟨rfl, rfl⟩ dX12_generations_2 ?_
  refine x_topS (fun S2 e3 => ?_)
  have h1 := h1 S2 e3
  refine x_aload_n C 0 dX12_generations_5 rfl rfl ?_
  refine x_getf_i (n := h) C rfl (tk_p e3 ht1) fd_197 (by decide) dX12_generations_6 ?_
  exact x_iret C (Nat.le_of_ble_eq_true rfl) (Nat.le_of_ble_eq_true rfl) rfl dX12_generations_9 (hg _ _ h1)
theorem kp_X12_generations_met {h : Nat}  {S : xm_S} {g : Int32 → xm_S → Prop}  (h1 : wp_X12_generations h  S g) : xm_Met yX12_generations cX12_generations 1 (some (FieldType.int)) rm_X12_generations [xm_r (some h)] S (xm_qi g) xm_nox :=
  xm_ofW RX12 (by decide +kernel) rfl (Nat.le_of_ble_eq_true rfl) (fun K C N hq hx hi => kp_X12_generations h  S C N (fun v S h => by rw [hq]; exact ⟨v, rfl, h⟩)  h1)
def rm_X12_goner : Room := { frames := 1, cells := 0, slots := 0, locals := 20 }
theorem dX12_goner_0 : decode cX12_goner 0 = .ok (.iconst (-1), 1) := by decide +kernel
theorem dX12_goner_1 : decode cX12_goner 1 = .ok (.istore_n 1, 1) := by decide +kernel
theorem dX12_goner_2 : decode cX12_goner 2 = .ok (.aload_n 0, 1) := by decide +kernel
theorem dX12_goner_3 : decode cX12_goner 3 = .ok (.getfield 340, 3) := by decide +kernel
theorem dX12_goner_6 : decode cX12_goner 6 = .ok (.iconst 1, 1) := by decide +kernel
theorem dX12_goner_7 : decode cX12_goner 7 = .ok (.isub, 1) := by decide +kernel
theorem dX12_goner_8 : decode cX12_goner 8 = .ok (.istore_n 2, 1) := by decide +kernel
theorem dX12_goner_9 : decode cX12_goner 9 = .ok (.iload_n 2, 1) := by decide +kernel
theorem dX12_goner_10 : decode cX12_goner 10 = .ok (.ifCond .lt 37, 3) := by decide +kernel
theorem dX12_goner_13 : decode cX12_goner 13 = .ok (.aload_n 0, 1) := by decide +kernel
theorem dX12_goner_14 : decode cX12_goner 14 = .ok (.getfield 160, 3) := by decide +kernel
theorem dX12_goner_17 : decode cX12_goner 17 = .ok (.iload_n 2, 1) := by decide +kernel
theorem dX12_goner_18 : decode cX12_goner 18 = .ok (.baload, 1) := by decide +kernel
theorem dX12_goner_19 : decode cX12_goner 19 = .ok (.ifCond .ne 16, 3) := by decide +kernel
theorem dX12_goner_22 : decode cX12_goner 22 = .ok (.aload_n 0, 1) := by decide +kernel
theorem dX12_goner_23 : decode cX12_goner 23 = .ok (.getfield 157, 3) := by decide +kernel
theorem dX12_goner_26 : decode cX12_goner 26 = .ok (.iload_n 2, 1) := by decide +kernel
theorem dX12_goner_27 : decode cX12_goner 27 = .ok (.iaload, 1) := by decide +kernel
theorem dX12_goner_28 : decode cX12_goner 28 = .ok (.aload_n 0, 1) := by decide +kernel
theorem dX12_goner_29 : decode cX12_goner 29 = .ok (.getfield 154, 3) := by decide +kernel
theorem dX12_goner_32 : decode cX12_goner 32 = .ok (.if_icmp .ne 7, 3) := by decide +kernel
theorem dX12_goner_35 : decode cX12_goner 35 = .ok (.iload_n 1, 1) := by decide +kernel
theorem dX12_goner_36 : decode cX12_goner 36 = .ok (.goto 4, 3) := by decide +kernel
theorem dX12_goner_39 : decode cX12_goner 39 = .ok (.iload_n 2, 1) := by decide +kernel
theorem dX12_goner_40 : decode cX12_goner 40 = .ok (.istore_n 1, 1) := by decide +kernel
theorem dX12_goner_41 : decode cX12_goner 41 = .ok (.iinc 2 (-1), 3) := by decide +kernel
theorem dX12_goner_44 : decode cX12_goner 44 = .ok (.goto (-35), 3) := by decide +kernel
theorem dX12_goner_47 : decode cX12_goner 47 = .ok (.iload_n 1, 1) := by decide +kernel
theorem dX12_goner_48 : decode cX12_goner 48 = .ok (.ireturn, 1) := by decide +kernel
def wp_X12_goner_40 (h : Nat) (x2 : Int32) (s0 : Int32) (S : xm_S) (g : Int32 → xm_S → Prop) (Z9 : Int32 → Int32 → xm_S → Prop) : Prop :=
  ∀ y1, y1 = (x2 + (-1 : Int32)) → Z9 s0 y1 S
set_option maxRecDepth 100000 in
set_option maxHeartbeats 4000000 in
theorem kp_X12_goner_40 {K : xm_K} (h : Nat) (x2 : Int32) (s0 : Int32) (S : xm_S) {g : Int32 → xm_S → Prop} {Z9 : Int32 → Int32 → xm_S → Prop} (C : xm_Cx K cX12_goner RX12 3 (some (FieldType.int)) rm_X12_goner) (N : xm_Nx K) (hg : ∀ v S, g v S → xm_q K (some (xm_i v)) S) (hZ9 : ∀ x1 x2 S, Z9 x1 x2 S → xm_W K 0 0 9 [(0, xm_r (some h)), (1, xm_i x1), (2, xm_i x2)] [] S) (h1 : wp_X12_goner_40 h x2 s0 S g Z9) : xm_W K 0 0 40 [(0, xm_r (some h)), (2, xm_i x2)] [xm_i s0] S := by
  unfold wp_X12_goner_40 at h1
  refine x_istore_n (L' := [(1, xm_i s0), (0, xm_r (some h)), (2, xm_i x2)]) C dX12_goner_40 rfl (by decide) rfl ?_
  obtain ⟨y1, e2⟩ : ∃ y1, y1 = (x2 + (-1 : Int32)) := ⟨_, rfl⟩
  have h1 := h1 y1 e2
  refine x_iinc (v := y1) (L' := [(2, xm_i y1), (1, xm_i s0), (0, xm_r (some h))]) C 2 dX12_goner_41 rfl (by rw [e2]; rfl) (by decide) rfl ?_
  refine x_goto (tgt := 9) C dX12_goner_44 (by decide) ?_
  refine x_keep (L' := [(0, xm_r (some h)), (1, xm_i s0), (2, xm_i y1)]) C [2, 1, 0] rfl ?_
  exact hZ9 s0 y1 S h1
def wp_X12_goner_35 (h : Nat) (x1 : Int32) (x2 : Int32) (S : xm_S) (g : Int32 → xm_S → Prop) (Z9 : Int32 → Int32 → xm_S → Prop) : Prop :=
  wp_X12_goner_40 h x2 x1 S g Z9
set_option maxRecDepth 100000 in
set_option maxHeartbeats 4000000 in
theorem kp_X12_goner_35 {K : xm_K} (h : Nat) (x1 : Int32) (x2 : Int32) (S : xm_S) {g : Int32 → xm_S → Prop} {Z9 : Int32 → Int32 → xm_S → Prop} (C : xm_Cx K cX12_goner RX12 3 (some (FieldType.int)) rm_X12_goner) (N : xm_Nx K) (hg : ∀ v S, g v S → xm_q K (some (xm_i v)) S) (hZ9 : ∀ x1 x2 S, Z9 x1 x2 S → xm_W K 0 0 9 [(0, xm_r (some h)), (1, xm_i x1), (2, xm_i x2)] [] S) (h1 : wp_X12_goner_35 h x1 x2 S g Z9) : xm_W K 0 0 35 [(0, xm_r (some h)), (1, xm_i x1), (2, xm_i x2)] [] S := by
  unfold wp_X12_goner_35 at h1
  refine x_iload_n C 1 dX12_goner_35 rfl rfl ?_
  refine x_goto (tgt := 40) C dX12_goner_36 (by decide) ?_
  refine x_keep (L' := [(0, xm_r (some h)), (2, xm_i x2)]) C [0, 2] rfl ?_
  exact kp_X12_goner_40 h x2 x1 S C N hg hZ9 h1
def wp_X12_goner_9B (h : Nat) (x1 : Int32) (x2 : Int32) (S : xm_S) (g : Int32 → xm_S → Prop) (Z9 : Int32 → Int32 → xm_S → Prop) : Prop :=
  (x2 < 0 → g x1 S) ∧ (¬ x2 < 0 → st_t S h = some (12, 0) ∧ ∃ n4, (st_r S h 58) = some n4 ∧ ∃ z7, st_t S n4 = some (101, z7) ∧ vp_in x2 z7 ∧ (¬ (st_i S n4 (x2).toNatClampNeg) = 0 → wp_X12_goner_35 h x1 x2 S g Z9) ∧ ((st_i S n4 (x2).toNatClampNeg) = 0 → ∃ n9, (st_r S h 57) = some n9 ∧ ∃ z12, st_t S n9 = some (100, z12) ∧ vp_in x2 z12 ∧ (¬ (st_i S n9 (x2).toNatClampNeg) = (st_i S h 55) → wp_X12_goner_40 h x2 x2 S g Z9) ∧ ((st_i S n9 (x2).toNatClampNeg) = (st_i S h 55) → wp_X12_goner_35 h x1 x2 S g Z9)))
def wp_X12_goner_9 (h : Nat) (x1 : Int32) (x2 : Int32) (S : xm_S) (g : Int32 → xm_S → Prop) : Prop :=
  ∀ Z9 : Int32 → Int32 → xm_S → Prop, (∀ x1 x2 S, wp_X12_goner_9B h x1 x2 S g Z9 → Z9 x1 x2 S) → Z9 x1 x2 S
set_option maxRecDepth 100000 in
set_option maxHeartbeats 4000000 in
theorem kp_X12_goner_9B {K : xm_K} (h : Nat) (x1 : Int32) (x2 : Int32) (S : xm_S) {g : Int32 → xm_S → Prop} {Z9 : Int32 → Int32 → xm_S → Prop} (C : xm_Cx K cX12_goner RX12 3 (some (FieldType.int)) rm_X12_goner) (N : xm_Nx K) (hg : ∀ v S, g v S → xm_q K (some (xm_i v)) S) (hZ9 : ∀ x1 x2 S, Z9 x1 x2 S → xm_W K 0 0 9 [(0, xm_r (some h)), (1, xm_i x1), (2, xm_i x2)] [] S) (h1 : wp_X12_goner_9B h x1 x2 S g Z9) : xm_W K 0 0 9 [(0, xm_r (some h)), (1, xm_i x1), (2, xm_i x2)] [] S := by
  unfold wp_X12_goner_9B at h1
  refine x_iload_n C 2 dX12_goner_9 rfl rfl ?_
  refine x_if_lt (tgt := 47) C dX12_goner_10 (by decide) (fun z9 => ?_) (fun z9 => ?_)
  · have h1 := h1.1 z9
    refine x_iload_n C 1 dX12_goner_47 rfl rfl ?_
    exact x_iret C (Nat.le_of_ble_eq_true rfl) (Nat.le_of_ble_eq_true rfl) rfl dX12_goner_48 (hg _ _ h1)
  · have h1 := h1.2 z9
    refine x_aload_n C 0 dX12_goner_13 rfl rfl ?_
    obtain ⟨ht3, h1⟩ := h1
    refine x_getf_r (n := h) C rfl ht3 fd_199 (by decide) dX12_goner_14 ?_
    refine x_iload_n C 2 dX12_goner_17 rfl rfl ?_
    obtain ⟨n4, hr5, h1⟩ := h1
    obtain ⟨z7, ht6, h1⟩ := h1
    obtain ⟨hi8, h1⟩ := h1
    refine x_zald (n := n4) C hr5 ht6 hi8 dX12_goner_18 ?_
    refine x_if_ne (tgt := 35) C dX12_goner_19 (by decide) (fun z9 => ?_) (fun z9 => ?_)
    · have h1 := h1.1 z9
      exact kp_X12_goner_35 h x1 x2 S C N hg hZ9 h1
    · have h1 := h1.2 z9
      refine x_aload_n C 0 dX12_goner_22 rfl rfl ?_
      refine x_getf_r (n := h) C rfl ht3 fd_198 (by decide) dX12_goner_23 ?_
      refine x_iload_n C 2 dX12_goner_26 rfl rfl ?_
      obtain ⟨n9, hr10, h1⟩ := h1
      obtain ⟨z12, ht11, h1⟩ := h1
      obtain ⟨hi13, h1⟩ := h1
      refine x_iald (n := n9) C hr10 ht11 hi13 dX12_goner_27 ?_
      refine x_aload_n C 0 dX12_goner_28 rfl rfl ?_
      refine x_getf_i (n := h) C rfl ht3 fd_200 (by decide) dX12_goner_29 ?_
      refine x_icmp_ne (tgt := 39) C dX12_goner_32 (by decide) (fun z9 => ?_) (fun z9 => ?_)
      · have h1 := h1.1 z9
        refine x_iload_n C 2 dX12_goner_39 rfl rfl ?_
        refine x_keep (L' := [(0, xm_r (some h)), (2, xm_i x2)]) C [0, 2] rfl ?_
        exact kp_X12_goner_40 h x2 x2 S C N hg hZ9 h1
      · have h1 := h1.2 z9
        exact kp_X12_goner_35 h x1 x2 S C N hg hZ9 h1
theorem kp_X12_goner_9 {K : xm_K} (h : Nat) (x1 : Int32) (x2 : Int32) (S : xm_S) {g : Int32 → xm_S → Prop} (C : xm_Cx K cX12_goner RX12 3 (some (FieldType.int)) rm_X12_goner) (N : xm_Nx K) (hg : ∀ v S, g v S → xm_q K (some (xm_i v)) S)  (h1 : wp_X12_goner_9 h x1 x2 S g) : xm_W K 0 0 9 [(0, xm_r (some h)), (1, xm_i x1), (2, xm_i x2)] [] S :=
  h1 (fun x1 x2 S => xm_W K 0 0 9 [(0, xm_r (some h)), (1, xm_i x1), (2, xm_i x2)] [] S) (fun x1 x2 S hb => kp_X12_goner_9B h x1 x2 S C N hg (fun x1 x2 S hz => hz) hb)
def wp_X12_goner (h : Nat)  (S : xm_S) (g : Int32 → xm_S → Prop) : Prop :=
  st_t S h = some (12, 0) ∧ ∀ y15, y15 = ((st_i S h 56) - (1 : Int32)) → wp_X12_goner_9 h (-1 : Int32) y15 S g
set_option maxRecDepth 100000 in
set_option maxHeartbeats 4000000 in
theorem kp_X12_goner {K : xm_K} (h : Nat)  (S : xm_S) {g : Int32 → xm_S → Prop} (C : xm_Cx K cX12_goner RX12 3 (some (FieldType.int)) rm_X12_goner) (N : xm_Nx K) (hg : ∀ v S, g v S → xm_q K (some (xm_i v)) S)  (h1 : wp_X12_goner h  S g) : xm_W K 0 0 0 [(0, xm_r (some h))] [] S := by
  unfold wp_X12_goner at h1
  refine x_iconst (v := (-1 : Int32)) C dX12_goner_0 (by decide) ?_
  refine x_istore_n (L' := [(1, xm_i (-1 : Int32)), (0, xm_r (some h))]) C dX12_goner_1 rfl (by decide) rfl ?_
  refine x_aload_n C 1 dX12_goner_2 rfl rfl ?_
  obtain ⟨ht14, h1⟩ := h1
  refine x_getf_i (n := h) C rfl ht14 fd_197 (by decide) dX12_goner_3 ?_
  refine x_iconst (v := (1 : Int32)) C dX12_goner_6 (by decide) ?_
  refine x_isub C dX12_goner_7 ?_
  refine x_topi (fun y15 e16 => ?_)
  have h1 := h1 y15 e16
  refine x_istore_n (L' := [(2, xm_i y15), (1, xm_i (-1 : Int32)), (0, xm_r (some h))]) C dX12_goner_8 rfl (by decide) rfl ?_
  refine x_keep (L' := [(0, xm_r (some h)), (1, xm_i (-1 : Int32)), (2, xm_i y15)]) C [2, 1, 0] rfl ?_
  exact kp_X12_goner_9 h (-1 : Int32) y15 S C N hg  h1
theorem kp_X12_goner_met {h : Nat}  {S : xm_S} {g : Int32 → xm_S → Prop}  (h1 : wp_X12_goner h  S g) : xm_Met yX12_goner cX12_goner 3 (some (FieldType.int)) rm_X12_goner [xm_r (some h)] S (xm_qi g) xm_nox :=
  xm_ofW RX12 (by decide +kernel) rfl (Nat.le_of_ble_eq_true rfl) (fun K C N hq hx hi => kp_X12_goner h  S C N (fun v S h => by rw [hq]; exact ⟨v, rfl, h⟩)  h1)
def rm_X12_hasClosure : Room := { frames := 5, cells := 0, slots := 0, locals := 125 }
theorem dX12_hasClosure_0 : decode cX12_hasClosure 0 = .ok (.iconst 0, 1) := by decide +kernel
theorem dX12_hasClosure_1 : decode cX12_hasClosure 1 = .ok (.istore_n 3, 1) := by decide +kernel
theorem dX12_hasClosure_2 : decode cX12_hasClosure 2 = .ok (.iload_n 3, 1) := by decide +kernel
theorem dX12_hasClosure_3 : decode cX12_hasClosure 3 = .ok (.sipush 15625, 3) := by decide +kernel
theorem dX12_hasClosure_6 : decode cX12_hasClosure 6 = .ok (.if_icmp .ge 30, 3) := by decide +kernel
theorem dX12_hasClosure_9 : decode cX12_hasClosure 9 = .ok (.aload_n 0, 1) := by decide +kernel
theorem dX12_hasClosure_10 : decode cX12_hasClosure 10 = .ok (.iload_n 3, 1) := by decide +kernel
theorem dX12_hasClosure_11 : decode cX12_hasClosure 11 = .ok (.invokevirtual 290, 3) := by decide +kernel
theorem dX12_hasClosure_14 : decode cX12_hasClosure 14 = .ok (.ifCond .eq 16, 3) := by decide +kernel
theorem dX12_hasClosure_17 : decode cX12_hasClosure 17 = .ok (.aload_n 0, 1) := by decide +kernel
theorem dX12_hasClosure_18 : decode cX12_hasClosure 18 = .ok (.iload_n 1, 1) := by decide +kernel
theorem dX12_hasClosure_19 : decode cX12_hasClosure 19 = .ok (.iload_n 2, 1) := by decide +kernel
theorem dX12_hasClosure_20 : decode cX12_hasClosure 20 = .ok (.bipush (-2), 2) := by decide +kernel
theorem dX12_hasClosure_22 : decode cX12_hasClosure 22 = .ok (.invokevirtual 299, 3) := by decide +kernel
theorem dX12_hasClosure_25 : decode cX12_hasClosure 25 = .ok (.ifCond .eq 5, 3) := by decide +kernel
theorem dX12_hasClosure_28 : decode cX12_hasClosure 28 = .ok (.iconst 1, 1) := by decide +kernel
theorem dX12_hasClosure_29 : decode cX12_hasClosure 29 = .ok (.ireturn, 1) := by decide +kernel
theorem dX12_hasClosure_30 : decode cX12_hasClosure 30 = .ok (.iinc 3 1, 3) := by decide +kernel
theorem dX12_hasClosure_33 : decode cX12_hasClosure 33 = .ok (.goto (-31), 3) := by decide +kernel
theorem dX12_hasClosure_36 : decode cX12_hasClosure 36 = .ok (.iconst 0, 1) := by decide +kernel
theorem dX12_hasClosure_37 : decode cX12_hasClosure 37 = .ok (.ireturn, 1) := by decide +kernel
def wp_X12_hasClosure_30 (h : Nat) (x1 : Int32) (x2 : Int32) (x3 : Int32) (S : xm_S) (g : Int32 → xm_S → Prop) (Z2 : Int32 → Int32 → Int32 → xm_S → Prop) : Prop :=
  ∀ y1, y1 = (x3 + (1 : Int32)) → Z2 x1 x2 y1 S
set_option maxRecDepth 100000 in
set_option maxHeartbeats 4000000 in
theorem kp_X12_hasClosure_30 {K : xm_K} (h : Nat) (x1 : Int32) (x2 : Int32) (x3 : Int32) (S : xm_S) {g : Int32 → xm_S → Prop} {Z2 : Int32 → Int32 → Int32 → xm_S → Prop} (C : xm_Cx K cX12_hasClosure RX12 4 (some (FieldType.boolean)) rm_X12_hasClosure) (N : xm_Nx K) (hg : ∀ v S, g v S → xm_q K (some (xm_i v)) S) (hZ2 : ∀ x1 x2 x3 S, Z2 x1 x2 x3 S → xm_W K 0 0 2 [(0, xm_r (some h)), (1, xm_i x1), (2, xm_i x2), (3, xm_i x3)] [] S) (h1 : wp_X12_hasClosure_30 h x1 x2 x3 S g Z2) : xm_W K 0 0 30 [(0, xm_r (some h)), (1, xm_i x1), (2, xm_i x2), (3, xm_i x3)] [] S := by
  unfold wp_X12_hasClosure_30 at h1
  obtain ⟨y1, e2⟩ : ∃ y1, y1 = (x3 + (1 : Int32)) := ⟨_, rfl⟩
  have h1 := h1 y1 e2
  refine x_iinc (v := y1) (L' := [(3, xm_i y1), (0, xm_r (some h)), (1, xm_i x1), (2, xm_i x2)]) C 3 dX12_hasClosure_30 rfl (by rw [e2]; rfl) (by decide) rfl ?_
  refine x_goto (tgt := 2) C dX12_hasClosure_33 (by decide) ?_
  refine x_keep (L' := [(0, xm_r (some h)), (1, xm_i x1), (2, xm_i x2), (3, xm_i y1)]) C [1, 2, 3, 0] rfl ?_
  exact hZ2 x1 x2 y1 S h1
def wp_X12_hasClosure_2B (h : Nat) (x1 : Int32) (x2 : Int32) (x3 : Int32) (S : xm_S) (g : Int32 → xm_S → Prop) (Z2 : Int32 → Int32 → Int32 → xm_S → Prop) : Prop :=
  ((nI 15625) ≤ x3 → g (0 : Int32) S) ∧ (¬ (nI 15625) ≤ x3 → st_t S h = some (12, 0) ∧ wp_X12_chooses h x3 S (fun r5 S4 => (r5 = 0 → wp_X12_hasClosure_30 h x1 x2 x3 S4 g Z2) ∧ (¬ r5 = 0 → st_t S4 h = some (12, 0) ∧ wp_X12_isClosure h x1 x2 (-2 : Int32) S4 (fun r8 S7 => (r8 = 0 → wp_X12_hasClosure_30 h x1 x2 x3 S7 g Z2) ∧ (¬ r8 = 0 → g (1 : Int32) S7)))))
def wp_X12_hasClosure_2 (h : Nat) (x1 : Int32) (x2 : Int32) (x3 : Int32) (S : xm_S) (g : Int32 → xm_S → Prop) : Prop :=
  ∀ Z2 : Int32 → Int32 → Int32 → xm_S → Prop, (∀ x1 x2 x3 S, wp_X12_hasClosure_2B h x1 x2 x3 S g Z2 → Z2 x1 x2 x3 S) → Z2 x1 x2 x3 S
set_option maxRecDepth 100000 in
set_option maxHeartbeats 4000000 in
theorem kp_X12_hasClosure_2B {K : xm_K} (h : Nat) (x1 : Int32) (x2 : Int32) (x3 : Int32) (S : xm_S) {g : Int32 → xm_S → Prop} {Z2 : Int32 → Int32 → Int32 → xm_S → Prop} (C : xm_Cx K cX12_hasClosure RX12 4 (some (FieldType.boolean)) rm_X12_hasClosure) (N : xm_Nx K) (hg : ∀ v S, g v S → xm_q K (some (xm_i v)) S) (hZ2 : ∀ x1 x2 x3 S, Z2 x1 x2 x3 S → xm_W K 0 0 2 [(0, xm_r (some h)), (1, xm_i x1), (2, xm_i x2), (3, xm_i x3)] [] S) (h1 : wp_X12_hasClosure_2B h x1 x2 x3 S g Z2) : xm_W K 0 0 2 [(0, xm_r (some h)), (1, xm_i x1), (2, xm_i x2), (3, xm_i x3)] [] S := by
  unfold wp_X12_hasClosure_2B at h1
  refine x_iload_n C 3 dX12_hasClosure_2 rfl rfl ?_
  refine x_sipush (v := (nI 15625)) C dX12_hasClosure_3 (by decide) ?_
  refine x_icmp_ge (tgt := 36) C dX12_hasClosure_6 (by decide) (fun z9 => ?_) (fun z9 => ?_)
  · have h1 := h1.1 z9
    refine x_iconst (v := (0 : Int32)) C dX12_hasClosure_36 (by decide) ?_
    exact x_zret C (Nat.le_of_ble_eq_true rfl) (Nat.le_of_ble_eq_true rfl) rfl (by decide) dX12_hasClosure_37 (hg _ _ h1)
  · have h1 := h1.2 z9
    refine x_aload_n C 0 dX12_hasClosure_9 rfl rfl ?_
    refine x_iload_n C 3 dX12_hasClosure_10 rfl rfl ?_
    obtain ⟨ht3, h1⟩ := h1
    refine x_callV (rm' := rm_X12_chooses) (n := h) C (kp_X12_chooses_met h1) lk_115 gw_678 gw_679 xv_12 rfl rfl ht3 rfl (Nat.le_of_ble_eq_true rfl) ⟨Nat.le_of_ble_eq_true rfl, Nat.le_of_ble_eq_true rfl, (Nat.le_of_ble_eq_true rfl), (Nat.le_of_ble_eq_true rfl)⟩ dX12_hasClosure_11 xm_kx (xm_ki (fun r5 S4 h1 => ?_))
    refine x_if_eq (tgt := 30) C dX12_hasClosure_14 (by decide) (fun z9 => ?_) (fun z9 => ?_)
    · have h1 := h1.1 z9
      exact kp_X12_hasClosure_30 h x1 x2 x3 S4 C N hg hZ2 h1
    · have h1 := h1.2 z9
      refine x_aload_n C 0 dX12_hasClosure_17 rfl rfl ?_
      refine x_iload_n C 1 dX12_hasClosure_18 rfl rfl ?_
      refine x_iload_n C 2 dX12_hasClosure_19 rfl rfl ?_
      refine x_bipush (v := (-2 : Int32)) C dX12_hasClosure_20 (by decide) ?_
      obtain ⟨ht6, h1⟩ := h1
      refine x_callV (rm' := rm_X12_isClosure) (n := h) C (kp_X12_isClosure_met h1) lk_116 gw_682 gw_683 xv_12 rfl rfl ht6 rfl (Nat.le_of_ble_eq_true rfl) ⟨Nat.le_of_ble_eq_true rfl, Nat.le_of_ble_eq_true rfl, (Nat.le_of_ble_eq_true rfl), (Nat.le_of_ble_eq_true rfl)⟩ dX12_hasClosure_22 xm_kx (xm_ki (fun r8 S7 h1 => ?_))
      refine x_if_eq (tgt := 30) C dX12_hasClosure_25 (by decide) (fun z9 => ?_) (fun z9 => ?_)
      · have h1 := h1.1 z9
        exact kp_X12_hasClosure_30 h x1 x2 x3 S7 C N hg hZ2 h1
      · have h1 := h1.2 z9
        refine x_iconst (v := (1 : Int32)) C dX12_hasClosure_28 (by decide) ?_
        exact x_zret C (Nat.le_of_ble_eq_true rfl) (Nat.le_of_ble_eq_true rfl) rfl (by decide) dX12_hasClosure_29 (hg _ _ h1)
theorem kp_X12_hasClosure_2 {K : xm_K} (h : Nat) (x1 : Int32) (x2 : Int32) (x3 : Int32) (S : xm_S) {g : Int32 → xm_S → Prop} (C : xm_Cx K cX12_hasClosure RX12 4 (some (FieldType.boolean)) rm_X12_hasClosure) (N : xm_Nx K) (hg : ∀ v S, g v S → xm_q K (some (xm_i v)) S)  (h1 : wp_X12_hasClosure_2 h x1 x2 x3 S g) : xm_W K 0 0 2 [(0, xm_r (some h)), (1, xm_i x1), (2, xm_i x2), (3, xm_i x3)] [] S :=
  h1 (fun x1 x2 x3 S => xm_W K 0 0 2 [(0, xm_r (some h)), (1, xm_i x1), (2, xm_i x2), (3, xm_i x3)] [] S) (fun x1 x2 x3 S hb => kp_X12_hasClosure_2B h x1 x2 x3 S C N hg (fun x1 x2 x3 S hz => hz) hb)
def wp_X12_hasClosure (h : Nat) (x1 : Int32) (x2 : Int32) (S : xm_S) (g : Int32 → xm_S → Prop) : Prop :=
  wp_X12_hasClosure_2 h x1 x2 (0 : Int32) S g
set_option maxRecDepth 100000 in
set_option maxHeartbeats 4000000 in
theorem kp_X12_hasClosure {K : xm_K} (h : Nat) (x1 : Int32) (x2 : Int32) (S : xm_S) {g : Int32 → xm_S → Prop} (C : xm_Cx K cX12_hasClosure RX12 4 (some (FieldType.boolean)) rm_X12_hasClosure) (N : xm_Nx K) (hg : ∀ v S, g v S → xm_q K (some (xm_i v)) S)  (h1 : wp_X12_hasClosure h x1 x2 S g) : xm_W K 0 0 0 [(0, xm_r (some h)), (1, xm_i x1), (2, xm_i x2)] [] S := by
  unfold wp_X12_hasClosure at h1
  refine x_iconst (v := (0 : Int32)) C dX12_hasClosure_0 (by decide) ?_
  refine x_istore_n (L' := [(3, xm_i (0 : Int32)), (0, xm_r (some h)), (1, xm_i x1), (2, xm_i x2)]) C dX12_hasClosure_1 rfl (by decide) rfl ?_
  refine x_keep (L' := [(0, xm_r (some h)), (1, xm_i x1), (2, xm_i x2), (3, xm_i (0 : Int32))]) C [1, 2, 3, 0] rfl ?_
  exact kp_X12_hasClosure_2 h x1 x2 (0 : Int32) S C N hg  h1
theorem kp_X12_hasClosure_met {h : Nat} {x1 : Int32} {x2 : Int32} {S : xm_S} {g : Int32 → xm_S → Prop}  (h1 : wp_X12_hasClosure h x1 x2 S g) : xm_Met yX12_hasClosure cX12_hasClosure 4 (some (FieldType.boolean)) rm_X12_hasClosure [xm_r (some h), xm_i x1, xm_i x2] S (xm_qi g) xm_nox :=
  xm_ofW RX12 (by decide +kernel) rfl (Nat.le_of_ble_eq_true rfl) (fun K C N hq hx hi => kp_X12_hasClosure h x1 x2 S C N (fun v S h => by rw [hq]; exact ⟨v, rfl, h⟩)  h1)
def rm_X12_isLockClosure : Room := { frames := 10, cells := 0, slots := 0, locals := 228 }
theorem dX12_isLockClosure_0 : decode cX12_isLockClosure 0 = .ok (.aload_n 0, 1) := by decide +kernel
theorem dX12_isLockClosure_1 : decode cX12_isLockClosure 1 = .ok (.invokevirtual 287, 3) := by decide +kernel
theorem dX12_isLockClosure_4 : decode cX12_isLockClosure 4 = .ok (.iconst 0, 1) := by decide +kernel
theorem dX12_isLockClosure_5 : decode cX12_isLockClosure 5 = .ok (.istore_n 2, 1) := by decide +kernel
theorem dX12_isLockClosure_6 : decode cX12_isLockClosure 6 = .ok (.iload_n 2, 1) := by decide +kernel
theorem dX12_isLockClosure_7 : decode cX12_isLockClosure 7 = .ok (.bipush 6, 2) := by decide +kernel
theorem dX12_isLockClosure_9 : decode cX12_isLockClosure 9 = .ok (.if_icmp .ge 26, 3) := by decide +kernel
theorem dX12_isLockClosure_12 : decode cX12_isLockClosure 12 = .ok (.aload_n 0, 1) := by decide +kernel
theorem dX12_isLockClosure_13 : decode cX12_isLockClosure 13 = .ok (.getfield 103, 3) := by decide +kernel
theorem dX12_isLockClosure_16 : decode cX12_isLockClosure 16 = .ok (.iload_n 2, 1) := by decide +kernel
theorem dX12_isLockClosure_17 : decode cX12_isLockClosure 17 = .ok (.aload_n 0, 1) := by decide +kernel
theorem dX12_isLockClosure_18 : decode cX12_isLockClosure 18 = .ok (.getfield 90, 3) := by decide +kernel
theorem dX12_isLockClosure_21 : decode cX12_isLockClosure 21 = .ok (.bipush 6, 2) := by decide +kernel
theorem dX12_isLockClosure_23 : decode cX12_isLockClosure 23 = .ok (.iload_n 1, 1) := by decide +kernel
theorem dX12_isLockClosure_24 : decode cX12_isLockClosure 24 = .ok (.imul, 1) := by decide +kernel
theorem dX12_isLockClosure_25 : decode cX12_isLockClosure 25 = .ok (.iload_n 2, 1) := by decide +kernel
theorem dX12_isLockClosure_26 : decode cX12_isLockClosure 26 = .ok (.iadd, 1) := by decide +kernel
theorem dX12_isLockClosure_27 : decode cX12_isLockClosure 27 = .ok (.iaload, 1) := by decide +kernel
theorem dX12_isLockClosure_28 : decode cX12_isLockClosure 28 = .ok (.iastore, 1) := by decide +kernel
theorem dX12_isLockClosure_29 : decode cX12_isLockClosure 29 = .ok (.iinc 2 1, 3) := by decide +kernel
theorem dX12_isLockClosure_32 : decode cX12_isLockClosure 32 = .ok (.goto (-26), 3) := by decide +kernel
theorem dX12_isLockClosure_35 : decode cX12_isLockClosure 35 = .ok (.aload_n 0, 1) := by decide +kernel
theorem dX12_isLockClosure_36 : decode cX12_isLockClosure 36 = .ok (.iload_n 1, 1) := by decide +kernel
theorem dX12_isLockClosure_37 : decode cX12_isLockClosure 37 = .ok (.bipush 15, 2) := by decide +kernel
theorem dX12_isLockClosure_39 : decode cX12_isLockClosure 39 = .ok (.iconst (-1), 1) := by decide +kernel
theorem dX12_isLockClosure_40 : decode cX12_isLockClosure 40 = .ok (.invokevirtual 299, 3) := by decide +kernel
theorem dX12_isLockClosure_43 : decode cX12_isLockClosure 43 = .ok (.ireturn, 1) := by decide +kernel
def wp_X12_isLockClosure_6B (h : Nat) (x1 : Int32) (x2 : Int32) (S : xm_S) (g : Int32 → xm_S → Prop) (Z6 : Int32 → Int32 → xm_S → Prop) : Prop :=
  ((nI 6) ≤ x2 → st_t S h = some (12, 0) ∧ wp_X12_isClosure h x1 (nI 15) (-1 : Int32) S (fun r3 S2 => (r3 = 0 ∨ r3 = 1) ∧ g r3 S2)) ∧ (¬ (nI 6) ≤ x2 → st_t S h = some (12, 0) ∧ ∃ n5, (st_r S h 29) = some n5 ∧ ∃ z8, st_t S n5 = some (100, z8) ∧ vp_in (((nI 6) * x1) + x2) z8 ∧ ∃ n10, (st_r S h 33) = some n10 ∧ ∃ z13, st_t S n10 = some (100, z13) ∧ vp_in x2 z13 ∧ ∀ S15, S15 = st_pi S n10 (x2).toNatClampNeg (st_i S n5 ((((nI 6) * x1) + x2)).toNatClampNeg) → ∀ y17, y17 = (x2 + (1 : Int32)) → Z6 x1 y17 S15)
def wp_X12_isLockClosure_6 (h : Nat) (x1 : Int32) (x2 : Int32) (S : xm_S) (g : Int32 → xm_S → Prop) : Prop :=
  ∀ Z6 : Int32 → Int32 → xm_S → Prop, (∀ x1 x2 S, wp_X12_isLockClosure_6B h x1 x2 S g Z6 → Z6 x1 x2 S) → Z6 x1 x2 S
set_option maxRecDepth 100000 in
set_option maxHeartbeats 4000000 in
theorem kp_X12_isLockClosure_6B {K : xm_K} (h : Nat) (x1 : Int32) (x2 : Int32) (S : xm_S) {g : Int32 → xm_S → Prop} {Z6 : Int32 → Int32 → xm_S → Prop} (C : xm_Cx K cX12_isLockClosure RX12 3 (some (FieldType.boolean)) rm_X12_isLockClosure) (N : xm_Nx K) (hg : ∀ v S, g v S → xm_q K (some (xm_i v)) S) (hZ6 : ∀ x1 x2 S, Z6 x1 x2 S → xm_W K 0 0 6 [(0, xm_r (some h)), (1, xm_i x1), (2, xm_i x2)] [] S) (h1 : wp_X12_isLockClosure_6B h x1 x2 S g Z6) : xm_W K 0 0 6 [(0, xm_r (some h)), (1, xm_i x1), (2, xm_i x2)] [] S := by
  unfold wp_X12_isLockClosure_6B at h1
  refine x_iload_n C 2 dX12_isLockClosure_6 rfl rfl ?_
  refine x_bipush (v := (nI 6)) C dX12_isLockClosure_7 (by decide) ?_
  refine x_icmp_ge (tgt := 35) C dX12_isLockClosure_9 (by decide) (fun z9 => ?_) (fun z9 => ?_)
  · have h1 := h1.1 z9
    refine x_aload_n C 0 dX12_isLockClosure_35 rfl rfl ?_
    refine x_iload_n C 1 dX12_isLockClosure_36 rfl rfl ?_
    refine x_bipush (v := (nI 15)) C dX12_isLockClosure_37 (by decide) ?_
    refine x_iconst (v := (-1 : Int32)) C dX12_isLockClosure_39 (by decide) ?_
    obtain ⟨ht1, h1⟩ := h1
    refine x_callV (rm' := rm_X12_isClosure) (n := h) C (kp_X12_isClosure_met h1) lk_116 gw_682 gw_683 xv_12 rfl rfl ht1 rfl (Nat.le_of_ble_eq_true rfl) ⟨Nat.le_of_ble_eq_true rfl, Nat.le_of_ble_eq_true rfl, (Nat.le_of_ble_eq_true rfl), (Nat.le_of_ble_eq_true rfl)⟩ dX12_isLockClosure_40 xm_kx (xm_ki (fun r3 S2 h1 => ?_))
    exact x_zret C (Nat.le_of_ble_eq_true rfl) (Nat.le_of_ble_eq_true rfl) rfl h1.1 dX12_isLockClosure_43 (hg _ _ h1.2)
  · have h1 := h1.2 z9
    refine x_aload_n C 0 dX12_isLockClosure_12 rfl rfl ?_
    obtain ⟨ht4, h1⟩ := h1
    refine x_getf_r (n := h) C rfl ht4 fd_174 (by decide) dX12_isLockClosure_13 ?_
    refine x_iload_n C 2 dX12_isLockClosure_16 rfl rfl ?_
    refine x_aload_n C 0 dX12_isLockClosure_17 rfl rfl ?_
    refine x_getf_r (n := h) C rfl ht4 fd_169 (by decide) dX12_isLockClosure_18 ?_
    refine x_bipush (v := (nI 6)) C dX12_isLockClosure_21 (by decide) ?_
    refine x_iload_n C 1 dX12_isLockClosure_23 rfl rfl ?_
    refine x_imul C dX12_isLockClosure_24 ?_
    refine x_iload_n C 2 dX12_isLockClosure_25 rfl rfl ?_
    refine x_iadd C dX12_isLockClosure_26 ?_
    obtain ⟨n5, hr6, h1⟩ := h1
    obtain ⟨z8, ht7, h1⟩ := h1
    obtain ⟨hi9, h1⟩ := h1
    refine x_iald (n := n5) C hr6 ht7 hi9 dX12_isLockClosure_27 ?_
    obtain ⟨n10, hr11, h1⟩ := h1
    obtain ⟨z13, ht12, h1⟩ := h1
    obtain ⟨hi14, h1⟩ := h1
    refine x_iast (n := n10) C hr11 ht12 hi14 dX12_isLockClosure_28 ?_
    refine x_topS (fun S15 e16 => ?_)
    have h1 := h1 S15 e16
    obtain ⟨y17, e18⟩ : ∃ y17, y17 = (x2 + (1 : Int32)) := ⟨_, rfl⟩
    have h1 := h1 y17 e18
    refine x_iinc (v := y17) (L' := [(2, xm_i y17), (0, xm_r (some h)), (1, xm_i x1)]) C 2 dX12_isLockClosure_29 rfl (by rw [e18]; rfl) (by decide) rfl ?_
    refine x_goto (tgt := 6) C dX12_isLockClosure_32 (by decide) ?_
    refine x_keep (L' := [(0, xm_r (some h)), (1, xm_i x1), (2, xm_i y17)]) C [1, 2, 0] rfl ?_
    exact hZ6 x1 y17 S15 h1
theorem kp_X12_isLockClosure_6 {K : xm_K} (h : Nat) (x1 : Int32) (x2 : Int32) (S : xm_S) {g : Int32 → xm_S → Prop} (C : xm_Cx K cX12_isLockClosure RX12 3 (some (FieldType.boolean)) rm_X12_isLockClosure) (N : xm_Nx K) (hg : ∀ v S, g v S → xm_q K (some (xm_i v)) S)  (h1 : wp_X12_isLockClosure_6 h x1 x2 S g) : xm_W K 0 0 6 [(0, xm_r (some h)), (1, xm_i x1), (2, xm_i x2)] [] S :=
  h1 (fun x1 x2 S => xm_W K 0 0 6 [(0, xm_r (some h)), (1, xm_i x1), (2, xm_i x2)] [] S) (fun x1 x2 S hb => kp_X12_isLockClosure_6B h x1 x2 S C N hg (fun x1 x2 S hz => hz) hb)
def wp_X12_isLockClosure (h : Nat) (x1 : Int32) (S : xm_S) (g : Int32 → xm_S → Prop) : Prop :=
  st_t S h = some (12, 0) ∧ wp_X12_laysRanges h S (fun S20 => wp_X12_isLockClosure_6 h x1 (0 : Int32) S20 g)
set_option maxRecDepth 100000 in
set_option maxHeartbeats 4000000 in
theorem kp_X12_isLockClosure {K : xm_K} (h : Nat) (x1 : Int32) (S : xm_S) {g : Int32 → xm_S → Prop} (C : xm_Cx K cX12_isLockClosure RX12 3 (some (FieldType.boolean)) rm_X12_isLockClosure) (N : xm_Nx K) (hg : ∀ v S, g v S → xm_q K (some (xm_i v)) S)  (h1 : wp_X12_isLockClosure h x1 S g) : xm_W K 0 0 0 [(0, xm_r (some h)), (1, xm_i x1)] [] S := by
  unfold wp_X12_isLockClosure at h1
  refine x_aload_n C 0 dX12_isLockClosure_0 rfl rfl ?_
  obtain ⟨ht19, h1⟩ := h1
  refine x_callV (rm' := rm_X12_laysRanges) (n := h) C (kp_X12_laysRanges_met h1) lk_117 gw_686 gw_687 xv_12 rfl rfl ht19 rfl (Nat.le_of_ble_eq_true rfl) ⟨Nat.le_of_ble_eq_true rfl, Nat.le_of_ble_eq_true rfl, (Nat.le_of_ble_eq_true rfl), (Nat.le_of_ble_eq_true rfl)⟩ dX12_isLockClosure_1 xm_kx (xm_kv (fun S20 h1 => ?_))
  refine x_iconst (v := (0 : Int32)) C dX12_isLockClosure_4 (by decide) ?_
  refine x_istore_n (L' := [(2, xm_i (0 : Int32)), (0, xm_r (some h)), (1, xm_i x1)]) C dX12_isLockClosure_5 rfl (by decide) rfl ?_
  refine x_keep (L' := [(0, xm_r (some h)), (1, xm_i x1), (2, xm_i (0 : Int32))]) C [1, 2, 0] rfl ?_
  exact kp_X12_isLockClosure_6 h x1 (0 : Int32) S20 C N hg  h1
theorem kp_X12_isLockClosure_met {h : Nat} {x1 : Int32} {S : xm_S} {g : Int32 → xm_S → Prop}  (h1 : wp_X12_isLockClosure h x1 S g) : xm_Met yX12_isLockClosure cX12_isLockClosure 3 (some (FieldType.boolean)) rm_X12_isLockClosure [xm_r (some h), xm_i x1] S (xm_qi g) xm_nox :=
  xm_ofW RX12 (by decide +kernel) rfl (Nat.le_of_ble_eq_true rfl) (fun K C N hq hx hi => kp_X12_isLockClosure h x1 S C N (fun v S h => by rw [hq]; exact ⟨v, rfl, h⟩)  h1)
def rm_X12_holds : Room := { frames := 11, cells := 0, slots := 0, locals := 250 }
theorem dX12_holds_0 : decode cX12_holds 0 = .ok (.aload_n 0, 1) := by decide +kernel
theorem dX12_holds_1 : decode cX12_holds 1 = .ok (.iload_n 1, 1) := by decide +kernel
theorem dX12_holds_2 : decode cX12_holds 2 = .ok (.invokestatic 302, 3) := by decide +kernel
theorem dX12_holds_5 : decode cX12_holds 5 = .ok (.ifCond .eq 7, 3) := by decide +kernel
theorem dX12_holds_8 : decode cX12_holds 8 = .ok (.iconst 0, 1) := by decide +kernel
theorem dX12_holds_9 : decode cX12_holds 9 = .ok (.goto 4, 3) := by decide +kernel
theorem dX12_holds_12 : decode cX12_holds 12 = .ok (.iconst 1, 1) := by decide +kernel
theorem dX12_holds_13 : decode cX12_holds 13 = .ok (.invokevirtual 182, 3) := by decide +kernel
theorem dX12_holds_16 : decode cX12_holds 16 = .ok (.ifCond .eq 15, 3) := by decide +kernel
theorem dX12_holds_19 : decode cX12_holds 19 = .ok (.aload_n 0, 1) := by decide +kernel
theorem dX12_holds_20 : decode cX12_holds 20 = .ok (.iload_n 1, 1) := by decide +kernel
theorem dX12_holds_21 : decode cX12_holds 21 = .ok (.invokevirtual 314, 3) := by decide +kernel
theorem dX12_holds_24 : decode cX12_holds 24 = .ok (.ifCond .eq 7, 3) := by decide +kernel
theorem dX12_holds_27 : decode cX12_holds 27 = .ok (.iconst 1, 1) := by decide +kernel
theorem dX12_holds_28 : decode cX12_holds 28 = .ok (.goto 4, 3) := by decide +kernel
theorem dX12_holds_31 : decode cX12_holds 31 = .ok (.iconst 0, 1) := by decide +kernel
theorem dX12_holds_32 : decode cX12_holds 32 = .ok (.ireturn, 1) := by decide +kernel
def wp_X12_holds_32 (h : Nat) (s0 : Int32) (S : xm_S) (g : Int32 → xm_S → Prop) : Prop :=
  (s0 = 0 ∨ s0 = 1) ∧ g s0 S
set_option maxRecDepth 100000 in
set_option maxHeartbeats 4000000 in
theorem kp_X12_holds_32 {K : xm_K} (h : Nat) (s0 : Int32) (S : xm_S) {g : Int32 → xm_S → Prop} (C : xm_Cx K cX12_holds RX12 2 (some (FieldType.boolean)) rm_X12_holds) (N : xm_Nx K) (hg : ∀ v S, g v S → xm_q K (some (xm_i v)) S)  (h1 : wp_X12_holds_32 h s0 S g) : xm_W K 0 0 32 [] [xm_i s0] S := by
  unfold wp_X12_holds_32 at h1
  exact x_zret C (Nat.le_of_ble_eq_true rfl) (Nat.le_of_ble_eq_true rfl) rfl h1.1 dX12_holds_32 (hg _ _ h1.2)
def wp_X12_holds_31 (h : Nat)  (S : xm_S) (g : Int32 → xm_S → Prop) : Prop :=
  wp_X12_holds_32 h (0 : Int32) S g
set_option maxRecDepth 100000 in
set_option maxHeartbeats 4000000 in
theorem kp_X12_holds_31 {K : xm_K} (h : Nat)  (S : xm_S) {g : Int32 → xm_S → Prop} (C : xm_Cx K cX12_holds RX12 2 (some (FieldType.boolean)) rm_X12_holds) (N : xm_Nx K) (hg : ∀ v S, g v S → xm_q K (some (xm_i v)) S)  (h1 : wp_X12_holds_31 h  S g) : xm_W K 0 0 31 [] [] S := by
  unfold wp_X12_holds_31 at h1
  refine x_iconst (v := (0 : Int32)) C dX12_holds_31 (by decide) ?_
  exact kp_X12_holds_32 h (0 : Int32) S C N hg  h1
def wp_X12_holds_13 (h : Nat) (x1 : Int32) (s0 : Int32) (s1 : Option Nat) (S : xm_S) (g : Int32 → xm_S → Prop) : Prop :=
  ∃ n1, s1 = some n1 ∧ st_t S n1 = some (12, 0) ∧ wp_X12_may n1 s0 S (fun r5 S4 => (r5 = 0 → wp_X12_holds_31 h S4 g) ∧ (¬ r5 = 0 → st_t S4 h = some (12, 0) ∧ wp_X12_isLockClosure h x1 S4 (fun r8 S7 => (r8 = 0 → wp_X12_holds_31 h S7 g) ∧ (¬ r8 = 0 → wp_X12_holds_32 h (1 : Int32) S7 g))))
set_option maxRecDepth 100000 in
set_option maxHeartbeats 4000000 in
theorem kp_X12_holds_13 {K : xm_K} (h : Nat) (x1 : Int32) (s0 : Int32) (s1 : Option Nat) (S : xm_S) {g : Int32 → xm_S → Prop} (C : xm_Cx K cX12_holds RX12 2 (some (FieldType.boolean)) rm_X12_holds) (N : xm_Nx K) (hg : ∀ v S, g v S → xm_q K (some (xm_i v)) S)  (h1 : wp_X12_holds_13 h x1 s0 s1 S g) : xm_W K 0 0 13 [(0, xm_r (some h)), (1, xm_i x1)] [xm_i s0, xm_r s1] S := by
  unfold wp_X12_holds_13 at h1
  obtain ⟨n1, hr2, h1⟩ := h1
  obtain ⟨ht3, h1⟩ := h1
  refine x_callV (rm' := rm_X12_may) (n := n1) C (kp_X12_may_met h1) lk_95 gw_572 gw_573 xv_12 rfl hr2 ht3 rfl (Nat.le_of_ble_eq_true rfl) ⟨Nat.le_of_ble_eq_true rfl, Nat.le_of_ble_eq_true rfl, (Nat.le_of_ble_eq_true rfl), (Nat.le_of_ble_eq_true rfl)⟩ dX12_holds_13 xm_kx (xm_ki (fun r5 S4 h1 => ?_))
  refine x_if_eq (tgt := 31) C dX12_holds_16 (by decide) (fun z9 => ?_) (fun z9 => ?_)
  · have h1 := h1.1 z9
    refine x_keep (L' := []) C [] rfl ?_
    exact kp_X12_holds_31 h S4 C N hg  h1
  · have h1 := h1.2 z9
    refine x_aload_n C 0 dX12_holds_19 rfl rfl ?_
    refine x_iload_n C 1 dX12_holds_20 rfl rfl ?_
    obtain ⟨ht6, h1⟩ := h1
    refine x_callV (rm' := rm_X12_isLockClosure) (n := h) C (kp_X12_isLockClosure_met h1) lk_123 gw_727 gw_728 xv_12 rfl rfl ht6 rfl (Nat.le_of_ble_eq_true rfl) ⟨Nat.le_of_ble_eq_true rfl, Nat.le_of_ble_eq_true rfl, (Nat.le_of_ble_eq_true rfl), (Nat.le_of_ble_eq_true rfl)⟩ dX12_holds_21 xm_kx (xm_ki (fun r8 S7 h1 => ?_))
    refine x_if_eq (tgt := 31) C dX12_holds_24 (by decide) (fun z9 => ?_) (fun z9 => ?_)
    · have h1 := h1.1 z9
      refine x_keep (L' := []) C [] rfl ?_
      exact kp_X12_holds_31 h S7 C N hg  h1
    · have h1 := h1.2 z9
      refine x_iconst (v := (1 : Int32)) C dX12_holds_27 (by decide) ?_
      refine x_goto (tgt := 32) C dX12_holds_28 (by decide) ?_
      refine x_keep (L' := []) C [] rfl ?_
      exact kp_X12_holds_32 h (1 : Int32) S7 C N hg  h1
def wp_X12_holds (h : Nat) (x1 : Int32) (S : xm_S) (g : Int32 → xm_S → Prop) : Prop :=
  wp_X12_isPlatform x1 S (fun r10 S9 => (r10 = 0 → wp_X12_holds_13 h x1 (1 : Int32) (some h) S9 g) ∧ (¬ r10 = 0 → wp_X12_holds_13 h x1 (0 : Int32) (some h) S9 g))
set_option maxRecDepth 100000 in
set_option maxHeartbeats 4000000 in
theorem kp_X12_holds {K : xm_K} (h : Nat) (x1 : Int32) (S : xm_S) {g : Int32 → xm_S → Prop} (C : xm_Cx K cX12_holds RX12 2 (some (FieldType.boolean)) rm_X12_holds) (N : xm_Nx K) (hg : ∀ v S, g v S → xm_q K (some (xm_i v)) S)  (h1 : wp_X12_holds h x1 S g) : xm_W K 0 0 0 [(0, xm_r (some h)), (1, xm_i x1)] [] S := by
  unfold wp_X12_holds at h1
  refine x_aload_n C 0 dX12_holds_0 rfl rfl ?_
  refine x_iload_n C 1 dX12_holds_1 rfl rfl ?_
  refine x_callS (rm' := rm_X12_isPlatform) C (kp_X12_isPlatform_met h1) lk_104 gw_611 rfl (Nat.le_of_ble_eq_true rfl) ⟨Nat.le_of_ble_eq_true rfl, Nat.le_of_ble_eq_true rfl, (Nat.le_of_ble_eq_true rfl), (Nat.le_of_ble_eq_true rfl)⟩ dX12_holds_2 xm_kx (xm_ki (fun r10 S9 h1 => ?_))
  refine x_if_eq (tgt := 12) C dX12_holds_5 (by decide) (fun z9 => ?_) (fun z9 => ?_)
  · have h1 := h1.1 z9
    refine x_iconst (v := (1 : Int32)) C dX12_holds_12 (by decide) ?_
    exact kp_X12_holds_13 h x1 (1 : Int32) (some h) S9 C N hg  h1
  · have h1 := h1.2 z9
    refine x_iconst (v := (0 : Int32)) C dX12_holds_8 (by decide) ?_
    refine x_goto (tgt := 13) C dX12_holds_9 (by decide) ?_
    exact kp_X12_holds_13 h x1 (0 : Int32) (some h) S9 C N hg  h1
theorem kp_X12_holds_met {h : Nat} {x1 : Int32} {S : xm_S} {g : Int32 → xm_S → Prop}  (h1 : wp_X12_holds h x1 S g) : xm_Met yX12_holds cX12_holds 2 (some (FieldType.boolean)) rm_X12_holds [xm_r (some h), xm_i x1] S (xm_qi g) xm_nox :=
  xm_ofW RX12 (by decide +kernel) rfl (Nat.le_of_ble_eq_true rfl) (fun K C N hq hx hi => kp_X12_holds h x1 S C N (fun v S h => by rw [hq]; exact ⟨v, rfl, h⟩)  h1)
def rm_X12_size : Room := { frames := 1, cells := 0, slots := 0, locals := 20 }
theorem dX12_size_0 : decode cX12_size 0 = .ok (.iconst 0, 1) := by decide +kernel
theorem dX12_size_1 : decode cX12_size 1 = .ok (.istore_n 1, 1) := by decide +kernel
theorem dX12_size_2 : decode cX12_size 2 = .ok (.iconst 0, 1) := by decide +kernel
theorem dX12_size_3 : decode cX12_size 3 = .ok (.istore_n 2, 1) := by decide +kernel
theorem dX12_size_4 : decode cX12_size 4 = .ok (.iload_n 2, 1) := by decide +kernel
theorem dX12_size_5 : decode cX12_size 5 = .ok (.bipush 16, 2) := by decide +kernel
theorem dX12_size_7 : decode cX12_size 7 = .ok (.if_icmp .ge 17, 3) := by decide +kernel
theorem dX12_size_10 : decode cX12_size 10 = .ok (.iload_n 1, 1) := by decide +kernel
theorem dX12_size_11 : decode cX12_size 11 = .ok (.iload_n 0, 1) := by decide +kernel
theorem dX12_size_12 : decode cX12_size 12 = .ok (.iload_n 2, 1) := by decide +kernel
theorem dX12_size_13 : decode cX12_size 13 = .ok (.ishr, 1) := by decide +kernel
theorem dX12_size_14 : decode cX12_size 14 = .ok (.iconst 1, 1) := by decide +kernel
theorem dX12_size_15 : decode cX12_size 15 = .ok (.iand, 1) := by decide +kernel
theorem dX12_size_16 : decode cX12_size 16 = .ok (.iadd, 1) := by decide +kernel
theorem dX12_size_17 : decode cX12_size 17 = .ok (.istore_n 1, 1) := by decide +kernel
theorem dX12_size_18 : decode cX12_size 18 = .ok (.iinc 2 1, 3) := by decide +kernel
theorem dX12_size_21 : decode cX12_size 21 = .ok (.goto (-17), 3) := by decide +kernel
theorem dX12_size_24 : decode cX12_size 24 = .ok (.iload_n 1, 1) := by decide +kernel
theorem dX12_size_25 : decode cX12_size 25 = .ok (.ireturn, 1) := by decide +kernel
def wp_X12_size_4B (x0 : Int32) (x1 : Int32) (x2 : Int32) (S : xm_S) (g : Int32 → xm_S → Prop) (Z4 : Int32 → Int32 → Int32 → xm_S → Prop) : Prop :=
  ((nI 16) ≤ x2 → g x1 S) ∧ (¬ (nI 16) ≤ x2 → ∀ y1, y1 = (x1 + ((x0 >>> (x2 &&& 31)) &&& (1 : Int32))) → ∀ y3, y3 = (x2 + (1 : Int32)) → Z4 x0 y1 y3 S)
def wp_X12_size_4 (x0 : Int32) (x1 : Int32) (x2 : Int32) (S : xm_S) (g : Int32 → xm_S → Prop) : Prop :=
  ∀ Z4 : Int32 → Int32 → Int32 → xm_S → Prop, (∀ x0 x1 x2 S, wp_X12_size_4B x0 x1 x2 S g Z4 → Z4 x0 x1 x2 S) → Z4 x0 x1 x2 S
set_option maxRecDepth 100000 in
set_option maxHeartbeats 4000000 in
theorem kp_X12_size_4B {K : xm_K} (x0 : Int32) (x1 : Int32) (x2 : Int32) (S : xm_S) {g : Int32 → xm_S → Prop} {Z4 : Int32 → Int32 → Int32 → xm_S → Prop} (C : xm_Cx K cX12_size RX12 3 (some (FieldType.int)) rm_X12_size) (N : xm_Nx K) (hg : ∀ v S, g v S → xm_q K (some (xm_i v)) S) (hZ4 : ∀ x0 x1 x2 S, Z4 x0 x1 x2 S → xm_W K 0 0 4 [(0, xm_i x0), (1, xm_i x1), (2, xm_i x2)] [] S) (h1 : wp_X12_size_4B x0 x1 x2 S g Z4) : xm_W K 0 0 4 [(0, xm_i x0), (1, xm_i x1), (2, xm_i x2)] [] S := by
  unfold wp_X12_size_4B at h1
  refine x_iload_n C 2 dX12_size_4 rfl rfl ?_
  refine x_bipush (v := (nI 16)) C dX12_size_5 (by decide) ?_
  refine x_icmp_ge (tgt := 24) C dX12_size_7 (by decide) (fun z9 => ?_) (fun z9 => ?_)
  · have h1 := h1.1 z9
    refine x_iload_n C 1 dX12_size_24 rfl rfl ?_
    exact x_iret C (Nat.le_of_ble_eq_true rfl) (Nat.le_of_ble_eq_true rfl) rfl dX12_size_25 (hg _ _ h1)
  · have h1 := h1.2 z9
    refine x_iload_n C 1 dX12_size_10 rfl rfl ?_
    refine x_iload_n C 0 dX12_size_11 rfl rfl ?_
    refine x_iload_n C 2 dX12_size_12 rfl rfl ?_
    refine x_ishr C dX12_size_13 ?_
    refine x_iconst (v := (1 : Int32)) C dX12_size_14 (by decide) ?_
    refine x_iand C dX12_size_15 ?_
    refine x_iadd C dX12_size_16 ?_
    refine x_topi (fun y1 e2 => ?_)
    have h1 := h1 y1 e2
    refine x_istore_n (L' := [(1, xm_i y1), (0, xm_i x0), (2, xm_i x2)]) C dX12_size_17 rfl (by decide) rfl ?_
    obtain ⟨y3, e4⟩ : ∃ y3, y3 = (x2 + (1 : Int32)) := ⟨_, rfl⟩
    have h1 := h1 y3 e4
    refine x_iinc (v := y3) (L' := [(2, xm_i y3), (1, xm_i y1), (0, xm_i x0)]) C 2 dX12_size_18 rfl (by rw [e4]; rfl) (by decide) rfl ?_
    refine x_goto (tgt := 4) C dX12_size_21 (by decide) ?_
    refine x_keep (L' := [(0, xm_i x0), (1, xm_i y1), (2, xm_i y3)]) C [2, 1, 0] rfl ?_
    exact hZ4 x0 y1 y3 S h1
theorem kp_X12_size_4 {K : xm_K} (x0 : Int32) (x1 : Int32) (x2 : Int32) (S : xm_S) {g : Int32 → xm_S → Prop} (C : xm_Cx K cX12_size RX12 3 (some (FieldType.int)) rm_X12_size) (N : xm_Nx K) (hg : ∀ v S, g v S → xm_q K (some (xm_i v)) S)  (h1 : wp_X12_size_4 x0 x1 x2 S g) : xm_W K 0 0 4 [(0, xm_i x0), (1, xm_i x1), (2, xm_i x2)] [] S :=
  h1 (fun x0 x1 x2 S => xm_W K 0 0 4 [(0, xm_i x0), (1, xm_i x1), (2, xm_i x2)] [] S) (fun x0 x1 x2 S hb => kp_X12_size_4B x0 x1 x2 S C N hg (fun x0 x1 x2 S hz => hz) hb)
def wp_X12_size (x0 : Int32) (S : xm_S) (g : Int32 → xm_S → Prop) : Prop :=
  wp_X12_size_4 x0 (0 : Int32) (0 : Int32) S g
set_option maxRecDepth 100000 in
set_option maxHeartbeats 4000000 in
theorem kp_X12_size {K : xm_K} (x0 : Int32) (S : xm_S) {g : Int32 → xm_S → Prop} (C : xm_Cx K cX12_size RX12 3 (some (FieldType.int)) rm_X12_size) (N : xm_Nx K) (hg : ∀ v S, g v S → xm_q K (some (xm_i v)) S)  (h1 : wp_X12_size x0 S g) : xm_W K 0 0 0 [(0, xm_i x0)] [] S := by
  unfold wp_X12_size at h1
  refine x_iconst (v := (0 : Int32)) C dX12_size_0 (by decide) ?_
  refine x_istore_n (L' := [(1, xm_i (0 : Int32)), (0, xm_i x0)]) C dX12_size_1 rfl (by decide) rfl ?_
  refine x_iconst (v := (0 : Int32)) C dX12_size_2 (by decide) ?_
  refine x_istore_n (L' := [(2, xm_i (0 : Int32)), (1, xm_i (0 : Int32)), (0, xm_i x0)]) C dX12_size_3 rfl (by decide) rfl ?_
  refine x_keep (L' := [(0, xm_i x0), (1, xm_i (0 : Int32)), (2, xm_i (0 : Int32))]) C [2, 1, 0] rfl ?_
  exact kp_X12_size_4 x0 (0 : Int32) (0 : Int32) S C N hg  h1
theorem kp_X12_size_met {x0 : Int32} {S : xm_S} {g : Int32 → xm_S → Prop}  (h1 : wp_X12_size x0 S g) : xm_Met yX12_size cX12_size 3 (some (FieldType.int)) rm_X12_size [xm_i x0] S (xm_qi g) xm_nox :=
  xm_ofW RX12 (by decide +kernel) rfl (Nat.le_of_ble_eq_true rfl) (fun K C N hq hx hi => kp_X12_size x0 S C N (fun v S h => by rw [hq]; exact ⟨v, rfl, h⟩)  h1)
def rm_X12_index : Room := { frames := 2, cells := 0, slots := 0, locals := 42 }
theorem dX12_index_0 : decode cX12_index 0 = .ok (.aload_n 0, 1) := by decide +kernel
theorem dX12_index_1 : decode cX12_index 1 = .ok (.iload_n 1, 1) := by decide +kernel
theorem dX12_index_2 : decode cX12_index 2 = .ok (.iconst 0, 1) := by decide +kernel
theorem dX12_index_3 : decode cX12_index 3 = .ok (.sipush 9999, 3) := by decide +kernel
theorem dX12_index_6 : decode cX12_index 6 = .ok (.invokestatic 172, 3) := by decide +kernel
theorem dX12_index_9 : decode cX12_index 9 = .ok (.ifCond .eq 28, 3) := by decide +kernel
theorem dX12_index_12 : decode cX12_index 12 = .ok (.iload_n 2, 1) := by decide +kernel
theorem dX12_index_13 : decode cX12_index 13 = .ok (.iconst 0, 1) := by decide +kernel
theorem dX12_index_14 : decode cX12_index 14 = .ok (.ldc_w 324, 3) := by decide +kernel
theorem dX12_index_17 : decode cX12_index 17 = .ok (.invokestatic 172, 3) := by decide +kernel
theorem dX12_index_20 : decode cX12_index 20 = .ok (.ifCond .eq 17, 3) := by decide +kernel
theorem dX12_index_23 : decode cX12_index 23 = .ok (.iload_n 3, 1) := by decide +kernel
theorem dX12_index_24 : decode cX12_index 24 = .ok (.iconst 0, 1) := by decide +kernel
theorem dX12_index_25 : decode cX12_index 25 = .ok (.bipush 31, 2) := by decide +kernel
theorem dX12_index_27 : decode cX12_index 27 = .ok (.invokestatic 172, 3) := by decide +kernel
theorem dX12_index_30 : decode cX12_index 30 = .ok (.ifCond .eq 7, 3) := by decide +kernel
theorem dX12_index_33 : decode cX12_index 33 = .ok (.iconst 0, 1) := by decide +kernel
theorem dX12_index_34 : decode cX12_index 34 = .ok (.goto 4, 3) := by decide +kernel
theorem dX12_index_37 : decode cX12_index 37 = .ok (.iconst 1, 1) := by decide +kernel
theorem dX12_index_38 : decode cX12_index 38 = .ok (.invokevirtual 182, 3) := by decide +kernel
theorem dX12_index_41 : decode cX12_index 41 = .ok (.ifCond .ne 5, 3) := by decide +kernel
theorem dX12_index_44 : decode cX12_index 44 = .ok (.iconst 0, 1) := by decide +kernel
theorem dX12_index_45 : decode cX12_index 45 = .ok (.ireturn, 1) := by decide +kernel
theorem dX12_index_46 : decode cX12_index 46 = .ok (.iload_n 3, 1) := by decide +kernel
theorem dX12_index_47 : decode cX12_index 47 = .ok (.aload_n 0, 1) := by decide +kernel
theorem dX12_index_48 : decode cX12_index 48 = .ok (.getfield 112, 3) := by decide +kernel
theorem dX12_index_51 : decode cX12_index 51 = .ok (.iand, 1) := by decide +kernel
theorem dX12_index_52 : decode cX12_index 52 = .ok (.invokestatic 308, 3) := by decide +kernel
theorem dX12_index_55 : decode cX12_index 55 = .ok (.aload_n 0, 1) := by decide +kernel
theorem dX12_index_56 : decode cX12_index 56 = .ok (.getfield 115, 3) := by decide +kernel
theorem dX12_index_59 : decode cX12_index 59 = .ok (.if_icmp .ge 7, 3) := by decide +kernel
theorem dX12_index_62 : decode cX12_index 62 = .ok (.iconst 1, 1) := by decide +kernel
theorem dX12_index_63 : decode cX12_index 63 = .ok (.goto 28, 3) := by decide +kernel
theorem dX12_index_66 : decode cX12_index 66 = .ok (.iload_n 1, 1) := by decide +kernel
theorem dX12_index_67 : decode cX12_index 67 = .ok (.aload_n 0, 1) := by decide +kernel
theorem dX12_index_68 : decode cX12_index 68 = .ok (.getfield 325, 3) := by decide +kernel
theorem dX12_index_71 : decode cX12_index 71 = .ok (.if_icmp .ge 7, 3) := by decide +kernel
theorem dX12_index_74 : decode cX12_index 74 = .ok (.iconst 2, 1) := by decide +kernel
theorem dX12_index_75 : decode cX12_index 75 = .ok (.goto 16, 3) := by decide +kernel
theorem dX12_index_78 : decode cX12_index 78 = .ok (.iload_n 2, 1) := by decide +kernel
theorem dX12_index_79 : decode cX12_index 79 = .ok (.aload_n 0, 1) := by decide +kernel
theorem dX12_index_80 : decode cX12_index 80 = .ok (.getfield 320, 3) := by decide +kernel
theorem dX12_index_83 : decode cX12_index 83 = .ok (.if_icmp .gt 7, 3) := by decide +kernel
theorem dX12_index_86 : decode cX12_index 86 = .ok (.iconst 3, 1) := by decide +kernel
theorem dX12_index_87 : decode cX12_index 87 = .ok (.goto 4, 3) := by decide +kernel
theorem dX12_index_90 : decode cX12_index 90 = .ok (.iconst 0, 1) := by decide +kernel
theorem dX12_index_91 : decode cX12_index 91 = .ok (.istore 4, 2) := by decide +kernel
theorem dX12_index_93 : decode cX12_index 93 = .ok (.aload_n 0, 1) := by decide +kernel
theorem dX12_index_94 : decode cX12_index 94 = .ok (.iload 4, 2) := by decide +kernel
theorem dX12_index_96 : decode cX12_index 96 = .ok (.ifCond .ne 7, 3) := by decide +kernel
theorem dX12_index_99 : decode cX12_index 99 = .ok (.iload_n 1, 1) := by decide +kernel
theorem dX12_index_100 : decode cX12_index 100 = .ok (.goto 7, 3) := by decide +kernel
theorem dX12_index_103 : decode cX12_index 103 = .ok (.aload_n 0, 1) := by decide +kernel
theorem dX12_index_104 : decode cX12_index 104 = .ok (.getfield 325, 3) := by decide +kernel
theorem dX12_index_107 : decode cX12_index 107 = .ok (.putfield 325, 3) := by decide +kernel
theorem dX12_index_110 : decode cX12_index 110 = .ok (.iload 4, 2) := by decide +kernel
theorem dX12_index_112 : decode cX12_index 112 = .ok (.ireturn, 1) := by decide +kernel
def wp_X12_index_107 (h : Nat) (x4 : Int32) (s0 : Int32) (s1 : Option Nat) (S : xm_S) (g : Int32 → xm_S → Prop) : Prop :=
  ∃ n1, s1 = some n1 ∧ st_t S n1 = some (12, 0) ∧ ∀ S4, S4 = st_pi S n1 39 s0 → g x4 S4
set_option maxRecDepth 100000 in
set_option maxHeartbeats 4000000 in
theorem kp_X12_index_107 {K : xm_K} (h : Nat) (x4 : Int32) (s0 : Int32) (s1 : Option Nat) (S : xm_S) {g : Int32 → xm_S → Prop} (C : xm_Cx K cX12_index RX12 5 (some (FieldType.int)) rm_X12_index) (N : xm_Nx K) (hg : ∀ v S, g v S → xm_q K (some (xm_i v)) S)  (h1 : wp_X12_index_107 h x4 s0 s1 S g) : xm_W K 0 0 107 [(4, xm_i x4)] [xm_i s0, xm_r s1] S := by
  unfold wp_X12_index_107 at h1
  obtain ⟨n1, hr2, h1⟩ := h1
  obtain ⟨ht3, h1⟩ := h1
  refine x_putf_i (n := n1) C hr2 ht3 fd_213 xc_12 (by decide) rfl ⟨rfl, rfl⟩ dX12_index_107 ?_
  refine x_topS (fun S4 e5 => ?_)
  have h1 := h1 S4 e5
  refine x_iload C 0 dX12_index_110 rfl ?_
  exact x_iret C (Nat.le_of_ble_eq_true rfl) (Nat.le_of_ble_eq_true rfl) rfl dX12_index_112 (hg _ _ h1)
def wp_X12_index_91 (h : Nat) (x1 : Int32) (s0 : Int32) (S : xm_S) (g : Int32 → xm_S → Prop) : Prop :=
  (¬ s0 = 0 → st_t S h = some (12, 0) ∧ wp_X12_index_107 h s0 (st_i S h 39) (some h) S g) ∧ (s0 = 0 → wp_X12_index_107 h s0 x1 (some h) S g)
set_option maxRecDepth 100000 in
set_option maxHeartbeats 4000000 in
theorem kp_X12_index_91 {K : xm_K} (h : Nat) (x1 : Int32) (s0 : Int32) (S : xm_S) {g : Int32 → xm_S → Prop} (C : xm_Cx K cX12_index RX12 5 (some (FieldType.int)) rm_X12_index) (N : xm_Nx K) (hg : ∀ v S, g v S → xm_q K (some (xm_i v)) S)  (h1 : wp_X12_index_91 h x1 s0 S g) : xm_W K 0 0 91 [(0, xm_r (some h)), (1, xm_i x1)] [xm_i s0] S := by
  unfold wp_X12_index_91 at h1
  refine x_istore (L' := [(4, xm_i s0), (0, xm_r (some h)), (1, xm_i x1)]) C dX12_index_91 (by decide) rfl ?_
  refine x_aload_n C 1 dX12_index_93 rfl rfl ?_
  refine x_iload C 0 dX12_index_94 rfl ?_
  refine x_if_ne (tgt := 103) C dX12_index_96 (by decide) (fun z9 => ?_) (fun z9 => ?_)
  · have h1 := h1.1 z9
    refine x_aload_n C 1 dX12_index_103 rfl rfl ?_
    obtain ⟨ht6, h1⟩ := h1
    refine x_getf_i (n := h) C rfl ht6 fd_213 (by decide) dX12_index_104 ?_
    refine x_keep (L' := [(4, xm_i s0)]) C [0] rfl ?_
    exact kp_X12_index_107 h s0 (st_i S h 39) (some h) S C N hg  h1
  · have h1 := h1.2 z9
    refine x_iload_n C 2 dX12_index_99 rfl rfl ?_
    refine x_goto (tgt := 107) C dX12_index_100 (by decide) ?_
    refine x_keep (L' := [(4, xm_i s0)]) C [0] rfl ?_
    exact kp_X12_index_107 h s0 x1 (some h) S C N hg  h1
def wp_X12_index_38 (h : Nat) (x1 : Int32) (x2 : Int32) (x3 : Int32) (s0 : Int32) (s1 : Option Nat) (S : xm_S) (g : Int32 → xm_S → Prop) : Prop :=
  ∃ n7, s1 = some n7 ∧ st_t S n7 = some (12, 0) ∧ wp_X12_may n7 s0 S (fun r11 S10 => (¬ r11 = 0 → st_t S10 h = some (12, 0) ∧ wp_X12_size (x3 &&& (st_i S10 h 37)) S10 (fun r14 S13 => st_t S13 h = some (12, 0) ∧ ((st_i S13 h 38) ≤ r14 → ((st_i S13 h 39) ≤ x1 → ((st_i S13 h 36) < x2 → wp_X12_index_91 h x1 (0 : Int32) S13 g) ∧ (¬ (st_i S13 h 36) < x2 → wp_X12_index_91 h x1 (nI 3) S13 g)) ∧ (¬ (st_i S13 h 39) ≤ x1 → wp_X12_index_91 h x1 (nI 2) S13 g)) ∧ (¬ (st_i S13 h 38) ≤ r14 → wp_X12_index_91 h x1 (1 : Int32) S13 g))) ∧ (r11 = 0 → g (0 : Int32) S10))
set_option maxRecDepth 100000 in
set_option maxHeartbeats 4000000 in
theorem kp_X12_index_38 {K : xm_K} (h : Nat) (x1 : Int32) (x2 : Int32) (x3 : Int32) (s0 : Int32) (s1 : Option Nat) (S : xm_S) {g : Int32 → xm_S → Prop} (C : xm_Cx K cX12_index RX12 5 (some (FieldType.int)) rm_X12_index) (N : xm_Nx K) (hg : ∀ v S, g v S → xm_q K (some (xm_i v)) S)  (h1 : wp_X12_index_38 h x1 x2 x3 s0 s1 S g) : xm_W K 0 0 38 [(0, xm_r (some h)), (1, xm_i x1), (2, xm_i x2), (3, xm_i x3)] [xm_i s0, xm_r s1] S := by
  unfold wp_X12_index_38 at h1
  obtain ⟨n7, hr8, h1⟩ := h1
  obtain ⟨ht9, h1⟩ := h1
  refine x_callV (rm' := rm_X12_may) (n := n7) C (kp_X12_may_met h1) lk_95 gw_572 gw_573 xv_12 rfl hr8 ht9 rfl (Nat.le_of_ble_eq_true rfl) ⟨Nat.le_of_ble_eq_true rfl, Nat.le_of_ble_eq_true rfl, (Nat.le_of_ble_eq_true rfl), (Nat.le_of_ble_eq_true rfl)⟩ dX12_index_38 xm_kx (xm_ki (fun r11 S10 h1 => ?_))
  refine x_if_ne (tgt := 46) C dX12_index_41 (by decide) (fun z9 => ?_) (fun z9 => ?_)
  · have h1 := h1.1 z9
    refine x_iload_n C 3 dX12_index_46 rfl rfl ?_
    refine x_aload_n C 0 dX12_index_47 rfl rfl ?_
    obtain ⟨ht12, h1⟩ := h1
    refine x_getf_i (n := h) C rfl ht12 fd_214 (by decide) dX12_index_48 ?_
    refine x_iand C dX12_index_51 ?_
    refine x_callS (rm' := rm_X12_size) C (kp_X12_size_met h1) lk_124 gw_733 rfl (Nat.le_of_ble_eq_true rfl) ⟨Nat.le_of_ble_eq_true rfl, Nat.le_of_ble_eq_true rfl, (Nat.le_of_ble_eq_true rfl), (Nat.le_of_ble_eq_true rfl)⟩ dX12_index_52 xm_kx (xm_ki (fun r14 S13 h1 => ?_))
    refine x_aload_n C 0 dX12_index_55 rfl rfl ?_
    obtain ⟨ht15, h1⟩ := h1
    refine x_getf_i (n := h) C rfl ht15 fd_215 (by decide) dX12_index_56 ?_
    refine x_icmp_ge (tgt := 66) C dX12_index_59 (by decide) (fun z9 => ?_) (fun z9 => ?_)
    · have h1 := h1.1 z9
      refine x_iload_n C 1 dX12_index_66 rfl rfl ?_
      refine x_aload_n C 0 dX12_index_67 rfl rfl ?_
      refine x_getf_i (n := h) C rfl ht15 fd_213 (by decide) dX12_index_68 ?_
      refine x_icmp_ge (tgt := 78) C dX12_index_71 (by decide) (fun z9 => ?_) (fun z9 => ?_)
      · have h1 := h1.1 z9
        refine x_iload_n C 2 dX12_index_78 rfl rfl ?_
        refine x_aload_n C 0 dX12_index_79 rfl rfl ?_
        refine x_getf_i (n := h) C rfl ht15 fd_216 (by decide) dX12_index_80 ?_
        refine x_icmp_gt (tgt := 90) C dX12_index_83 (by decide) (fun z9 => ?_) (fun z9 => ?_)
        · have h1 := h1.1 z9
          refine x_iconst (v := (0 : Int32)) C dX12_index_90 (by decide) ?_
          refine x_keep (L' := [(0, xm_r (some h)), (1, xm_i x1)]) C [0, 1] rfl ?_
          exact kp_X12_index_91 h x1 (0 : Int32) S13 C N hg  h1
        · have h1 := h1.2 z9
          refine x_iconst (v := (nI 3)) C dX12_index_86 (by decide) ?_
          refine x_goto (tgt := 91) C dX12_index_87 (by decide) ?_
          refine x_keep (L' := [(0, xm_r (some h)), (1, xm_i x1)]) C [0, 1] rfl ?_
          exact kp_X12_index_91 h x1 (nI 3) S13 C N hg  h1
      · have h1 := h1.2 z9
        refine x_iconst (v := (nI 2)) C dX12_index_74 (by decide) ?_
        refine x_goto (tgt := 91) C dX12_index_75 (by decide) ?_
        refine x_keep (L' := [(0, xm_r (some h)), (1, xm_i x1)]) C [0, 1] rfl ?_
        exact kp_X12_index_91 h x1 (nI 2) S13 C N hg  h1
    · have h1 := h1.2 z9
      refine x_iconst (v := (1 : Int32)) C dX12_index_62 (by decide) ?_
      refine x_goto (tgt := 91) C dX12_index_63 (by decide) ?_
      refine x_keep (L' := [(0, xm_r (some h)), (1, xm_i x1)]) C [0, 1] rfl ?_
      exact kp_X12_index_91 h x1 (1 : Int32) S13 C N hg  h1
  · have h1 := h1.2 z9
    refine x_iconst (v := (0 : Int32)) C dX12_index_44 (by decide) ?_
    exact x_iret C (Nat.le_of_ble_eq_true rfl) (Nat.le_of_ble_eq_true rfl) rfl dX12_index_45 (hg _ _ h1)
def wp_X12_index_37 (h : Nat) (x1 : Int32) (x2 : Int32) (x3 : Int32) (s0 : Option Nat) (S : xm_S) (g : Int32 → xm_S → Prop) : Prop :=
  wp_X12_index_38 h x1 x2 x3 (1 : Int32) s0 S g
set_option maxRecDepth 100000 in
set_option maxHeartbeats 4000000 in
theorem kp_X12_index_37 {K : xm_K} (h : Nat) (x1 : Int32) (x2 : Int32) (x3 : Int32) (s0 : Option Nat) (S : xm_S) {g : Int32 → xm_S → Prop} (C : xm_Cx K cX12_index RX12 5 (some (FieldType.int)) rm_X12_index) (N : xm_Nx K) (hg : ∀ v S, g v S → xm_q K (some (xm_i v)) S)  (h1 : wp_X12_index_37 h x1 x2 x3 s0 S g) : xm_W K 0 0 37 [(0, xm_r (some h)), (1, xm_i x1), (2, xm_i x2), (3, xm_i x3)] [xm_r s0] S := by
  unfold wp_X12_index_37 at h1
  refine x_iconst (v := (1 : Int32)) C dX12_index_37 (by decide) ?_
  exact kp_X12_index_38 h x1 x2 x3 (1 : Int32) s0 S C N hg  h1
def wp_X12_index (h : Nat) (x1 : Int32) (x2 : Int32) (x3 : Int32) (S : xm_S) (g : Int32 → xm_S → Prop) : Prop :=
  wp_X12_in x1 (0 : Int32) (nI 9999) S (fun r17 S16 => (r17 = 0 → wp_X12_index_37 h x1 x2 x3 (some h) S16 g) ∧ (¬ r17 = 0 → wp_X12_in x2 (0 : Int32) (nI 200000) S16 (fun r19 S18 => (r19 = 0 → wp_X12_index_37 h x1 x2 x3 (some h) S18 g) ∧ (¬ r19 = 0 → wp_X12_in x3 (0 : Int32) (nI 31) S18 (fun r21 S20 => (r21 = 0 → wp_X12_index_37 h x1 x2 x3 (some h) S20 g) ∧ (¬ r21 = 0 → wp_X12_index_38 h x1 x2 x3 (0 : Int32) (some h) S20 g))))))
set_option maxRecDepth 100000 in
set_option maxHeartbeats 4000000 in
theorem kp_X12_index {K : xm_K} (h : Nat) (x1 : Int32) (x2 : Int32) (x3 : Int32) (S : xm_S) {g : Int32 → xm_S → Prop} (C : xm_Cx K cX12_index RX12 5 (some (FieldType.int)) rm_X12_index) (N : xm_Nx K) (hg : ∀ v S, g v S → xm_q K (some (xm_i v)) S)  (h1 : wp_X12_index h x1 x2 x3 S g) : xm_W K 0 0 0 [(0, xm_r (some h)), (1, xm_i x1), (2, xm_i x2), (3, xm_i x3)] [] S := by
  unfold wp_X12_index at h1
  refine x_aload_n C 0 dX12_index_0 rfl rfl ?_
  refine x_iload_n C 1 dX12_index_1 rfl rfl ?_
  refine x_iconst (v := (0 : Int32)) C dX12_index_2 (by decide) ?_
  refine x_sipush (v := (nI 9999)) C dX12_index_3 (by decide) ?_
  refine x_callS (rm' := rm_X12_in) C (kp_X12_in_met h1) lk_87 gw_533 rfl (Nat.le_of_ble_eq_true rfl) ⟨Nat.le_of_ble_eq_true rfl, Nat.le_of_ble_eq_true rfl, (Nat.le_of_ble_eq_true rfl), (Nat.le_of_ble_eq_true rfl)⟩ dX12_index_6 xm_kx (xm_ki (fun r17 S16 h1 => ?_))
  refine x_if_eq (tgt := 37) C dX12_index_9 (by decide) (fun z9 => ?_) (fun z9 => ?_)
  · have h1 := h1.1 z9
    exact kp_X12_index_37 h x1 x2 x3 (some h) S16 C N hg  h1
  · have h1 := h1.2 z9
    refine x_iload_n C 2 dX12_index_12 rfl rfl ?_
    refine x_iconst (v := (0 : Int32)) C dX12_index_13 (by decide) ?_
    refine x_ldcw (v := nI 200000) C gw_736 dX12_index_14 ?_
    refine x_callS (rm' := rm_X12_in) C (kp_X12_in_met h1) lk_87 gw_533 rfl (Nat.le_of_ble_eq_true rfl) ⟨Nat.le_of_ble_eq_true rfl, Nat.le_of_ble_eq_true rfl, (Nat.le_of_ble_eq_true rfl), (Nat.le_of_ble_eq_true rfl)⟩ dX12_index_17 xm_kx (xm_ki (fun r19 S18 h1 => ?_))
    refine x_if_eq (tgt := 37) C dX12_index_20 (by decide) (fun z9 => ?_) (fun z9 => ?_)
    · have h1 := h1.1 z9
      exact kp_X12_index_37 h x1 x2 x3 (some h) S18 C N hg  h1
    · have h1 := h1.2 z9
      refine x_iload_n C 3 dX12_index_23 rfl rfl ?_
      refine x_iconst (v := (0 : Int32)) C dX12_index_24 (by decide) ?_
      refine x_bipush (v := (nI 31)) C dX12_index_25 (by decide) ?_
      refine x_callS (rm' := rm_X12_in) C (kp_X12_in_met h1) lk_87 gw_533 rfl (Nat.le_of_ble_eq_true rfl) ⟨Nat.le_of_ble_eq_true rfl, Nat.le_of_ble_eq_true rfl, (Nat.le_of_ble_eq_true rfl), (Nat.le_of_ble_eq_true rfl)⟩ dX12_index_27 xm_kx (xm_ki (fun r21 S20 h1 => ?_))
      refine x_if_eq (tgt := 37) C dX12_index_30 (by decide) (fun z9 => ?_) (fun z9 => ?_)
      · have h1 := h1.1 z9
        exact kp_X12_index_37 h x1 x2 x3 (some h) S20 C N hg  h1
      · have h1 := h1.2 z9
        refine x_iconst (v := (0 : Int32)) C dX12_index_33 (by decide) ?_
        refine x_goto (tgt := 38) C dX12_index_34 (by decide) ?_
        exact kp_X12_index_38 h x1 x2 x3 (0 : Int32) (some h) S20 C N hg  h1
theorem kp_X12_index_met {h : Nat} {x1 : Int32} {x2 : Int32} {x3 : Int32} {S : xm_S} {g : Int32 → xm_S → Prop}  (h1 : wp_X12_index h x1 x2 x3 S g) : xm_Met yX12_index cX12_index 5 (some (FieldType.int)) rm_X12_index [xm_r (some h), xm_i x1, xm_i x2, xm_i x3] S (xm_qi g) xm_nox :=
  xm_ofW RX12 (by decide +kernel) rfl (Nat.le_of_ble_eq_true rfl) (fun K C N hq hx hi => kp_X12_index h x1 x2 x3 S C N (fun v S h => by rw [hq]; exact ⟨v, rfl, h⟩)  h1)
def rm_X12_init : Room := { frames := 1, cells := 48, slots := 8339, locals := 20 }
theorem dX12_init_0 : decode cX12_init 0 = .ok (.aload_n 0, 1) := by decide +kernel
theorem dX12_init_1 : decode cX12_init 1 = .ok (.invokespecial 1, 3) := by decide +kernel
theorem dX12_init_4 : decode cX12_init 4 = .ok (.aload_n 0, 1) := by decide +kernel
theorem dX12_init_5 : decode cX12_init 5 = .ok (.bipush 6, 2) := by decide +kernel
theorem dX12_init_7 : decode cX12_init 7 = .ok (.newarray .int, 2) := by decide +kernel
theorem dX12_init_9 : decode cX12_init 9 = .ok (.putfield 7, 3) := by decide +kernel
theorem dX12_init_12 : decode cX12_init 12 = .ok (.aload_n 0, 1) := by decide +kernel
theorem dX12_init_13 : decode cX12_init 13 = .ok (.bipush 6, 2) := by decide +kernel
theorem dX12_init_15 : decode cX12_init 15 = .ok (.newarray .int, 2) := by decide +kernel
theorem dX12_init_17 : decode cX12_init 17 = .ok (.putfield 13, 3) := by decide +kernel
theorem dX12_init_20 : decode cX12_init 20 = .ok (.aload_n 0, 1) := by decide +kernel
theorem dX12_init_21 : decode cX12_init 21 = .ok (.bipush 24, 2) := by decide +kernel
theorem dX12_init_23 : decode cX12_init 23 = .ok (.newarray .int, 2) := by decide +kernel
theorem dX12_init_25 : decode cX12_init 25 = .ok (.putfield 16, 3) := by decide +kernel
theorem dX12_init_28 : decode cX12_init 28 = .ok (.aload_n 0, 1) := by decide +kernel
theorem dX12_init_29 : decode cX12_init 29 = .ok (.bipush 24, 2) := by decide +kernel
theorem dX12_init_31 : decode cX12_init 31 = .ok (.newarray .int, 2) := by decide +kernel
theorem dX12_init_33 : decode cX12_init 33 = .ok (.putfield 19, 3) := by decide +kernel
theorem dX12_init_36 : decode cX12_init 36 = .ok (.aload_n 0, 1) := by decide +kernel
theorem dX12_init_37 : decode cX12_init 37 = .ok (.bipush 24, 2) := by decide +kernel
theorem dX12_init_39 : decode cX12_init 39 = .ok (.newarray .int, 2) := by decide +kernel
theorem dX12_init_41 : decode cX12_init 41 = .ok (.putfield 22, 3) := by decide +kernel
theorem dX12_init_44 : decode cX12_init 44 = .ok (.aload_n 0, 1) := by decide +kernel
theorem dX12_init_45 : decode cX12_init 45 = .ok (.bipush 24, 2) := by decide +kernel
theorem dX12_init_47 : decode cX12_init 47 = .ok (.newarray .int, 2) := by decide +kernel
theorem dX12_init_49 : decode cX12_init 49 = .ok (.putfield 25, 3) := by decide +kernel
theorem dX12_init_52 : decode cX12_init 52 = .ok (.aload_n 0, 1) := by decide +kernel
theorem dX12_init_53 : decode cX12_init 53 = .ok (.bipush 24, 2) := by decide +kernel
theorem dX12_init_55 : decode cX12_init 55 = .ok (.newarray .boolean, 2) := by decide +kernel
theorem dX12_init_57 : decode cX12_init 57 = .ok (.putfield 28, 3) := by decide +kernel
theorem dX12_init_60 : decode cX12_init 60 = .ok (.aload_n 0, 1) := by decide +kernel
theorem dX12_init_61 : decode cX12_init 61 = .ok (.bipush 24, 2) := by decide +kernel
theorem dX12_init_63 : decode cX12_init 63 = .ok (.newarray .int, 2) := by decide +kernel
theorem dX12_init_65 : decode cX12_init 65 = .ok (.putfield 32, 3) := by decide +kernel
theorem dX12_init_68 : decode cX12_init 68 = .ok (.aload_n 0, 1) := by decide +kernel
theorem dX12_init_69 : decode cX12_init 69 = .ok (.bipush 96, 2) := by decide +kernel
theorem dX12_init_71 : decode cX12_init 71 = .ok (.newarray .int, 2) := by decide +kernel
theorem dX12_init_73 : decode cX12_init 73 = .ok (.putfield 35, 3) := by decide +kernel
theorem dX12_init_76 : decode cX12_init 76 = .ok (.aload_n 0, 1) := by decide +kernel
theorem dX12_init_77 : decode cX12_init 77 = .ok (.bipush 96, 2) := by decide +kernel
theorem dX12_init_79 : decode cX12_init 79 = .ok (.newarray .int, 2) := by decide +kernel
theorem dX12_init_81 : decode cX12_init 81 = .ok (.putfield 38, 3) := by decide +kernel
theorem dX12_init_84 : decode cX12_init 84 = .ok (.aload_n 0, 1) := by decide +kernel
theorem dX12_init_85 : decode cX12_init 85 = .ok (.bipush 96, 2) := by decide +kernel
theorem dX12_init_87 : decode cX12_init 87 = .ok (.newarray .int, 2) := by decide +kernel
theorem dX12_init_89 : decode cX12_init 89 = .ok (.putfield 41, 3) := by decide +kernel
theorem dX12_init_92 : decode cX12_init 92 = .ok (.aload_n 0, 1) := by decide +kernel
theorem dX12_init_93 : decode cX12_init 93 = .ok (.bipush 96, 2) := by decide +kernel
theorem dX12_init_95 : decode cX12_init 95 = .ok (.newarray .int, 2) := by decide +kernel
theorem dX12_init_97 : decode cX12_init 97 = .ok (.putfield 44, 3) := by decide +kernel
theorem dX12_init_100 : decode cX12_init 100 = .ok (.aload_n 0, 1) := by decide +kernel
theorem dX12_init_101 : decode cX12_init 101 = .ok (.bipush 24, 2) := by decide +kernel
theorem dX12_init_103 : decode cX12_init 103 = .ok (.newarray .int, 2) := by decide +kernel
theorem dX12_init_105 : decode cX12_init 105 = .ok (.putfield 47, 3) := by decide +kernel
theorem dX12_init_108 : decode cX12_init 108 = .ok (.aload_n 0, 1) := by decide +kernel
theorem dX12_init_109 : decode cX12_init 109 = .ok (.bipush 48, 2) := by decide +kernel
theorem dX12_init_111 : decode cX12_init 111 = .ok (.newarray .int, 2) := by decide +kernel
theorem dX12_init_113 : decode cX12_init 113 = .ok (.putfield 50, 3) := by decide +kernel
theorem dX12_init_116 : decode cX12_init 116 = .ok (.aload_n 0, 1) := by decide +kernel
theorem dX12_init_117 : decode cX12_init 117 = .ok (.bipush 24, 2) := by decide +kernel
theorem dX12_init_119 : decode cX12_init 119 = .ok (.newarray .int, 2) := by decide +kernel
theorem dX12_init_121 : decode cX12_init 121 = .ok (.putfield 53, 3) := by decide +kernel
theorem dX12_init_124 : decode cX12_init 124 = .ok (.aload_n 0, 1) := by decide +kernel
theorem dX12_init_125 : decode cX12_init 125 = .ok (.bipush 48, 2) := by decide +kernel
theorem dX12_init_127 : decode cX12_init 127 = .ok (.newarray .int, 2) := by decide +kernel
theorem dX12_init_129 : decode cX12_init 129 = .ok (.putfield 56, 3) := by decide +kernel
theorem dX12_init_132 : decode cX12_init 132 = .ok (.aload_n 0, 1) := by decide +kernel
theorem dX12_init_133 : decode cX12_init 133 = .ok (.bipush 48, 2) := by decide +kernel
theorem dX12_init_135 : decode cX12_init 135 = .ok (.newarray .int, 2) := by decide +kernel
theorem dX12_init_137 : decode cX12_init 137 = .ok (.putfield 59, 3) := by decide +kernel
theorem dX12_init_140 : decode cX12_init 140 = .ok (.aload_n 0, 1) := by decide +kernel
theorem dX12_init_141 : decode cX12_init 141 = .ok (.iconst 4, 1) := by decide +kernel
theorem dX12_init_142 : decode cX12_init 142 = .ok (.newarray .int, 2) := by decide +kernel
theorem dX12_init_144 : decode cX12_init 144 = .ok (.putfield 62, 3) := by decide +kernel
theorem dX12_init_147 : decode cX12_init 147 = .ok (.aload_n 0, 1) := by decide +kernel
theorem dX12_init_148 : decode cX12_init 148 = .ok (.iconst 4, 1) := by decide +kernel
theorem dX12_init_149 : decode cX12_init 149 = .ok (.newarray .int, 2) := by decide +kernel
theorem dX12_init_151 : decode cX12_init 151 = .ok (.putfield 65, 3) := by decide +kernel
theorem dX12_init_154 : decode cX12_init 154 = .ok (.aload_n 0, 1) := by decide +kernel
theorem dX12_init_155 : decode cX12_init 155 = .ok (.bipush 6, 2) := by decide +kernel
theorem dX12_init_157 : decode cX12_init 157 = .ok (.newarray .int, 2) := by decide +kernel
theorem dX12_init_159 : decode cX12_init 159 = .ok (.putfield 68, 3) := by decide +kernel
theorem dX12_init_162 : decode cX12_init 162 = .ok (.aload_n 0, 1) := by decide +kernel
theorem dX12_init_163 : decode cX12_init 163 = .ok (.bipush 6, 2) := by decide +kernel
theorem dX12_init_165 : decode cX12_init 165 = .ok (.newarray .int, 2) := by decide +kernel
theorem dX12_init_167 : decode cX12_init 167 = .ok (.putfield 71, 3) := by decide +kernel
theorem dX12_init_170 : decode cX12_init 170 = .ok (.aload_n 0, 1) := by decide +kernel
theorem dX12_init_171 : decode cX12_init 171 = .ok (.sipush 6200, 3) := by decide +kernel
theorem dX12_init_174 : decode cX12_init 174 = .ok (.newarray .int, 2) := by decide +kernel
theorem dX12_init_176 : decode cX12_init 176 = .ok (.putfield 74, 3) := by decide +kernel
theorem dX12_init_179 : decode cX12_init 179 = .ok (.aload_n 0, 1) := by decide +kernel
theorem dX12_init_180 : decode cX12_init 180 = .ok (.sipush 155, 3) := by decide +kernel
theorem dX12_init_183 : decode cX12_init 183 = .ok (.newarray .int, 2) := by decide +kernel
theorem dX12_init_185 : decode cX12_init 185 = .ok (.putfield 77, 3) := by decide +kernel
theorem dX12_init_188 : decode cX12_init 188 = .ok (.aload_n 0, 1) := by decide +kernel
theorem dX12_init_189 : decode cX12_init 189 = .ok (.bipush 15, 2) := by decide +kernel
theorem dX12_init_191 : decode cX12_init 191 = .ok (.putfield 80, 3) := by decide +kernel
theorem dX12_init_194 : decode cX12_init 194 = .ok (.aload_n 0, 1) := by decide +kernel
theorem dX12_init_195 : decode cX12_init 195 = .ok (.bipush 18, 2) := by decide +kernel
theorem dX12_init_197 : decode cX12_init 197 = .ok (.newarray .int, 2) := by decide +kernel
theorem dX12_init_199 : decode cX12_init 199 = .ok (.putfield 84, 3) := by decide +kernel
theorem dX12_init_202 : decode cX12_init 202 = .ok (.aload_n 0, 1) := by decide +kernel
theorem dX12_init_203 : decode cX12_init 203 = .ok (.iconst 3, 1) := by decide +kernel
theorem dX12_init_204 : decode cX12_init 204 = .ok (.newarray .boolean, 2) := by decide +kernel
theorem dX12_init_206 : decode cX12_init 206 = .ok (.putfield 87, 3) := by decide +kernel
theorem dX12_init_209 : decode cX12_init 209 = .ok (.aload_n 0, 1) := by decide +kernel
theorem dX12_init_210 : decode cX12_init 210 = .ok (.bipush 18, 2) := by decide +kernel
theorem dX12_init_212 : decode cX12_init 212 = .ok (.newarray .int, 2) := by decide +kernel
theorem dX12_init_214 : decode cX12_init 214 = .ok (.putfield 90, 3) := by decide +kernel
theorem dX12_init_217 : decode cX12_init 217 = .ok (.aload_n 0, 1) := by decide +kernel
theorem dX12_init_218 : decode cX12_init 218 = .ok (.sipush 155, 3) := by decide +kernel
theorem dX12_init_221 : decode cX12_init 221 = .ok (.newarray .int, 2) := by decide +kernel
theorem dX12_init_223 : decode cX12_init 223 = .ok (.putfield 93, 3) := by decide +kernel
theorem dX12_init_226 : decode cX12_init 226 = .ok (.aload_n 0, 1) := by decide +kernel
theorem dX12_init_227 : decode cX12_init 227 = .ok (.sipush 155, 3) := by decide +kernel
theorem dX12_init_230 : decode cX12_init 230 = .ok (.newarray .long, 2) := by decide +kernel
theorem dX12_init_232 : decode cX12_init 232 = .ok (.putfield 96, 3) := by decide +kernel
theorem dX12_init_235 : decode cX12_init 235 = .ok (.aload_n 0, 1) := by decide +kernel
theorem dX12_init_236 : decode cX12_init 236 = .ok (.bipush 24, 2) := by decide +kernel
theorem dX12_init_238 : decode cX12_init 238 = .ok (.newarray .int, 2) := by decide +kernel
theorem dX12_init_240 : decode cX12_init 240 = .ok (.putfield 100, 3) := by decide +kernel
theorem dX12_init_243 : decode cX12_init 243 = .ok (.aload_n 0, 1) := by decide +kernel
theorem dX12_init_244 : decode cX12_init 244 = .ok (.bipush 6, 2) := by decide +kernel
theorem dX12_init_246 : decode cX12_init 246 = .ok (.newarray .int, 2) := by decide +kernel
theorem dX12_init_248 : decode cX12_init 248 = .ok (.putfield 103, 3) := by decide +kernel
theorem dX12_init_251 : decode cX12_init 251 = .ok (.aload_n 0, 1) := by decide +kernel
theorem dX12_init_252 : decode cX12_init 252 = .ok (.bipush 6, 2) := by decide +kernel
theorem dX12_init_254 : decode cX12_init 254 = .ok (.newarray .int, 2) := by decide +kernel
theorem dX12_init_256 : decode cX12_init 256 = .ok (.putfield 106, 3) := by decide +kernel
theorem dX12_init_259 : decode cX12_init 259 = .ok (.aload_n 0, 1) := by decide +kernel
theorem dX12_init_260 : decode cX12_init 260 = .ok (.bipush 6, 2) := by decide +kernel
theorem dX12_init_262 : decode cX12_init 262 = .ok (.newarray .int, 2) := by decide +kernel
theorem dX12_init_264 : decode cX12_init 264 = .ok (.putfield 109, 3) := by decide +kernel
theorem dX12_init_267 : decode cX12_init 267 = .ok (.aload_n 0, 1) := by decide +kernel
theorem dX12_init_268 : decode cX12_init 268 = .ok (.iconst 1, 1) := by decide +kernel
theorem dX12_init_269 : decode cX12_init 269 = .ok (.putfield 112, 3) := by decide +kernel
theorem dX12_init_272 : decode cX12_init 272 = .ok (.aload_n 0, 1) := by decide +kernel
theorem dX12_init_273 : decode cX12_init 273 = .ok (.iconst 1, 1) := by decide +kernel
theorem dX12_init_274 : decode cX12_init 274 = .ok (.putfield 115, 3) := by decide +kernel
theorem dX12_init_277 : decode cX12_init 277 = .ok (.aload_n 0, 1) := by decide +kernel
theorem dX12_init_278 : decode cX12_init 278 = .ok (.bipush 72, 2) := by decide +kernel
theorem dX12_init_280 : decode cX12_init 280 = .ok (.newarray .int, 2) := by decide +kernel
theorem dX12_init_282 : decode cX12_init 282 = .ok (.putfield 118, 3) := by decide +kernel
theorem dX12_init_285 : decode cX12_init 285 = .ok (.aload_n 0, 1) := by decide +kernel
theorem dX12_init_286 : decode cX12_init 286 = .ok (.iconst 3, 1) := by decide +kernel
theorem dX12_init_287 : decode cX12_init 287 = .ok (.newarray .boolean, 2) := by decide +kernel
theorem dX12_init_289 : decode cX12_init 289 = .ok (.putfield 121, 3) := by decide +kernel
theorem dX12_init_292 : decode cX12_init 292 = .ok (.aload_n 0, 1) := by decide +kernel
theorem dX12_init_293 : decode cX12_init 293 = .ok (.bipush 24, 2) := by decide +kernel
theorem dX12_init_295 : decode cX12_init 295 = .ok (.newarray .boolean, 2) := by decide +kernel
theorem dX12_init_297 : decode cX12_init 297 = .ok (.putfield 124, 3) := by decide +kernel
theorem dX12_init_300 : decode cX12_init 300 = .ok (.aload_n 0, 1) := by decide +kernel
theorem dX12_init_301 : decode cX12_init 301 = .ok (.iconst 3, 1) := by decide +kernel
theorem dX12_init_302 : decode cX12_init 302 = .ok (.newarray .int, 2) := by decide +kernel
theorem dX12_init_304 : decode cX12_init 304 = .ok (.putfield 127, 3) := by decide +kernel
theorem dX12_init_307 : decode cX12_init 307 = .ok (.aload_n 0, 1) := by decide +kernel
theorem dX12_init_308 : decode cX12_init 308 = .ok (.bipush 24, 2) := by decide +kernel
theorem dX12_init_310 : decode cX12_init 310 = .ok (.newarray .int, 2) := by decide +kernel
theorem dX12_init_312 : decode cX12_init 312 = .ok (.putfield 130, 3) := by decide +kernel
theorem dX12_init_315 : decode cX12_init 315 = .ok (.aload_n 0, 1) := by decide +kernel
theorem dX12_init_316 : decode cX12_init 316 = .ok (.bipush 72, 2) := by decide +kernel
theorem dX12_init_318 : decode cX12_init 318 = .ok (.newarray .int, 2) := by decide +kernel
theorem dX12_init_320 : decode cX12_init 320 = .ok (.putfield 133, 3) := by decide +kernel
theorem dX12_init_323 : decode cX12_init 323 = .ok (.aload_n 0, 1) := by decide +kernel
theorem dX12_init_324 : decode cX12_init 324 = .ok (.bipush 72, 2) := by decide +kernel
theorem dX12_init_326 : decode cX12_init 326 = .ok (.newarray .int, 2) := by decide +kernel
theorem dX12_init_328 : decode cX12_init 328 = .ok (.putfield 136, 3) := by decide +kernel
theorem dX12_init_331 : decode cX12_init 331 = .ok (.aload_n 0, 1) := by decide +kernel
theorem dX12_init_332 : decode cX12_init 332 = .ok (.bipush 72, 2) := by decide +kernel
theorem dX12_init_334 : decode cX12_init 334 = .ok (.newarray .boolean, 2) := by decide +kernel
theorem dX12_init_336 : decode cX12_init 336 = .ok (.putfield 139, 3) := by decide +kernel
theorem dX12_init_339 : decode cX12_init 339 = .ok (.aload_n 0, 1) := by decide +kernel
theorem dX12_init_340 : decode cX12_init 340 = .ok (.bipush 16, 2) := by decide +kernel
theorem dX12_init_342 : decode cX12_init 342 = .ok (.newarray .int, 2) := by decide +kernel
theorem dX12_init_344 : decode cX12_init 344 = .ok (.putfield 142, 3) := by decide +kernel
theorem dX12_init_347 : decode cX12_init 347 = .ok (.aload_n 0, 1) := by decide +kernel
theorem dX12_init_348 : decode cX12_init 348 = .ok (.bipush 16, 2) := by decide +kernel
theorem dX12_init_350 : decode cX12_init 350 = .ok (.newarray .int, 2) := by decide +kernel
theorem dX12_init_352 : decode cX12_init 352 = .ok (.putfield 145, 3) := by decide +kernel
theorem dX12_init_355 : decode cX12_init 355 = .ok (.aload_n 0, 1) := by decide +kernel
theorem dX12_init_356 : decode cX12_init 356 = .ok (.bipush 54, 2) := by decide +kernel
theorem dX12_init_358 : decode cX12_init 358 = .ok (.newarray .int, 2) := by decide +kernel
theorem dX12_init_360 : decode cX12_init 360 = .ok (.putfield 148, 3) := by decide +kernel
theorem dX12_init_363 : decode cX12_init 363 = .ok (.aload_n 0, 1) := by decide +kernel
theorem dX12_init_364 : decode cX12_init 364 = .ok (.bipush 16, 2) := by decide +kernel
theorem dX12_init_366 : decode cX12_init 366 = .ok (.newarray .int, 2) := by decide +kernel
theorem dX12_init_368 : decode cX12_init 368 = .ok (.putfield 151, 3) := by decide +kernel
theorem dX12_init_371 : decode cX12_init 371 = .ok (.aload_n 0, 1) := by decide +kernel
theorem dX12_init_372 : decode cX12_init 372 = .ok (.iconst (-1), 1) := by decide +kernel
theorem dX12_init_373 : decode cX12_init 373 = .ok (.putfield 154, 3) := by decide +kernel
theorem dX12_init_376 : decode cX12_init 376 = .ok (.aload_n 0, 1) := by decide +kernel
theorem dX12_init_377 : decode cX12_init 377 = .ok (.bipush 7, 2) := by decide +kernel
theorem dX12_init_379 : decode cX12_init 379 = .ok (.newarray .int, 2) := by decide +kernel
theorem dX12_init_381 : decode cX12_init 381 = .ok (.putfield 157, 3) := by decide +kernel
theorem dX12_init_384 : decode cX12_init 384 = .ok (.aload_n 0, 1) := by decide +kernel
theorem dX12_init_385 : decode cX12_init 385 = .ok (.bipush 7, 2) := by decide +kernel
theorem dX12_init_387 : decode cX12_init 387 = .ok (.newarray .boolean, 2) := by decide +kernel
theorem dX12_init_389 : decode cX12_init 389 = .ok (.putfield 160, 3) := by decide +kernel
theorem dX12_init_392 : decode cX12_init 392 = .ok (.aload_n 0, 1) := by decide +kernel
theorem dX12_init_393 : decode cX12_init 393 = .ok (.sipush 378, 3) := by decide +kernel
theorem dX12_init_396 : decode cX12_init 396 = .ok (.newarray .int, 2) := by decide +kernel
theorem dX12_init_398 : decode cX12_init 398 = .ok (.putfield 163, 3) := by decide +kernel
theorem dX12_init_401 : decode cX12_init 401 = .ok (.aload_n 0, 1) := by decide +kernel
theorem dX12_init_402 : decode cX12_init 402 = .ok (.iconst 5, 1) := by decide +kernel
theorem dX12_init_403 : decode cX12_init 403 = .ok (.newarray .int, 2) := by decide +kernel
theorem dX12_init_405 : decode cX12_init 405 = .ok (.putfield 166, 3) := by decide +kernel
theorem dX12_init_408 : decode cX12_init 408 = .ok (.iconst 0, 1) := by decide +kernel
theorem dX12_init_409 : decode cX12_init 409 = .ok (.istore_n 1, 1) := by decide +kernel
theorem dX12_init_410 : decode cX12_init 410 = .ok (.iload_n 1, 1) := by decide +kernel
theorem dX12_init_411 : decode cX12_init 411 = .ok (.bipush 18, 2) := by decide +kernel
theorem dX12_init_413 : decode cX12_init 413 = .ok (.if_icmp .ge 23, 3) := by decide +kernel
theorem dX12_init_416 : decode cX12_init 416 = .ok (.aload_n 0, 1) := by decide +kernel
theorem dX12_init_417 : decode cX12_init 417 = .ok (.getfield 90, 3) := by decide +kernel
theorem dX12_init_420 : decode cX12_init 420 = .ok (.iload_n 1, 1) := by decide +kernel
theorem dX12_init_421 : decode cX12_init 421 = .ok (.iconst (-1), 1) := by decide +kernel
theorem dX12_init_422 : decode cX12_init 422 = .ok (.iastore, 1) := by decide +kernel
theorem dX12_init_423 : decode cX12_init 423 = .ok (.aload_n 0, 1) := by decide +kernel
theorem dX12_init_424 : decode cX12_init 424 = .ok (.getfield 84, 3) := by decide +kernel
theorem dX12_init_427 : decode cX12_init 427 = .ok (.iload_n 1, 1) := by decide +kernel
theorem dX12_init_428 : decode cX12_init 428 = .ok (.iconst (-1), 1) := by decide +kernel
theorem dX12_init_429 : decode cX12_init 429 = .ok (.iastore, 1) := by decide +kernel
theorem dX12_init_430 : decode cX12_init 430 = .ok (.iinc 1 1, 3) := by decide +kernel
theorem dX12_init_433 : decode cX12_init 433 = .ok (.goto (-23), 3) := by decide +kernel
theorem dX12_init_436 : decode cX12_init 436 = .ok (.iconst 0, 1) := by decide +kernel
theorem dX12_init_437 : decode cX12_init 437 = .ok (.istore_n 1, 1) := by decide +kernel
theorem dX12_init_438 : decode cX12_init 438 = .ok (.iload_n 1, 1) := by decide +kernel
theorem dX12_init_439 : decode cX12_init 439 = .ok (.bipush 72, 2) := by decide +kernel
theorem dX12_init_441 : decode cX12_init 441 = .ok (.if_icmp .ge 16, 3) := by decide +kernel
theorem dX12_init_444 : decode cX12_init 444 = .ok (.aload_n 0, 1) := by decide +kernel
theorem dX12_init_445 : decode cX12_init 445 = .ok (.getfield 118, 3) := by decide +kernel
theorem dX12_init_448 : decode cX12_init 448 = .ok (.iload_n 1, 1) := by decide +kernel
theorem dX12_init_449 : decode cX12_init 449 = .ok (.iconst (-1), 1) := by decide +kernel
theorem dX12_init_450 : decode cX12_init 450 = .ok (.iastore, 1) := by decide +kernel
theorem dX12_init_451 : decode cX12_init 451 = .ok (.iinc 1 1, 3) := by decide +kernel
theorem dX12_init_454 : decode cX12_init 454 = .ok (.goto (-16), 3) := by decide +kernel
theorem dX12_init_457 : decode cX12_init 457 = .ok (.iconst 0, 1) := by decide +kernel
theorem dX12_init_458 : decode cX12_init 458 = .ok (.istore_n 1, 1) := by decide +kernel
theorem dX12_init_459 : decode cX12_init 459 = .ok (.iload_n 1, 1) := by decide +kernel
theorem dX12_init_460 : decode cX12_init 460 = .ok (.bipush 16, 2) := by decide +kernel
theorem dX12_init_462 : decode cX12_init 462 = .ok (.if_icmp .ge 16, 3) := by decide +kernel
theorem dX12_init_465 : decode cX12_init 465 = .ok (.aload_n 0, 1) := by decide +kernel
theorem dX12_init_466 : decode cX12_init 466 = .ok (.getfield 142, 3) := by decide +kernel
theorem dX12_init_469 : decode cX12_init 469 = .ok (.iload_n 1, 1) := by decide +kernel
theorem dX12_init_470 : decode cX12_init 470 = .ok (.iconst (-1), 1) := by decide +kernel
theorem dX12_init_471 : decode cX12_init 471 = .ok (.iastore, 1) := by decide +kernel
theorem dX12_init_472 : decode cX12_init 472 = .ok (.iinc 1 1, 3) := by decide +kernel
theorem dX12_init_475 : decode cX12_init 475 = .ok (.goto (-16), 3) := by decide +kernel
theorem dX12_init_478 : decode cX12_init 478 = .ok (.iconst 0, 1) := by decide +kernel
theorem dX12_init_479 : decode cX12_init 479 = .ok (.istore_n 1, 1) := by decide +kernel
theorem dX12_init_480 : decode cX12_init 480 = .ok (.iload_n 1, 1) := by decide +kernel
theorem dX12_init_481 : decode cX12_init 481 = .ok (.bipush 54, 2) := by decide +kernel
theorem dX12_init_483 : decode cX12_init 483 = .ok (.if_icmp .ge 16, 3) := by decide +kernel
theorem dX12_init_486 : decode cX12_init 486 = .ok (.aload_n 0, 1) := by decide +kernel
theorem dX12_init_487 : decode cX12_init 487 = .ok (.getfield 148, 3) := by decide +kernel
theorem dX12_init_490 : decode cX12_init 490 = .ok (.iload_n 1, 1) := by decide +kernel
theorem dX12_init_491 : decode cX12_init 491 = .ok (.iconst (-1), 1) := by decide +kernel
theorem dX12_init_492 : decode cX12_init 492 = .ok (.iastore, 1) := by decide +kernel
theorem dX12_init_493 : decode cX12_init 493 = .ok (.iinc 1 1, 3) := by decide +kernel
theorem dX12_init_496 : decode cX12_init 496 = .ok (.goto (-16), 3) := by decide +kernel
theorem dX12_init_499 : decode cX12_init 499 = .ok (.return_, 1) := by decide +kernel
def wp_X12_init_480B (h : Nat) (x1 : Int32) (S : xm_S) (g : xm_S → Prop) (Z480 : Int32 → xm_S → Prop) : Prop :=
  ((nI 54) ≤ x1 → g S) ∧ (¬ (nI 54) ≤ x1 → st_t S h = some (12, 0) ∧ ∃ n2, (st_r S h 50) = some n2 ∧ ∃ z5, st_t S n2 = some (100, z5) ∧ vp_in x1 z5 ∧ ∀ S7, S7 = st_pi S n2 (x1).toNatClampNeg (-1 : Int32) → ∀ y9, y9 = (x1 + (1 : Int32)) → Z480 y9 S7)
def wp_X12_init_480 (h : Nat) (x1 : Int32) (S : xm_S) (g : xm_S → Prop) : Prop :=
  ∀ Z480 : Int32 → xm_S → Prop, (∀ x1 S, wp_X12_init_480B h x1 S g Z480 → Z480 x1 S) → Z480 x1 S
set_option maxRecDepth 100000 in
set_option maxHeartbeats 4000000 in
theorem kp_X12_init_480B {K : xm_K} (h : Nat) (x1 : Int32) (S : xm_S) {g : xm_S → Prop} {Z480 : Int32 → xm_S → Prop} (C : xm_Cx K cX12_init RX12 2 none rm_X12_init) (N : xm_Nx K) (hini : xm_init K) (hg : ∀ S, g S → xm_q K none S) (hZ480 : ∀ x1 S, Z480 x1 S → xm_W K 48 8339 480 [(0, xm_r (some h)), (1, xm_i x1)] [] S) (h1 : wp_X12_init_480B h x1 S g Z480) : xm_W K 48 8339 480 [(0, xm_r (some h)), (1, xm_i x1)] [] S := by
  unfold wp_X12_init_480B at h1
  refine x_iload_n C 1 dX12_init_480 rfl rfl ?_
  refine x_bipush (v := (nI 54)) C dX12_init_481 (by decide) ?_
  refine x_icmp_ge (tgt := 499) C dX12_init_483 (by decide) (fun z9 => ?_) (fun z9 => ?_)
  · have h1 := h1.1 z9
    exact x_vret C (Nat.le_of_ble_eq_true rfl) (Nat.le_of_ble_eq_true rfl) rfl dX12_init_499 (hg _ h1)
  · have h1 := h1.2 z9
    refine x_aload_n C 0 dX12_init_486 rfl rfl ?_
    obtain ⟨ht1, h1⟩ := h1
    refine x_getf_r (n := h) C rfl ht1 fd_203 (by decide) dX12_init_487 ?_
    refine x_iload_n C 1 dX12_init_490 rfl rfl ?_
    refine x_iconst (v := (-1 : Int32)) C dX12_init_491 (by decide) ?_
    obtain ⟨n2, hr3, h1⟩ := h1
    obtain ⟨z5, ht4, h1⟩ := h1
    obtain ⟨hi6, h1⟩ := h1
    refine x_iast (n := n2) C hr3 ht4 hi6 dX12_init_492 ?_
    refine x_topS (fun S7 e8 => ?_)
    have h1 := h1 S7 e8
    obtain ⟨y9, e10⟩ : ∃ y9, y9 = (x1 + (1 : Int32)) := ⟨_, rfl⟩
    have h1 := h1 y9 e10
    refine x_iinc (v := y9) (L' := [(1, xm_i y9), (0, xm_r (some h))]) C 1 dX12_init_493 rfl (by rw [e10]; rfl) (by decide) rfl ?_
    refine x_goto (tgt := 480) C dX12_init_496 (by decide) ?_
    refine x_keep (L' := [(0, xm_r (some h)), (1, xm_i y9)]) C [1, 0] rfl ?_
    exact hZ480 y9 S7 h1
theorem kp_X12_init_480 {K : xm_K} (h : Nat) (x1 : Int32) (S : xm_S) {g : xm_S → Prop} (C : xm_Cx K cX12_init RX12 2 none rm_X12_init) (N : xm_Nx K) (hini : xm_init K) (hg : ∀ S, g S → xm_q K none S)  (h1 : wp_X12_init_480 h x1 S g) : xm_W K 48 8339 480 [(0, xm_r (some h)), (1, xm_i x1)] [] S :=
  h1 (fun x1 S => xm_W K 48 8339 480 [(0, xm_r (some h)), (1, xm_i x1)] [] S) (fun x1 S hb => kp_X12_init_480B h x1 S C N hini hg (fun x1 S hz => hz) hb)
def wp_X12_init_459B (h : Nat) (x1 : Int32) (S : xm_S) (g : xm_S → Prop) (Z459 : Int32 → xm_S → Prop) : Prop :=
  ((nI 16) ≤ x1 → wp_X12_init_480 h (0 : Int32) S g) ∧ (¬ (nI 16) ≤ x1 → st_t S h = some (12, 0) ∧ ∃ n12, (st_r S h 48) = some n12 ∧ ∃ z15, st_t S n12 = some (100, z15) ∧ vp_in x1 z15 ∧ ∀ S17, S17 = st_pi S n12 (x1).toNatClampNeg (-1 : Int32) → ∀ y19, y19 = (x1 + (1 : Int32)) → Z459 y19 S17)
def wp_X12_init_459 (h : Nat) (x1 : Int32) (S : xm_S) (g : xm_S → Prop) : Prop :=
  ∀ Z459 : Int32 → xm_S → Prop, (∀ x1 S, wp_X12_init_459B h x1 S g Z459 → Z459 x1 S) → Z459 x1 S
set_option maxRecDepth 100000 in
set_option maxHeartbeats 4000000 in
theorem kp_X12_init_459B {K : xm_K} (h : Nat) (x1 : Int32) (S : xm_S) {g : xm_S → Prop} {Z459 : Int32 → xm_S → Prop} (C : xm_Cx K cX12_init RX12 2 none rm_X12_init) (N : xm_Nx K) (hini : xm_init K) (hg : ∀ S, g S → xm_q K none S) (hZ459 : ∀ x1 S, Z459 x1 S → xm_W K 48 8339 459 [(0, xm_r (some h)), (1, xm_i x1)] [] S) (h1 : wp_X12_init_459B h x1 S g Z459) : xm_W K 48 8339 459 [(0, xm_r (some h)), (1, xm_i x1)] [] S := by
  unfold wp_X12_init_459B at h1
  refine x_iload_n C 1 dX12_init_459 rfl rfl ?_
  refine x_bipush (v := (nI 16)) C dX12_init_460 (by decide) ?_
  refine x_icmp_ge (tgt := 478) C dX12_init_462 (by decide) (fun z9 => ?_) (fun z9 => ?_)
  · have h1 := h1.1 z9
    refine x_iconst (v := (0 : Int32)) C dX12_init_478 (by decide) ?_
    refine x_istore_n (L' := [(1, xm_i (0 : Int32)), (0, xm_r (some h))]) C dX12_init_479 rfl (by decide) rfl ?_
    refine x_keep (L' := [(0, xm_r (some h)), (1, xm_i (0 : Int32))]) C [1, 0] rfl ?_
    exact kp_X12_init_480 h (0 : Int32) S C N hini hg  h1
  · have h1 := h1.2 z9
    refine x_aload_n C 0 dX12_init_465 rfl rfl ?_
    obtain ⟨ht11, h1⟩ := h1
    refine x_getf_r (n := h) C rfl ht11 fd_201 (by decide) dX12_init_466 ?_
    refine x_iload_n C 1 dX12_init_469 rfl rfl ?_
    refine x_iconst (v := (-1 : Int32)) C dX12_init_470 (by decide) ?_
    obtain ⟨n12, hr13, h1⟩ := h1
    obtain ⟨z15, ht14, h1⟩ := h1
    obtain ⟨hi16, h1⟩ := h1
    refine x_iast (n := n12) C hr13 ht14 hi16 dX12_init_471 ?_
    refine x_topS (fun S17 e18 => ?_)
    have h1 := h1 S17 e18
    obtain ⟨y19, e20⟩ : ∃ y19, y19 = (x1 + (1 : Int32)) := ⟨_, rfl⟩
    have h1 := h1 y19 e20
    refine x_iinc (v := y19) (L' := [(1, xm_i y19), (0, xm_r (some h))]) C 1 dX12_init_472 rfl (by rw [e20]; rfl) (by decide) rfl ?_
    refine x_goto (tgt := 459) C dX12_init_475 (by decide) ?_
    refine x_keep (L' := [(0, xm_r (some h)), (1, xm_i y19)]) C [1, 0] rfl ?_
    exact hZ459 y19 S17 h1
theorem kp_X12_init_459 {K : xm_K} (h : Nat) (x1 : Int32) (S : xm_S) {g : xm_S → Prop} (C : xm_Cx K cX12_init RX12 2 none rm_X12_init) (N : xm_Nx K) (hini : xm_init K) (hg : ∀ S, g S → xm_q K none S)  (h1 : wp_X12_init_459 h x1 S g) : xm_W K 48 8339 459 [(0, xm_r (some h)), (1, xm_i x1)] [] S :=
  h1 (fun x1 S => xm_W K 48 8339 459 [(0, xm_r (some h)), (1, xm_i x1)] [] S) (fun x1 S hb => kp_X12_init_459B h x1 S C N hini hg (fun x1 S hz => hz) hb)
def wp_X12_init_438B (h : Nat) (x1 : Int32) (S : xm_S) (g : xm_S → Prop) (Z438 : Int32 → xm_S → Prop) : Prop :=
  ((nI 72) ≤ x1 → wp_X12_init_459 h (0 : Int32) S g) ∧ (¬ (nI 72) ≤ x1 → st_t S h = some (12, 0) ∧ ∃ n22, (st_r S h 40) = some n22 ∧ ∃ z25, st_t S n22 = some (100, z25) ∧ vp_in x1 z25 ∧ ∀ S27, S27 = st_pi S n22 (x1).toNatClampNeg (-1 : Int32) → ∀ y29, y29 = (x1 + (1 : Int32)) → Z438 y29 S27)
def wp_X12_init_438 (h : Nat) (x1 : Int32) (S : xm_S) (g : xm_S → Prop) : Prop :=
  ∀ Z438 : Int32 → xm_S → Prop, (∀ x1 S, wp_X12_init_438B h x1 S g Z438 → Z438 x1 S) → Z438 x1 S
set_option maxRecDepth 100000 in
set_option maxHeartbeats 4000000 in
theorem kp_X12_init_438B {K : xm_K} (h : Nat) (x1 : Int32) (S : xm_S) {g : xm_S → Prop} {Z438 : Int32 → xm_S → Prop} (C : xm_Cx K cX12_init RX12 2 none rm_X12_init) (N : xm_Nx K) (hini : xm_init K) (hg : ∀ S, g S → xm_q K none S) (hZ438 : ∀ x1 S, Z438 x1 S → xm_W K 48 8339 438 [(0, xm_r (some h)), (1, xm_i x1)] [] S) (h1 : wp_X12_init_438B h x1 S g Z438) : xm_W K 48 8339 438 [(0, xm_r (some h)), (1, xm_i x1)] [] S := by
  unfold wp_X12_init_438B at h1
  refine x_iload_n C 1 dX12_init_438 rfl rfl ?_
  refine x_bipush (v := (nI 72)) C dX12_init_439 (by decide) ?_
  refine x_icmp_ge (tgt := 457) C dX12_init_441 (by decide) (fun z9 => ?_) (fun z9 => ?_)
  · have h1 := h1.1 z9
    refine x_iconst (v := (0 : Int32)) C dX12_init_457 (by decide) ?_
    refine x_istore_n (L' := [(1, xm_i (0 : Int32)), (0, xm_r (some h))]) C dX12_init_458 rfl (by decide) rfl ?_
    refine x_keep (L' := [(0, xm_r (some h)), (1, xm_i (0 : Int32))]) C [1, 0] rfl ?_
    exact kp_X12_init_459 h (0 : Int32) S C N hini hg  h1
  · have h1 := h1.2 z9
    refine x_aload_n C 0 dX12_init_444 rfl rfl ?_
    obtain ⟨ht21, h1⟩ := h1
    refine x_getf_r (n := h) C rfl ht21 fd_204 (by decide) dX12_init_445 ?_
    refine x_iload_n C 1 dX12_init_448 rfl rfl ?_
    refine x_iconst (v := (-1 : Int32)) C dX12_init_449 (by decide) ?_
    obtain ⟨n22, hr23, h1⟩ := h1
    obtain ⟨z25, ht24, h1⟩ := h1
    obtain ⟨hi26, h1⟩ := h1
    refine x_iast (n := n22) C hr23 ht24 hi26 dX12_init_450 ?_
    refine x_topS (fun S27 e28 => ?_)
    have h1 := h1 S27 e28
    obtain ⟨y29, e30⟩ : ∃ y29, y29 = (x1 + (1 : Int32)) := ⟨_, rfl⟩
    have h1 := h1 y29 e30
    refine x_iinc (v := y29) (L' := [(1, xm_i y29), (0, xm_r (some h))]) C 1 dX12_init_451 rfl (by rw [e30]; rfl) (by decide) rfl ?_
    refine x_goto (tgt := 438) C dX12_init_454 (by decide) ?_
    refine x_keep (L' := [(0, xm_r (some h)), (1, xm_i y29)]) C [1, 0] rfl ?_
    exact hZ438 y29 S27 h1
theorem kp_X12_init_438 {K : xm_K} (h : Nat) (x1 : Int32) (S : xm_S) {g : xm_S → Prop} (C : xm_Cx K cX12_init RX12 2 none rm_X12_init) (N : xm_Nx K) (hini : xm_init K) (hg : ∀ S, g S → xm_q K none S)  (h1 : wp_X12_init_438 h x1 S g) : xm_W K 48 8339 438 [(0, xm_r (some h)), (1, xm_i x1)] [] S :=
  h1 (fun x1 S => xm_W K 48 8339 438 [(0, xm_r (some h)), (1, xm_i x1)] [] S) (fun x1 S hb => kp_X12_init_438B h x1 S C N hini hg (fun x1 S hz => hz) hb)
def wp_X12_init_410B (h : Nat) (x1 : Int32) (S : xm_S) (g : xm_S → Prop) (Z410 : Int32 → xm_S → Prop) : Prop :=
  ((nI 18) ≤ x1 → wp_X12_init_438 h (0 : Int32) S g) ∧ (¬ (nI 18) ≤ x1 → st_t S h = some (12, 0) ∧ ∃ n32, (st_r S h 29) = some n32 ∧ ∃ z35, st_t S n32 = some (100, z35) ∧ vp_in x1 z35 ∧ ∀ S37, S37 = st_pi S n32 (x1).toNatClampNeg (-1 : Int32) → ∃ n39, (st_r S37 h 27) = some n39 ∧ ∃ z42, st_t S37 n39 = some (100, z42) ∧ vp_in x1 z42 ∧ ∀ S44, S44 = st_pi S37 n39 (x1).toNatClampNeg (-1 : Int32) → ∀ y46, y46 = (x1 + (1 : Int32)) → Z410 y46 S44)
def wp_X12_init_410 (h : Nat) (x1 : Int32) (S : xm_S) (g : xm_S → Prop) : Prop :=
  ∀ Z410 : Int32 → xm_S → Prop, (∀ x1 S, wp_X12_init_410B h x1 S g Z410 → Z410 x1 S) → Z410 x1 S
set_option maxRecDepth 100000 in
set_option maxHeartbeats 4000000 in
theorem kp_X12_init_410B {K : xm_K} (h : Nat) (x1 : Int32) (S : xm_S) {g : xm_S → Prop} {Z410 : Int32 → xm_S → Prop} (C : xm_Cx K cX12_init RX12 2 none rm_X12_init) (N : xm_Nx K) (hini : xm_init K) (hg : ∀ S, g S → xm_q K none S) (hZ410 : ∀ x1 S, Z410 x1 S → xm_W K 48 8339 410 [(0, xm_r (some h)), (1, xm_i x1)] [] S) (h1 : wp_X12_init_410B h x1 S g Z410) : xm_W K 48 8339 410 [(0, xm_r (some h)), (1, xm_i x1)] [] S := by
  unfold wp_X12_init_410B at h1
  refine x_iload_n C 1 dX12_init_410 rfl rfl ?_
  refine x_bipush (v := (nI 18)) C dX12_init_411 (by decide) ?_
  refine x_icmp_ge (tgt := 436) C dX12_init_413 (by decide) (fun z9 => ?_) (fun z9 => ?_)
  · have h1 := h1.1 z9
    refine x_iconst (v := (0 : Int32)) C dX12_init_436 (by decide) ?_
    refine x_istore_n (L' := [(1, xm_i (0 : Int32)), (0, xm_r (some h))]) C dX12_init_437 rfl (by decide) rfl ?_
    refine x_keep (L' := [(0, xm_r (some h)), (1, xm_i (0 : Int32))]) C [1, 0] rfl ?_
    exact kp_X12_init_438 h (0 : Int32) S C N hini hg  h1
  · have h1 := h1.2 z9
    refine x_aload_n C 0 dX12_init_416 rfl rfl ?_
    obtain ⟨ht31, h1⟩ := h1
    refine x_getf_r (n := h) C rfl ht31 fd_169 (by decide) dX12_init_417 ?_
    refine x_iload_n C 1 dX12_init_420 rfl rfl ?_
    refine x_iconst (v := (-1 : Int32)) C dX12_init_421 (by decide) ?_
    obtain ⟨n32, hr33, h1⟩ := h1
    obtain ⟨z35, ht34, h1⟩ := h1
    obtain ⟨hi36, h1⟩ := h1
    refine x_iast (n := n32) C hr33 ht34 hi36 dX12_init_422 ?_
    refine x_topS (fun S37 e38 => ?_)
    have h1 := h1 S37 e38
    refine x_aload_n C 0 dX12_init_423 rfl rfl ?_
    refine x_getf_r (n := h) C rfl (tk_p e38 ht31) fd_217 (by decide) dX12_init_424 ?_
    refine x_iload_n C 1 dX12_init_427 rfl rfl ?_
    refine x_iconst (v := (-1 : Int32)) C dX12_init_428 (by decide) ?_
    obtain ⟨n39, hr40, h1⟩ := h1
    obtain ⟨z42, ht41, h1⟩ := h1
    obtain ⟨hi43, h1⟩ := h1
    refine x_iast (n := n39) C hr40 ht41 hi43 dX12_init_429 ?_
    refine x_topS (fun S44 e45 => ?_)
    have h1 := h1 S44 e45
    obtain ⟨y46, e47⟩ : ∃ y46, y46 = (x1 + (1 : Int32)) := ⟨_, rfl⟩
    have h1 := h1 y46 e47
    refine x_iinc (v := y46) (L' := [(1, xm_i y46), (0, xm_r (some h))]) C 1 dX12_init_430 rfl (by rw [e47]; rfl) (by decide) rfl ?_
    refine x_goto (tgt := 410) C dX12_init_433 (by decide) ?_
    refine x_keep (L' := [(0, xm_r (some h)), (1, xm_i y46)]) C [1, 0] rfl ?_
    exact hZ410 y46 S44 h1
theorem kp_X12_init_410 {K : xm_K} (h : Nat) (x1 : Int32) (S : xm_S) {g : xm_S → Prop} (C : xm_Cx K cX12_init RX12 2 none rm_X12_init) (N : xm_Nx K) (hini : xm_init K) (hg : ∀ S, g S → xm_q K none S)  (h1 : wp_X12_init_410 h x1 S g) : xm_W K 48 8339 410 [(0, xm_r (some h)), (1, xm_i x1)] [] S :=
  h1 (fun x1 S => xm_W K 48 8339 410 [(0, xm_r (some h)), (1, xm_i x1)] [] S) (fun x1 S hb => kp_X12_init_410B h x1 S C N hini hg (fun x1 S hz => hz) hb)
def wp_X12_init (h : Nat)  (S : xm_S) (g : xm_S → Prop) : Prop :=
  ∃ n48, st_t S n48 = none ∧ ∀ S50, S50 = st_nw S n48 (100, 6) → st_t S50 h = some (12, 0) ∧ ∀ S53, S53 = st_pr S50 h 1 (some n48) → ∃ n55, st_t S53 n55 = none ∧ ∀ S57, S57 = st_nw S53 n55 (100, 6) → ∀ S59, S59 = st_pr S57 h 2 (some n55) → ∃ n61, st_t S59 n61 = none ∧ ∀ S63, S63 = st_nw S59 n61 (100, 24) → ∀ S65, S65 = st_pr S63 h 3 (some n61) → ∃ n67, st_t S65 n67 = none ∧ ∀ S69, S69 = st_nw S65 n67 (100, 24) → ∀ S71, S71 = st_pr S69 h 4 (some n67) → ∃ n73, st_t S71 n73 = none ∧ ∀ S75, S75 = st_nw S71 n73 (100, 24) → ∀ S77, S77 = st_pr S75 h 5 (some n73) → ∃ n79, st_t S77 n79 = none ∧ ∀ S81, S81 = st_nw S77 n79 (100, 24) → ∀ S83, S83 = st_pr S81 h 6 (some n79) → ∃ n85, st_t S83 n85 = none ∧ ∀ S87, S87 = st_nw S83 n85 (101, 24) → ∀ S89, S89 = st_pr S87 h 7 (some n85) → ∃ n91, st_t S89 n91 = none ∧ ∀ S93, S93 = st_nw S89 n91 (100, 24) → ∀ S95, S95 = st_pr S93 h 8 (some n91) → ∃ n97, st_t S95 n97 = none ∧ ∀ S99, S99 = st_nw S95 n97 (100, 96) → ∀ S101, S101 = st_pr S99 h 9 (some n97) → ∃ n103, st_t S101 n103 = none ∧ ∀ S105, S105 = st_nw S101 n103 (100, 96) → ∀ S107, S107 = st_pr S105 h 10 (some n103) → ∃ n109, st_t S107 n109 = none ∧ ∀ S111, S111 = st_nw S107 n109 (100, 96) → ∀ S113, S113 = st_pr S111 h 11 (some n109) → ∃ n115, st_t S113 n115 = none ∧ ∀ S117, S117 = st_nw S113 n115 (100, 96) → ∀ S119, S119 = st_pr S117 h 12 (some n115) → ∃ n121, st_t S119 n121 = none ∧ ∀ S123, S123 = st_nw S119 n121 (100, 24) → ∀ S125, S125 = st_pr S123 h 13 (some n121) → ∃ n127, st_t S125 n127 = none ∧ ∀ S129, S129 = st_nw S125 n127 (100, 48) → ∀ S131, S131 = st_pr S129 h 14 (some n127) → ∃ n133, st_t S131 n133 = none ∧ ∀ S135, S135 = st_nw S131 n133 (100, 24) → ∀ S137, S137 = st_pr S135 h 15 (some n133) → ∃ n139, st_t S137 n139 = none ∧ ∀ S141, S141 = st_nw S137 n139 (100, 48) → ∀ S143, S143 = st_pr S141 h 16 (some n139) → ∃ n145, st_t S143 n145 = none ∧ ∀ S147, S147 = st_nw S143 n145 (100, 48) → ∀ S149, S149 = st_pr S147 h 17 (some n145) → ∃ n151, st_t S149 n151 = none ∧ ∀ S153, S153 = st_nw S149 n151 (100, 4) → ∀ S155, S155 = st_pr S153 h 19 (some n151) → ∃ n157, st_t S155 n157 = none ∧ ∀ S159, S159 = st_nw S155 n157 (100, 4) → ∀ S161, S161 = st_pr S159 h 20 (some n157) → ∃ n163, st_t S161 n163 = none ∧ ∀ S165, S165 = st_nw S161 n163 (100, 6) → ∀ S167, S167 = st_pr S165 h 22 (some n163) → ∃ n169, st_t S167 n169 = none ∧ ∀ S171, S171 = st_nw S167 n169 (100, 6) → ∀ S173, S173 = st_pr S171 h 23 (some n169) → ∃ n175, st_t S173 n175 = none ∧ ∀ S177, S177 = st_nw S173 n175 (100, 6200) → ∀ S179, S179 = st_pr S177 h 24 (some n175) → ∃ n181, st_t S179 n181 = none ∧ ∀ S183, S183 = st_nw S179 n181 (100, 155) → ∀ S185, S185 = st_pr S183 h 25 (some n181) → ∀ S187, S187 = st_pi S185 h 26 (nI 15) → ∃ n189, st_t S187 n189 = none ∧ ∀ S191, S191 = st_nw S187 n189 (100, 18) → ∀ S193, S193 = st_pr S191 h 27 (some n189) → ∃ n195, st_t S193 n195 = none ∧ ∀ S197, S197 = st_nw S193 n195 (101, 3) → ∀ S199, S199 = st_pr S197 h 28 (some n195) → ∃ n201, st_t S199 n201 = none ∧ ∀ S203, S203 = st_nw S199 n201 (100, 18) → ∀ S205, S205 = st_pr S203 h 29 (some n201) → ∃ n207, st_t S205 n207 = none ∧ ∀ S209, S209 = st_nw S205 n207 (100, 155) → ∀ S211, S211 = st_pr S209 h 30 (some n207) → ∃ n213, st_t S211 n213 = none ∧ ∀ S215, S215 = st_nw S211 n213 (103, 155) → ∀ S217, S217 = st_pr S215 h 31 (some n213) → ∃ n219, st_t S217 n219 = none ∧ ∀ S221, S221 = st_nw S217 n219 (100, 24) → ∀ S223, S223 = st_pr S221 h 32 (some n219) → ∃ n225, st_t S223 n225 = none ∧ ∀ S227, S227 = st_nw S223 n225 (100, 6) → ∀ S229, S229 = st_pr S227 h 33 (some n225) → ∃ n231, st_t S229 n231 = none ∧ ∀ S233, S233 = st_nw S229 n231 (100, 6) → ∀ S235, S235 = st_pr S233 h 34 (some n231) → ∃ n237, st_t S235 n237 = none ∧ ∀ S239, S239 = st_nw S235 n237 (100, 6) → ∀ S241, S241 = st_pr S239 h 35 (some n237) → ∀ S243, S243 = st_pi S241 h 37 (1 : Int32) → ∀ S245, S245 = st_pi S243 h 38 (1 : Int32) → ∃ n247, st_t S245 n247 = none ∧ ∀ S249, S249 = st_nw S245 n247 (100, 72) → ∀ S251, S251 = st_pr S249 h 40 (some n247) → ∃ n253, st_t S251 n253 = none ∧ ∀ S255, S255 = st_nw S251 n253 (101, 3) → ∀ S257, S257 = st_pr S255 h 41 (some n253) → ∃ n259, st_t S257 n259 = none ∧ ∀ S261, S261 = st_nw S257 n259 (101, 24) → ∀ S263, S263 = st_pr S261 h 42 (some n259) → ∃ n265, st_t S263 n265 = none ∧ ∀ S267, S267 = st_nw S263 n265 (100, 3) → ∀ S269, S269 = st_pr S267 h 43 (some n265) → ∃ n271, st_t S269 n271 = none ∧ ∀ S273, S273 = st_nw S269 n271 (100, 24) → ∀ S275, S275 = st_pr S273 h 44 (some n271) → ∃ n277, st_t S275 n277 = none ∧ ∀ S279, S279 = st_nw S275 n277 (100, 72) → ∀ S281, S281 = st_pr S279 h 45 (some n277) → ∃ n283, st_t S281 n283 = none ∧ ∀ S285, S285 = st_nw S281 n283 (100, 72) → ∀ S287, S287 = st_pr S285 h 46 (some n283) → ∃ n289, st_t S287 n289 = none ∧ ∀ S291, S291 = st_nw S287 n289 (101, 72) → ∀ S293, S293 = st_pr S291 h 47 (some n289) → ∃ n295, st_t S293 n295 = none ∧ ∀ S297, S297 = st_nw S293 n295 (100, 16) → ∀ S299, S299 = st_pr S297 h 48 (some n295) → ∃ n301, st_t S299 n301 = none ∧ ∀ S303, S303 = st_nw S299 n301 (100, 16) → ∀ S305, S305 = st_pr S303 h 49 (some n301) → ∃ n307, st_t S305 n307 = none ∧ ∀ S309, S309 = st_nw S305 n307 (100, 54) → ∀ S311, S311 = st_pr S309 h 50 (some n307) → ∃ n313, st_t S311 n313 = none ∧ ∀ S315, S315 = st_nw S311 n313 (100, 16) → ∀ S317, S317 = st_pr S315 h 51 (some n313) → ∀ S319, S319 = st_pi S317 h 55 (-1 : Int32) → ∃ n321, st_t S319 n321 = none ∧ ∀ S323, S323 = st_nw S319 n321 (100, 7) → ∀ S325, S325 = st_pr S323 h 57 (some n321) → ∃ n327, st_t S325 n327 = none ∧ ∀ S329, S329 = st_nw S325 n327 (101, 7) → ∀ S331, S331 = st_pr S329 h 58 (some n327) → ∃ n333, st_t S331 n333 = none ∧ ∀ S335, S335 = st_nw S331 n333 (100, 378) → ∀ S337, S337 = st_pr S335 h 59 (some n333) → ∃ n339, st_t S337 n339 = none ∧ ∀ S341, S341 = st_nw S337 n339 (100, 5) → ∀ S343, S343 = st_pr S341 h 63 (some n339) → wp_X12_init_410 h (0 : Int32) S343 g
set_option maxRecDepth 100000 in
set_option maxHeartbeats 4000000 in
theorem kp_X12_init {K : xm_K} (h : Nat)  (S : xm_S) {g : xm_S → Prop} (C : xm_Cx K cX12_init RX12 2 none rm_X12_init) (N : xm_Nx K) (hini : xm_init K) (hg : ∀ S, g S → xm_q K none S)  (h1 : wp_X12_init h  S g) : xm_W K 0 0 0 [(0, xm_r (some h))] [] S := by
  unfold wp_X12_init at h1
  refine x_aload_n C 0 dX12_init_0 rfl rfl ?_
  refine x_objInit (n := h) C rfl gw_738 (Nat.le_of_ble_eq_true rfl) (Nat.le_of_ble_eq_true rfl) (Nat.le_of_ble_eq_true rfl) dX12_init_1 gw_1 gw_2 ?_
  refine x_aload_n C 0 dX12_init_4 rfl rfl ?_
  refine x_bipush (v := (nI 6)) C dX12_init_5 (by decide) ?_
  obtain ⟨n48, hn49, h1⟩ := h1
  refine x_newa_i (n := n48) (len := 6) C gw_11 (by decide) (by decide) hn49 (Nat.le_of_ble_eq_true rfl) (Nat.le_of_ble_eq_true rfl) dX12_init_7 ?_
  refine x_topS (fun S50 e51 => ?_)
  have h1 := h1 S50 e51
  obtain ⟨ht52, h1⟩ := h1
  refine x_putfF_r (n := h) C rfl ht52 fd_170 xc_12 (by decide) rfl hini rfl (xm_nr rfl) dX12_init_9 ?_
  refine x_topS (fun S53 e54 => ?_)
  have h1 := h1 S53 e54
  refine x_aload_n C 0 dX12_init_12 rfl rfl ?_
  refine x_bipush (v := (nI 6)) C dX12_init_13 (by decide) ?_
  obtain ⟨n55, hn56, h1⟩ := h1
  refine x_newa_i (n := n55) (len := 6) C gw_11 (by decide) (by decide) hn56 (Nat.le_of_ble_eq_true rfl) (Nat.le_of_ble_eq_true rfl) dX12_init_15 ?_
  refine x_topS (fun S57 e58 => ?_)
  have h1 := h1 S57 e58
  refine x_putfF_r (n := h) C rfl (tk_n e58 hn56 (tk_p e54 ht52)) fd_175 xc_12 (by decide) rfl hini rfl (xm_nr rfl) dX12_init_17 ?_
  refine x_topS (fun S59 e60 => ?_)
  have h1 := h1 S59 e60
  refine x_aload_n C 0 dX12_init_20 rfl rfl ?_
  refine x_bipush (v := (nI 24)) C dX12_init_21 (by decide) ?_
  obtain ⟨n61, hn62, h1⟩ := h1
  refine x_newa_i (n := n61) (len := 24) C gw_11 (by decide) (by decide) hn62 (Nat.le_of_ble_eq_true rfl) (Nat.le_of_ble_eq_true rfl) dX12_init_23 ?_
  refine x_topS (fun S63 e64 => ?_)
  have h1 := h1 S63 e64
  refine x_putfF_r (n := h) C rfl (tk_n e64 hn62 (tk_p e60 (tk_n e58 hn56 (tk_p e54 ht52)))) fd_171 xc_12 (by decide) rfl hini rfl (xm_nr rfl) dX12_init_25 ?_
  refine x_topS (fun S65 e66 => ?_)
  have h1 := h1 S65 e66
  refine x_aload_n C 0 dX12_init_28 rfl rfl ?_
  refine x_bipush (v := (nI 24)) C dX12_init_29 (by decide) ?_
  obtain ⟨n67, hn68, h1⟩ := h1
  refine x_newa_i (n := n67) (len := 24) C gw_11 (by decide) (by decide) hn68 (Nat.le_of_ble_eq_true rfl) (Nat.le_of_ble_eq_true rfl) dX12_init_31 ?_
  refine x_topS (fun S69 e70 => ?_)
  have h1 := h1 S69 e70
  refine x_putfF_r (n := h) C rfl (tk_n e70 hn68 (tk_p e66 (tk_n e64 hn62 (tk_p e60 (tk_n e58 hn56 (tk_p e54 ht52)))))) fd_183 xc_12 (by decide) rfl hini rfl (xm_nr rfl) dX12_init_33 ?_
  refine x_topS (fun S71 e72 => ?_)
  have h1 := h1 S71 e72
  refine x_aload_n C 0 dX12_init_36 rfl rfl ?_
  refine x_bipush (v := (nI 24)) C dX12_init_37 (by decide) ?_
  obtain ⟨n73, hn74, h1⟩ := h1
  refine x_newa_i (n := n73) (len := 24) C gw_11 (by decide) (by decide) hn74 (Nat.le_of_ble_eq_true rfl) (Nat.le_of_ble_eq_true rfl) dX12_init_39 ?_
  refine x_topS (fun S75 e76 => ?_)
  have h1 := h1 S75 e76
  refine x_putfF_r (n := h) C rfl (tk_n e76 hn74 (tk_p e72 (tk_n e70 hn68 (tk_p e66 (tk_n e64 hn62 (tk_p e60 (tk_n e58 hn56 (tk_p e54 ht52)))))))) fd_191 xc_12 (by decide) rfl hini rfl (xm_nr rfl) dX12_init_41 ?_
  refine x_topS (fun S77 e78 => ?_)
  have h1 := h1 S77 e78
  refine x_aload_n C 0 dX12_init_44 rfl rfl ?_
  refine x_bipush (v := (nI 24)) C dX12_init_45 (by decide) ?_
  obtain ⟨n79, hn80, h1⟩ := h1
  refine x_newa_i (n := n79) (len := 24) C gw_11 (by decide) (by decide) hn80 (Nat.le_of_ble_eq_true rfl) (Nat.le_of_ble_eq_true rfl) dX12_init_47 ?_
  refine x_topS (fun S81 e82 => ?_)
  have h1 := h1 S81 e82
  refine x_putfF_r (n := h) C rfl (tk_n e82 hn80 (tk_p e78 (tk_n e76 hn74 (tk_p e72 (tk_n e70 hn68 (tk_p e66 (tk_n e64 hn62 (tk_p e60 (tk_n e58 hn56 (tk_p e54 ht52)))))))))) fd_205 xc_12 (by decide) rfl hini rfl (xm_nr rfl) dX12_init_49 ?_
  refine x_topS (fun S83 e84 => ?_)
  have h1 := h1 S83 e84
  refine x_aload_n C 0 dX12_init_52 rfl rfl ?_
  refine x_bipush (v := (nI 24)) C dX12_init_53 (by decide) ?_
  obtain ⟨n85, hn86, h1⟩ := h1
  refine x_newa_z (n := n85) (len := 24) C gw_104 (by decide) (by decide) hn86 (Nat.le_of_ble_eq_true rfl) (Nat.le_of_ble_eq_true rfl) dX12_init_55 ?_
  refine x_topS (fun S87 e88 => ?_)
  have h1 := h1 S87 e88
  refine x_putfF_r (n := h) C rfl (tk_n e88 hn86 (tk_p e84 (tk_n e82 hn80 (tk_p e78 (tk_n e76 hn74 (tk_p e72 (tk_n e70 hn68 (tk_p e66 (tk_n e64 hn62 (tk_p e60 (tk_n e58 hn56 (tk_p e54 ht52)))))))))))) fd_192 xc_12 (by decide) rfl hini rfl (xm_nr rfl) dX12_init_57 ?_
  refine x_topS (fun S89 e90 => ?_)
  have h1 := h1 S89 e90
  refine x_aload_n C 0 dX12_init_60 rfl rfl ?_
  refine x_bipush (v := (nI 24)) C dX12_init_61 (by decide) ?_
  obtain ⟨n91, hn92, h1⟩ := h1
  refine x_newa_i (n := n91) (len := 24) C gw_11 (by decide) (by decide) hn92 (Nat.le_of_ble_eq_true rfl) (Nat.le_of_ble_eq_true rfl) dX12_init_63 ?_
  refine x_topS (fun S93 e94 => ?_)
  have h1 := h1 S93 e94
  refine x_putfF_r (n := h) C rfl (tk_n e94 hn92 (tk_p e90 (tk_n e88 hn86 (tk_p e84 (tk_n e82 hn80 (tk_p e78 (tk_n e76 hn74 (tk_p e72 (tk_n e70 hn68 (tk_p e66 (tk_n e64 hn62 (tk_p e60 (tk_n e58 hn56 (tk_p e54 ht52)))))))))))))) fd_184 xc_12 (by decide) rfl hini rfl (xm_nr rfl) dX12_init_65 ?_
  refine x_topS (fun S95 e96 => ?_)
  have h1 := h1 S95 e96
  refine x_aload_n C 0 dX12_init_68 rfl rfl ?_
  refine x_bipush (v := (nI 96)) C dX12_init_69 (by decide) ?_
  obtain ⟨n97, hn98, h1⟩ := h1
  refine x_newa_i (n := n97) (len := 96) C gw_11 (by decide) (by decide) hn98 (Nat.le_of_ble_eq_true rfl) (Nat.le_of_ble_eq_true rfl) dX12_init_71 ?_
  refine x_topS (fun S99 e100 => ?_)
  have h1 := h1 S99 e100
  refine x_putfF_r (n := h) C rfl (tk_n e100 hn98 (tk_p e96 (tk_n e94 hn92 (tk_p e90 (tk_n e88 hn86 (tk_p e84 (tk_n e82 hn80 (tk_p e78 (tk_n e76 hn74 (tk_p e72 (tk_n e70 hn68 (tk_p e66 (tk_n e64 hn62 (tk_p e60 (tk_n e58 hn56 (tk_p e54 ht52)))))))))))))))) fd_185 xc_12 (by decide) rfl hini rfl (xm_nr rfl) dX12_init_73 ?_
  refine x_topS (fun S101 e102 => ?_)
  have h1 := h1 S101 e102
  refine x_aload_n C 0 dX12_init_76 rfl rfl ?_
  refine x_bipush (v := (nI 96)) C dX12_init_77 (by decide) ?_
  obtain ⟨n103, hn104, h1⟩ := h1
  refine x_newa_i (n := n103) (len := 96) C gw_11 (by decide) (by decide) hn104 (Nat.le_of_ble_eq_true rfl) (Nat.le_of_ble_eq_true rfl) dX12_init_79 ?_
  refine x_topS (fun S105 e106 => ?_)
  have h1 := h1 S105 e106
  refine x_putfF_r (n := h) C rfl (tk_n e106 hn104 (tk_p e102 (tk_n e100 hn98 (tk_p e96 (tk_n e94 hn92 (tk_p e90 (tk_n e88 hn86 (tk_p e84 (tk_n e82 hn80 (tk_p e78 (tk_n e76 hn74 (tk_p e72 (tk_n e70 hn68 (tk_p e66 (tk_n e64 hn62 (tk_p e60 (tk_n e58 hn56 (tk_p e54 ht52)))))))))))))))))) fd_186 xc_12 (by decide) rfl hini rfl (xm_nr rfl) dX12_init_81 ?_
  refine x_topS (fun S107 e108 => ?_)
  have h1 := h1 S107 e108
  refine x_aload_n C 0 dX12_init_84 rfl rfl ?_
  refine x_bipush (v := (nI 96)) C dX12_init_85 (by decide) ?_
  obtain ⟨n109, hn110, h1⟩ := h1
  refine x_newa_i (n := n109) (len := 96) C gw_11 (by decide) (by decide) hn110 (Nat.le_of_ble_eq_true rfl) (Nat.le_of_ble_eq_true rfl) dX12_init_87 ?_
  refine x_topS (fun S111 e112 => ?_)
  have h1 := h1 S111 e112
  refine x_putfF_r (n := h) C rfl (tk_n e112 hn110 (tk_p e108 (tk_n e106 hn104 (tk_p e102 (tk_n e100 hn98 (tk_p e96 (tk_n e94 hn92 (tk_p e90 (tk_n e88 hn86 (tk_p e84 (tk_n e82 hn80 (tk_p e78 (tk_n e76 hn74 (tk_p e72 (tk_n e70 hn68 (tk_p e66 (tk_n e64 hn62 (tk_p e60 (tk_n e58 hn56 (tk_p e54 ht52)))))))))))))))))))) fd_181 xc_12 (by decide) rfl hini rfl (xm_nr rfl) dX12_init_89 ?_
  refine x_topS (fun S113 e114 => ?_)
  have h1 := h1 S113 e114
  refine x_aload_n C 0 dX12_init_92 rfl rfl ?_
  refine x_bipush (v := (nI 96)) C dX12_init_93 (by decide) ?_
  obtain ⟨n115, hn116, h1⟩ := h1
  refine x_newa_i (n := n115) (len := 96) C gw_11 (by decide) (by decide) hn116 (Nat.le_of_ble_eq_true rfl) (Nat.le_of_ble_eq_true rfl) dX12_init_95 ?_
  refine x_topS (fun S117 e118 => ?_)
  have h1 := h1 S117 e118
  refine x_putfF_r (n := h) C rfl (tk_n e118 hn116 (tk_p e114 (tk_n e112 hn110 (tk_p e108 (tk_n e106 hn104 (tk_p e102 (tk_n e100 hn98 (tk_p e96 (tk_n e94 hn92 (tk_p e90 (tk_n e88 hn86 (tk_p e84 (tk_n e82 hn80 (tk_p e78 (tk_n e76 hn74 (tk_p e72 (tk_n e70 hn68 (tk_p e66 (tk_n e64 hn62 (tk_p e60 (tk_n e58 hn56 (tk_p e54 ht52)))))))))))))))))))))) fd_182 xc_12 (by decide) rfl hini rfl (xm_nr rfl) dX12_init_97 ?_
  refine x_topS (fun S119 e120 => ?_)
  have h1 := h1 S119 e120
  refine x_aload_n C 0 dX12_init_100 rfl rfl ?_
  refine x_bipush (v := (nI 24)) C dX12_init_101 (by decide) ?_
  obtain ⟨n121, hn122, h1⟩ := h1
  refine x_newa_i (n := n121) (len := 24) C gw_11 (by decide) (by decide) hn122 (Nat.le_of_ble_eq_true rfl) (Nat.le_of_ble_eq_true rfl) dX12_init_103 ?_
  refine x_topS (fun S123 e124 => ?_)
  have h1 := h1 S123 e124
  refine x_putfF_r (n := h) C rfl (tk_n e124 hn122 (tk_p e120 (tk_n e118 hn116 (tk_p e114 (tk_n e112 hn110 (tk_p e108 (tk_n e106 hn104 (tk_p e102 (tk_n e100 hn98 (tk_p e96 (tk_n e94 hn92 (tk_p e90 (tk_n e88 hn86 (tk_p e84 (tk_n e82 hn80 (tk_p e78 (tk_n e76 hn74 (tk_p e72 (tk_n e70 hn68 (tk_p e66 (tk_n e64 hn62 (tk_p e60 (tk_n e58 hn56 (tk_p e54 ht52)))))))))))))))))))))))) fd_178 xc_12 (by decide) rfl hini rfl (xm_nr rfl) dX12_init_105 ?_
  refine x_topS (fun S125 e126 => ?_)
  have h1 := h1 S125 e126
  refine x_aload_n C 0 dX12_init_108 rfl rfl ?_
  refine x_bipush (v := (nI 48)) C dX12_init_109 (by decide) ?_
  obtain ⟨n127, hn128, h1⟩ := h1
  refine x_newa_i (n := n127) (len := 48) C gw_11 (by decide) (by decide) hn128 (Nat.le_of_ble_eq_true rfl) (Nat.le_of_ble_eq_true rfl) dX12_init_111 ?_
  refine x_topS (fun S129 e130 => ?_)
  have h1 := h1 S129 e130
  refine x_putfF_r (n := h) C rfl (tk_n e130 hn128 (tk_p e126 (tk_n e124 hn122 (tk_p e120 (tk_n e118 hn116 (tk_p e114 (tk_n e112 hn110 (tk_p e108 (tk_n e106 hn104 (tk_p e102 (tk_n e100 hn98 (tk_p e96 (tk_n e94 hn92 (tk_p e90 (tk_n e88 hn86 (tk_p e84 (tk_n e82 hn80 (tk_p e78 (tk_n e76 hn74 (tk_p e72 (tk_n e70 hn68 (tk_p e66 (tk_n e64 hn62 (tk_p e60 (tk_n e58 hn56 (tk_p e54 ht52)))))))))))))))))))))))))) fd_179 xc_12 (by decide) rfl hini rfl (xm_nr rfl) dX12_init_113 ?_
  refine x_topS (fun S131 e132 => ?_)
  have h1 := h1 S131 e132
  refine x_aload_n C 0 dX12_init_116 rfl rfl ?_
  refine x_bipush (v := (nI 24)) C dX12_init_117 (by decide) ?_
  obtain ⟨n133, hn134, h1⟩ := h1
  refine x_newa_i (n := n133) (len := 24) C gw_11 (by decide) (by decide) hn134 (Nat.le_of_ble_eq_true rfl) (Nat.le_of_ble_eq_true rfl) dX12_init_119 ?_
  refine x_topS (fun S135 e136 => ?_)
  have h1 := h1 S135 e136
  refine x_putfF_r (n := h) C rfl (tk_n e136 hn134 (tk_p e132 (tk_n e130 hn128 (tk_p e126 (tk_n e124 hn122 (tk_p e120 (tk_n e118 hn116 (tk_p e114 (tk_n e112 hn110 (tk_p e108 (tk_n e106 hn104 (tk_p e102 (tk_n e100 hn98 (tk_p e96 (tk_n e94 hn92 (tk_p e90 (tk_n e88 hn86 (tk_p e84 (tk_n e82 hn80 (tk_p e78 (tk_n e76 hn74 (tk_p e72 (tk_n e70 hn68 (tk_p e66 (tk_n e64 hn62 (tk_p e60 (tk_n e58 hn56 (tk_p e54 ht52)))))))))))))))))))))))))))) fd_193 xc_12 (by decide) rfl hini rfl (xm_nr rfl) dX12_init_121 ?_
  refine x_topS (fun S137 e138 => ?_)
  have h1 := h1 S137 e138
  refine x_aload_n C 0 dX12_init_124 rfl rfl ?_
  refine x_bipush (v := (nI 48)) C dX12_init_125 (by decide) ?_
  obtain ⟨n139, hn140, h1⟩ := h1
  refine x_newa_i (n := n139) (len := 48) C gw_11 (by decide) (by decide) hn140 (Nat.le_of_ble_eq_true rfl) (Nat.le_of_ble_eq_true rfl) dX12_init_127 ?_
  refine x_topS (fun S141 e142 => ?_)
  have h1 := h1 S141 e142
  refine x_putfF_r (n := h) C rfl (tk_n e142 hn140 (tk_p e138 (tk_n e136 hn134 (tk_p e132 (tk_n e130 hn128 (tk_p e126 (tk_n e124 hn122 (tk_p e120 (tk_n e118 hn116 (tk_p e114 (tk_n e112 hn110 (tk_p e108 (tk_n e106 hn104 (tk_p e102 (tk_n e100 hn98 (tk_p e96 (tk_n e94 hn92 (tk_p e90 (tk_n e88 hn86 (tk_p e84 (tk_n e82 hn80 (tk_p e78 (tk_n e76 hn74 (tk_p e72 (tk_n e70 hn68 (tk_p e66 (tk_n e64 hn62 (tk_p e60 (tk_n e58 hn56 (tk_p e54 ht52)))))))))))))))))))))))))))))) fd_194 xc_12 (by decide) rfl hini rfl (xm_nr rfl) dX12_init_129 ?_
  refine x_topS (fun S143 e144 => ?_)
  have h1 := h1 S143 e144
  refine x_aload_n C 0 dX12_init_132 rfl rfl ?_
  refine x_bipush (v := (nI 48)) C dX12_init_133 (by decide) ?_
  obtain ⟨n145, hn146, h1⟩ := h1
  refine x_newa_i (n := n145) (len := 48) C gw_11 (by decide) (by decide) hn146 (Nat.le_of_ble_eq_true rfl) (Nat.le_of_ble_eq_true rfl) dX12_init_135 ?_
  refine x_topS (fun S147 e148 => ?_)
  have h1 := h1 S147 e148
  refine x_putfF_r (n := h) C rfl (tk_n e148 hn146 (tk_p e144 (tk_n e142 hn140 (tk_p e138 (tk_n e136 hn134 (tk_p e132 (tk_n e130 hn128 (tk_p e126 (tk_n e124 hn122 (tk_p e120 (tk_n e118 hn116 (tk_p e114 (tk_n e112 hn110 (tk_p e108 (tk_n e106 hn104 (tk_p e102 (tk_n e100 hn98 (tk_p e96 (tk_n e94 hn92 (tk_p e90 (tk_n e88 hn86 (tk_p e84 (tk_n e82 hn80 (tk_p e78 (tk_n e76 hn74 (tk_p e72 (tk_n e70 hn68 (tk_p e66 (tk_n e64 hn62 (tk_p e60 (tk_n e58 hn56 (tk_p e54 ht52)))))))))))))))))))))))))))))))) fd_195 xc_12 (by decide) rfl hini rfl (xm_nr rfl) dX12_init_137 ?_
  refine x_topS (fun S149 e150 => ?_)
  have h1 := h1 S149 e150
  refine x_aload_n C 0 dX12_init_140 rfl rfl ?_
  refine x_iconst (v := (nI 4)) C dX12_init_141 (by decide) ?_
  obtain ⟨n151, hn152, h1⟩ := h1
  refine x_newa_i (n := n151) (len := 4) C gw_11 (by decide) (by decide) hn152 (Nat.le_of_ble_eq_true rfl) (Nat.le_of_ble_eq_true rfl) dX12_init_142 ?_
  refine x_topS (fun S153 e154 => ?_)
  have h1 := h1 S153 e154
  refine x_putfF_r (n := h) C rfl (tk_n e154 hn152 (tk_p e150 (tk_n e148 hn146 (tk_p e144 (tk_n e142 hn140 (tk_p e138 (tk_n e136 hn134 (tk_p e132 (tk_n e130 hn128 (tk_p e126 (tk_n e124 hn122 (tk_p e120 (tk_n e118 hn116 (tk_p e114 (tk_n e112 hn110 (tk_p e108 (tk_n e106 hn104 (tk_p e102 (tk_n e100 hn98 (tk_p e96 (tk_n e94 hn92 (tk_p e90 (tk_n e88 hn86 (tk_p e84 (tk_n e82 hn80 (tk_p e78 (tk_n e76 hn74 (tk_p e72 (tk_n e70 hn68 (tk_p e66 (tk_n e64 hn62 (tk_p e60 (tk_n e58 hn56 (tk_p e54 ht52)))))))))))))))))))))))))))))))))) fd_188 xc_12 (by decide) rfl hini rfl (xm_nr rfl) dX12_init_144 ?_
  refine x_topS (fun S155 e156 => ?_)
  have h1 := h1 S155 e156
  refine x_aload_n C 0 dX12_init_147 rfl rfl ?_
  refine x_iconst (v := (nI 4)) C dX12_init_148 (by decide) ?_
  obtain ⟨n157, hn158, h1⟩ := h1
  refine x_newa_i (n := n157) (len := 4) C gw_11 (by decide) (by decide) hn158 (Nat.le_of_ble_eq_true rfl) (Nat.le_of_ble_eq_true rfl) dX12_init_149 ?_
  refine x_topS (fun S159 e160 => ?_)
  have h1 := h1 S159 e160
  refine x_putfF_r (n := h) C rfl (tk_n e160 hn158 (tk_p e156 (tk_n e154 hn152 (tk_p e150 (tk_n e148 hn146 (tk_p e144 (tk_n e142 hn140 (tk_p e138 (tk_n e136 hn134 (tk_p e132 (tk_n e130 hn128 (tk_p e126 (tk_n e124 hn122 (tk_p e120 (tk_n e118 hn116 (tk_p e114 (tk_n e112 hn110 (tk_p e108 (tk_n e106 hn104 (tk_p e102 (tk_n e100 hn98 (tk_p e96 (tk_n e94 hn92 (tk_p e90 (tk_n e88 hn86 (tk_p e84 (tk_n e82 hn80 (tk_p e78 (tk_n e76 hn74 (tk_p e72 (tk_n e70 hn68 (tk_p e66 (tk_n e64 hn62 (tk_p e60 (tk_n e58 hn56 (tk_p e54 ht52)))))))))))))))))))))))))))))))))))) fd_189 xc_12 (by decide) rfl hini rfl (xm_nr rfl) dX12_init_151 ?_
  refine x_topS (fun S161 e162 => ?_)
  have h1 := h1 S161 e162
  refine x_aload_n C 0 dX12_init_154 rfl rfl ?_
  refine x_bipush (v := (nI 6)) C dX12_init_155 (by decide) ?_
  obtain ⟨n163, hn164, h1⟩ := h1
  refine x_newa_i (n := n163) (len := 6) C gw_11 (by decide) (by decide) hn164 (Nat.le_of_ble_eq_true rfl) (Nat.le_of_ble_eq_true rfl) dX12_init_157 ?_
  refine x_topS (fun S165 e166 => ?_)
  have h1 := h1 S165 e166
  refine x_putfF_r (n := h) C rfl (tk_n e166 hn164 (tk_p e162 (tk_n e160 hn158 (tk_p e156 (tk_n e154 hn152 (tk_p e150 (tk_n e148 hn146 (tk_p e144 (tk_n e142 hn140 (tk_p e138 (tk_n e136 hn134 (tk_p e132 (tk_n e130 hn128 (tk_p e126 (tk_n e124 hn122 (tk_p e120 (tk_n e118 hn116 (tk_p e114 (tk_n e112 hn110 (tk_p e108 (tk_n e106 hn104 (tk_p e102 (tk_n e100 hn98 (tk_p e96 (tk_n e94 hn92 (tk_p e90 (tk_n e88 hn86 (tk_p e84 (tk_n e82 hn80 (tk_p e78 (tk_n e76 hn74 (tk_p e72 (tk_n e70 hn68 (tk_p e66 (tk_n e64 hn62 (tk_p e60 (tk_n e58 hn56 (tk_p e54 ht52)))))))))))))))))))))))))))))))))))))) fd_166 xc_12 (by decide) rfl hini rfl (xm_nr rfl) dX12_init_159 ?_
  refine x_topS (fun S167 e168 => ?_)
  have h1 := h1 S167 e168
  refine x_aload_n C 0 dX12_init_162 rfl rfl ?_
  refine x_bipush (v := (nI 6)) C dX12_init_163 (by decide) ?_
  obtain ⟨n169, hn170, h1⟩ := h1
  refine x_newa_i (n := n169) (len := 6) C gw_11 (by decide) (by decide) hn170 (Nat.le_of_ble_eq_true rfl) (Nat.le_of_ble_eq_true rfl) dX12_init_165 ?_
  refine x_topS (fun S171 e172 => ?_)
  have h1 := h1 S171 e172
  refine x_putfF_r (n := h) C rfl (tk_n e172 hn170 (tk_p e168 (tk_n e166 hn164 (tk_p e162 (tk_n e160 hn158 (tk_p e156 (tk_n e154 hn152 (tk_p e150 (tk_n e148 hn146 (tk_p e144 (tk_n e142 hn140 (tk_p e138 (tk_n e136 hn134 (tk_p e132 (tk_n e130 hn128 (tk_p e126 (tk_n e124 hn122 (tk_p e120 (tk_n e118 hn116 (tk_p e114 (tk_n e112 hn110 (tk_p e108 (tk_n e106 hn104 (tk_p e102 (tk_n e100 hn98 (tk_p e96 (tk_n e94 hn92 (tk_p e90 (tk_n e88 hn86 (tk_p e84 (tk_n e82 hn80 (tk_p e78 (tk_n e76 hn74 (tk_p e72 (tk_n e70 hn68 (tk_p e66 (tk_n e64 hn62 (tk_p e60 (tk_n e58 hn56 (tk_p e54 ht52)))))))))))))))))))))))))))))))))))))))) fd_168 xc_12 (by decide) rfl hini rfl (xm_nr rfl) dX12_init_167 ?_
  refine x_topS (fun S173 e174 => ?_)
  have h1 := h1 S173 e174
  refine x_aload_n C 0 dX12_init_170 rfl rfl ?_
  refine x_sipush (v := (nI 6200)) C dX12_init_171 (by decide) ?_
  obtain ⟨n175, hn176, h1⟩ := h1
  refine x_newa_i (n := n175) (len := 6200) C gw_11 (by decide) (by decide) hn176 (Nat.le_of_ble_eq_true rfl) (Nat.le_of_ble_eq_true rfl) dX12_init_174 ?_
  refine x_topS (fun S177 e178 => ?_)
  have h1 := h1 S177 e178
  refine x_putfF_r (n := h) C rfl (tk_n e178 hn176 (tk_p e174 (tk_n e172 hn170 (tk_p e168 (tk_n e166 hn164 (tk_p e162 (tk_n e160 hn158 (tk_p e156 (tk_n e154 hn152 (tk_p e150 (tk_n e148 hn146 (tk_p e144 (tk_n e142 hn140 (tk_p e138 (tk_n e136 hn134 (tk_p e132 (tk_n e130 hn128 (tk_p e126 (tk_n e124 hn122 (tk_p e120 (tk_n e118 hn116 (tk_p e114 (tk_n e112 hn110 (tk_p e108 (tk_n e106 hn104 (tk_p e102 (tk_n e100 hn98 (tk_p e96 (tk_n e94 hn92 (tk_p e90 (tk_n e88 hn86 (tk_p e84 (tk_n e82 hn80 (tk_p e78 (tk_n e76 hn74 (tk_p e72 (tk_n e70 hn68 (tk_p e66 (tk_n e64 hn62 (tk_p e60 (tk_n e58 hn56 (tk_p e54 ht52)))))))))))))))))))))))))))))))))))))))))) fd_161 xc_12 (by decide) rfl hini rfl (xm_nr rfl) dX12_init_176 ?_
  refine x_topS (fun S179 e180 => ?_)
  have h1 := h1 S179 e180
  refine x_aload_n C 0 dX12_init_179 rfl rfl ?_
  refine x_sipush (v := (nI 155)) C dX12_init_180 (by decide) ?_
  obtain ⟨n181, hn182, h1⟩ := h1
  refine x_newa_i (n := n181) (len := 155) C gw_11 (by decide) (by decide) hn182 (Nat.le_of_ble_eq_true rfl) (Nat.le_of_ble_eq_true rfl) dX12_init_183 ?_
  refine x_topS (fun S183 e184 => ?_)
  have h1 := h1 S183 e184
  refine x_putfF_r (n := h) C rfl (tk_n e184 hn182 (tk_p e180 (tk_n e178 hn176 (tk_p e174 (tk_n e172 hn170 (tk_p e168 (tk_n e166 hn164 (tk_p e162 (tk_n e160 hn158 (tk_p e156 (tk_n e154 hn152 (tk_p e150 (tk_n e148 hn146 (tk_p e144 (tk_n e142 hn140 (tk_p e138 (tk_n e136 hn134 (tk_p e132 (tk_n e130 hn128 (tk_p e126 (tk_n e124 hn122 (tk_p e120 (tk_n e118 hn116 (tk_p e114 (tk_n e112 hn110 (tk_p e108 (tk_n e106 hn104 (tk_p e102 (tk_n e100 hn98 (tk_p e96 (tk_n e94 hn92 (tk_p e90 (tk_n e88 hn86 (tk_p e84 (tk_n e82 hn80 (tk_p e78 (tk_n e76 hn74 (tk_p e72 (tk_n e70 hn68 (tk_p e66 (tk_n e64 hn62 (tk_p e60 (tk_n e58 hn56 (tk_p e54 ht52)))))))))))))))))))))))))))))))))))))))))))) fd_159 xc_12 (by decide) rfl hini rfl (xm_nr rfl) dX12_init_185 ?_
  refine x_topS (fun S185 e186 => ?_)
  have h1 := h1 S185 e186
  refine x_aload_n C 0 dX12_init_188 rfl rfl ?_
  refine x_bipush (v := (nI 15)) C dX12_init_189 (by decide) ?_
  refine x_putf_i (n := h) C rfl (tk_p e186 (tk_n e184 hn182 (tk_p e180 (tk_n e178 hn176 (tk_p e174 (tk_n e172 hn170 (tk_p e168 (tk_n e166 hn164 (tk_p e162 (tk_n e160 hn158 (tk_p e156 (tk_n e154 hn152 (tk_p e150 (tk_n e148 hn146 (tk_p e144 (tk_n e142 hn140 (tk_p e138 (tk_n e136 hn134 (tk_p e132 (tk_n e130 hn128 (tk_p e126 (tk_n e124 hn122 (tk_p e120 (tk_n e118 hn116 (tk_p e114 (tk_n e112 hn110 (tk_p e108 (tk_n e106 hn104 (tk_p e102 (tk_n e100 hn98 (tk_p e96 (tk_n e94 hn92 (tk_p e90 (tk_n e88 hn86 (tk_p e84 (tk_n e82 hn80 (tk_p e78 (tk_n e76 hn74 (tk_p e72 (tk_n e70 hn68 (tk_p e66 (tk_n e64 hn62 (tk_p e60 (tk_n e58 hn56 (tk_p e54 ht52))))))))))))))))))))))))))))))))))))))))))))) fd_190 xc_12 (by decide) rfl ⟨rfl, rfl⟩ dX12_init_191 ?_
  refine x_topS (fun S187 e188 => ?_)
  have h1 := h1 S187 e188
  refine x_aload_n C 0 dX12_init_194 rfl rfl ?_
  refine x_bipush (v := (nI 18)) C dX12_init_195 (by decide) ?_
  obtain ⟨n189, hn190, h1⟩ := h1
  refine x_newa_i (n := n189) (len := 18) C gw_11 (by decide) (by decide) hn190 (Nat.le_of_ble_eq_true rfl) (Nat.le_of_ble_eq_true rfl) dX12_init_197 ?_
  refine x_topS (fun S191 e192 => ?_)
  have h1 := h1 S191 e192
  refine x_putfF_r (n := h) C rfl (tk_n e192 hn190 (tk_p e188 (tk_p e186 (tk_n e184 hn182 (tk_p e180 (tk_n e178 hn176 (tk_p e174 (tk_n e172 hn170 (tk_p e168 (tk_n e166 hn164 (tk_p e162 (tk_n e160 hn158 (tk_p e156 (tk_n e154 hn152 (tk_p e150 (tk_n e148 hn146 (tk_p e144 (tk_n e142 hn140 (tk_p e138 (tk_n e136 hn134 (tk_p e132 (tk_n e130 hn128 (tk_p e126 (tk_n e124 hn122 (tk_p e120 (tk_n e118 hn116 (tk_p e114 (tk_n e112 hn110 (tk_p e108 (tk_n e106 hn104 (tk_p e102 (tk_n e100 hn98 (tk_p e96 (tk_n e94 hn92 (tk_p e90 (tk_n e88 hn86 (tk_p e84 (tk_n e82 hn80 (tk_p e78 (tk_n e76 hn74 (tk_p e72 (tk_n e70 hn68 (tk_p e66 (tk_n e64 hn62 (tk_p e60 (tk_n e58 hn56 (tk_p e54 ht52))))))))))))))))))))))))))))))))))))))))))))))) fd_217 xc_12 (by decide) rfl hini rfl (xm_nr rfl) dX12_init_199 ?_
  refine x_topS (fun S193 e194 => ?_)
  have h1 := h1 S193 e194
  refine x_aload_n C 0 dX12_init_202 rfl rfl ?_
  refine x_iconst (v := (nI 3)) C dX12_init_203 (by decide) ?_
  obtain ⟨n195, hn196, h1⟩ := h1
  refine x_newa_z (n := n195) (len := 3) C gw_104 (by decide) (by decide) hn196 (Nat.le_of_ble_eq_true rfl) (Nat.le_of_ble_eq_true rfl) dX12_init_204 ?_
  refine x_topS (fun S197 e198 => ?_)
  have h1 := h1 S197 e198
  refine x_putfF_r (n := h) C rfl (tk_n e198 hn196 (tk_p e194 (tk_n e192 hn190 (tk_p e188 (tk_p e186 (tk_n e184 hn182 (tk_p e180 (tk_n e178 hn176 (tk_p e174 (tk_n e172 hn170 (tk_p e168 (tk_n e166 hn164 (tk_p e162 (tk_n e160 hn158 (tk_p e156 (tk_n e154 hn152 (tk_p e150 (tk_n e148 hn146 (tk_p e144 (tk_n e142 hn140 (tk_p e138 (tk_n e136 hn134 (tk_p e132 (tk_n e130 hn128 (tk_p e126 (tk_n e124 hn122 (tk_p e120 (tk_n e118 hn116 (tk_p e114 (tk_n e112 hn110 (tk_p e108 (tk_n e106 hn104 (tk_p e102 (tk_n e100 hn98 (tk_p e96 (tk_n e94 hn92 (tk_p e90 (tk_n e88 hn86 (tk_p e84 (tk_n e82 hn80 (tk_p e78 (tk_n e76 hn74 (tk_p e72 (tk_n e70 hn68 (tk_p e66 (tk_n e64 hn62 (tk_p e60 (tk_n e58 hn56 (tk_p e54 ht52))))))))))))))))))))))))))))))))))))))))))))))))) fd_218 xc_12 (by decide) rfl hini rfl (xm_nr rfl) dX12_init_206 ?_
  refine x_topS (fun S199 e200 => ?_)
  have h1 := h1 S199 e200
  refine x_aload_n C 0 dX12_init_209 rfl rfl ?_
  refine x_bipush (v := (nI 18)) C dX12_init_210 (by decide) ?_
  obtain ⟨n201, hn202, h1⟩ := h1
  refine x_newa_i (n := n201) (len := 18) C gw_11 (by decide) (by decide) hn202 (Nat.le_of_ble_eq_true rfl) (Nat.le_of_ble_eq_true rfl) dX12_init_212 ?_
  refine x_topS (fun S203 e204 => ?_)
  have h1 := h1 S203 e204
  refine x_putfF_r (n := h) C rfl (tk_n e204 hn202 (tk_p e200 (tk_n e198 hn196 (tk_p e194 (tk_n e192 hn190 (tk_p e188 (tk_p e186 (tk_n e184 hn182 (tk_p e180 (tk_n e178 hn176 (tk_p e174 (tk_n e172 hn170 (tk_p e168 (tk_n e166 hn164 (tk_p e162 (tk_n e160 hn158 (tk_p e156 (tk_n e154 hn152 (tk_p e150 (tk_n e148 hn146 (tk_p e144 (tk_n e142 hn140 (tk_p e138 (tk_n e136 hn134 (tk_p e132 (tk_n e130 hn128 (tk_p e126 (tk_n e124 hn122 (tk_p e120 (tk_n e118 hn116 (tk_p e114 (tk_n e112 hn110 (tk_p e108 (tk_n e106 hn104 (tk_p e102 (tk_n e100 hn98 (tk_p e96 (tk_n e94 hn92 (tk_p e90 (tk_n e88 hn86 (tk_p e84 (tk_n e82 hn80 (tk_p e78 (tk_n e76 hn74 (tk_p e72 (tk_n e70 hn68 (tk_p e66 (tk_n e64 hn62 (tk_p e60 (tk_n e58 hn56 (tk_p e54 ht52))))))))))))))))))))))))))))))))))))))))))))))))))) fd_169 xc_12 (by decide) rfl hini rfl (xm_nr rfl) dX12_init_214 ?_
  refine x_topS (fun S205 e206 => ?_)
  have h1 := h1 S205 e206
  refine x_aload_n C 0 dX12_init_217 rfl rfl ?_
  refine x_sipush (v := (nI 155)) C dX12_init_218 (by decide) ?_
  obtain ⟨n207, hn208, h1⟩ := h1
  refine x_newa_i (n := n207) (len := 155) C gw_11 (by decide) (by decide) hn208 (Nat.le_of_ble_eq_true rfl) (Nat.le_of_ble_eq_true rfl) dX12_init_221 ?_
  refine x_topS (fun S209 e210 => ?_)
  have h1 := h1 S209 e210
  refine x_putfF_r (n := h) C rfl (tk_n e210 hn208 (tk_p e206 (tk_n e204 hn202 (tk_p e200 (tk_n e198 hn196 (tk_p e194 (tk_n e192 hn190 (tk_p e188 (tk_p e186 (tk_n e184 hn182 (tk_p e180 (tk_n e178 hn176 (tk_p e174 (tk_n e172 hn170 (tk_p e168 (tk_n e166 hn164 (tk_p e162 (tk_n e160 hn158 (tk_p e156 (tk_n e154 hn152 (tk_p e150 (tk_n e148 hn146 (tk_p e144 (tk_n e142 hn140 (tk_p e138 (tk_n e136 hn134 (tk_p e132 (tk_n e130 hn128 (tk_p e126 (tk_n e124 hn122 (tk_p e120 (tk_n e118 hn116 (tk_p e114 (tk_n e112 hn110 (tk_p e108 (tk_n e106 hn104 (tk_p e102 (tk_n e100 hn98 (tk_p e96 (tk_n e94 hn92 (tk_p e90 (tk_n e88 hn86 (tk_p e84 (tk_n e82 hn80 (tk_p e78 (tk_n e76 hn74 (tk_p e72 (tk_n e70 hn68 (tk_p e66 (tk_n e64 hn62 (tk_p e60 (tk_n e58 hn56 (tk_p e54 ht52))))))))))))))))))))))))))))))))))))))))))))))))))))) fd_180 xc_12 (by decide) rfl hini rfl (xm_nr rfl) dX12_init_223 ?_
  refine x_topS (fun S211 e212 => ?_)
  have h1 := h1 S211 e212
  refine x_aload_n C 0 dX12_init_226 rfl rfl ?_
  refine x_sipush (v := (nI 155)) C dX12_init_227 (by decide) ?_
  obtain ⟨n213, hn214, h1⟩ := h1
  refine x_newa_l (n := n213) (len := 155) C gw_740 (by decide) (by decide) hn214 (Nat.le_of_ble_eq_true rfl) (Nat.le_of_ble_eq_true rfl) dX12_init_230 ?_
  refine x_topS (fun S215 e216 => ?_)
  have h1 := h1 S215 e216
  refine x_putfF_r (n := h) C rfl (tk_n e216 hn214 (tk_p e212 (tk_n e210 hn208 (tk_p e206 (tk_n e204 hn202 (tk_p e200 (tk_n e198 hn196 (tk_p e194 (tk_n e192 hn190 (tk_p e188 (tk_p e186 (tk_n e184 hn182 (tk_p e180 (tk_n e178 hn176 (tk_p e174 (tk_n e172 hn170 (tk_p e168 (tk_n e166 hn164 (tk_p e162 (tk_n e160 hn158 (tk_p e156 (tk_n e154 hn152 (tk_p e150 (tk_n e148 hn146 (tk_p e144 (tk_n e142 hn140 (tk_p e138 (tk_n e136 hn134 (tk_p e132 (tk_n e130 hn128 (tk_p e126 (tk_n e124 hn122 (tk_p e120 (tk_n e118 hn116 (tk_p e114 (tk_n e112 hn110 (tk_p e108 (tk_n e106 hn104 (tk_p e102 (tk_n e100 hn98 (tk_p e96 (tk_n e94 hn92 (tk_p e90 (tk_n e88 hn86 (tk_p e84 (tk_n e82 hn80 (tk_p e78 (tk_n e76 hn74 (tk_p e72 (tk_n e70 hn68 (tk_p e66 (tk_n e64 hn62 (tk_p e60 (tk_n e58 hn56 (tk_p e54 ht52))))))))))))))))))))))))))))))))))))))))))))))))))))))) fd_177 xc_12 (by decide) rfl hini rfl (xm_nr rfl) dX12_init_232 ?_
  refine x_topS (fun S217 e218 => ?_)
  have h1 := h1 S217 e218
  refine x_aload_n C 0 dX12_init_235 rfl rfl ?_
  refine x_bipush (v := (nI 24)) C dX12_init_236 (by decide) ?_
  obtain ⟨n219, hn220, h1⟩ := h1
  refine x_newa_i (n := n219) (len := 24) C gw_11 (by decide) (by decide) hn220 (Nat.le_of_ble_eq_true rfl) (Nat.le_of_ble_eq_true rfl) dX12_init_238 ?_
  refine x_topS (fun S221 e222 => ?_)
  have h1 := h1 S221 e222
  refine x_putfF_r (n := h) C rfl (tk_n e222 hn220 (tk_p e218 (tk_n e216 hn214 (tk_p e212 (tk_n e210 hn208 (tk_p e206 (tk_n e204 hn202 (tk_p e200 (tk_n e198 hn196 (tk_p e194 (tk_n e192 hn190 (tk_p e188 (tk_p e186 (tk_n e184 hn182 (tk_p e180 (tk_n e178 hn176 (tk_p e174 (tk_n e172 hn170 (tk_p e168 (tk_n e166 hn164 (tk_p e162 (tk_n e160 hn158 (tk_p e156 (tk_n e154 hn152 (tk_p e150 (tk_n e148 hn146 (tk_p e144 (tk_n e142 hn140 (tk_p e138 (tk_n e136 hn134 (tk_p e132 (tk_n e130 hn128 (tk_p e126 (tk_n e124 hn122 (tk_p e120 (tk_n e118 hn116 (tk_p e114 (tk_n e112 hn110 (tk_p e108 (tk_n e106 hn104 (tk_p e102 (tk_n e100 hn98 (tk_p e96 (tk_n e94 hn92 (tk_p e90 (tk_n e88 hn86 (tk_p e84 (tk_n e82 hn80 (tk_p e78 (tk_n e76 hn74 (tk_p e72 (tk_n e70 hn68 (tk_p e66 (tk_n e64 hn62 (tk_p e60 (tk_n e58 hn56 (tk_p e54 ht52))))))))))))))))))))))))))))))))))))))))))))))))))))))))) fd_176 xc_12 (by decide) rfl hini rfl (xm_nr rfl) dX12_init_240 ?_
  refine x_topS (fun S223 e224 => ?_)
  have h1 := h1 S223 e224
  refine x_aload_n C 0 dX12_init_243 rfl rfl ?_
  refine x_bipush (v := (nI 6)) C dX12_init_244 (by decide) ?_
  obtain ⟨n225, hn226, h1⟩ := h1
  refine x_newa_i (n := n225) (len := 6) C gw_11 (by decide) (by decide) hn226 (Nat.le_of_ble_eq_true rfl) (Nat.le_of_ble_eq_true rfl) dX12_init_246 ?_
  refine x_topS (fun S227 e228 => ?_)
  have h1 := h1 S227 e228
  refine x_putfF_r (n := h) C rfl (tk_n e228 hn226 (tk_p e224 (tk_n e222 hn220 (tk_p e218 (tk_n e216 hn214 (tk_p e212 (tk_n e210 hn208 (tk_p e206 (tk_n e204 hn202 (tk_p e200 (tk_n e198 hn196 (tk_p e194 (tk_n e192 hn190 (tk_p e188 (tk_p e186 (tk_n e184 hn182 (tk_p e180 (tk_n e178 hn176 (tk_p e174 (tk_n e172 hn170 (tk_p e168 (tk_n e166 hn164 (tk_p e162 (tk_n e160 hn158 (tk_p e156 (tk_n e154 hn152 (tk_p e150 (tk_n e148 hn146 (tk_p e144 (tk_n e142 hn140 (tk_p e138 (tk_n e136 hn134 (tk_p e132 (tk_n e130 hn128 (tk_p e126 (tk_n e124 hn122 (tk_p e120 (tk_n e118 hn116 (tk_p e114 (tk_n e112 hn110 (tk_p e108 (tk_n e106 hn104 (tk_p e102 (tk_n e100 hn98 (tk_p e96 (tk_n e94 hn92 (tk_p e90 (tk_n e88 hn86 (tk_p e84 (tk_n e82 hn80 (tk_p e78 (tk_n e76 hn74 (tk_p e72 (tk_n e70 hn68 (tk_p e66 (tk_n e64 hn62 (tk_p e60 (tk_n e58 hn56 (tk_p e54 ht52))))))))))))))))))))))))))))))))))))))))))))))))))))))))))) fd_174 xc_12 (by decide) rfl hini rfl (xm_nr rfl) dX12_init_248 ?_
  refine x_topS (fun S229 e230 => ?_)
  have h1 := h1 S229 e230
  refine x_aload_n C 0 dX12_init_251 rfl rfl ?_
  refine x_bipush (v := (nI 6)) C dX12_init_252 (by decide) ?_
  obtain ⟨n231, hn232, h1⟩ := h1
  refine x_newa_i (n := n231) (len := 6) C gw_11 (by decide) (by decide) hn232 (Nat.le_of_ble_eq_true rfl) (Nat.le_of_ble_eq_true rfl) dX12_init_254 ?_
  refine x_topS (fun S233 e234 => ?_)
  have h1 := h1 S233 e234
  refine x_putfF_r (n := h) C rfl (tk_n e234 hn232 (tk_p e230 (tk_n e228 hn226 (tk_p e224 (tk_n e222 hn220 (tk_p e218 (tk_n e216 hn214 (tk_p e212 (tk_n e210 hn208 (tk_p e206 (tk_n e204 hn202 (tk_p e200 (tk_n e198 hn196 (tk_p e194 (tk_n e192 hn190 (tk_p e188 (tk_p e186 (tk_n e184 hn182 (tk_p e180 (tk_n e178 hn176 (tk_p e174 (tk_n e172 hn170 (tk_p e168 (tk_n e166 hn164 (tk_p e162 (tk_n e160 hn158 (tk_p e156 (tk_n e154 hn152 (tk_p e150 (tk_n e148 hn146 (tk_p e144 (tk_n e142 hn140 (tk_p e138 (tk_n e136 hn134 (tk_p e132 (tk_n e130 hn128 (tk_p e126 (tk_n e124 hn122 (tk_p e120 (tk_n e118 hn116 (tk_p e114 (tk_n e112 hn110 (tk_p e108 (tk_n e106 hn104 (tk_p e102 (tk_n e100 hn98 (tk_p e96 (tk_n e94 hn92 (tk_p e90 (tk_n e88 hn86 (tk_p e84 (tk_n e82 hn80 (tk_p e78 (tk_n e76 hn74 (tk_p e72 (tk_n e70 hn68 (tk_p e66 (tk_n e64 hn62 (tk_p e60 (tk_n e58 hn56 (tk_p e54 ht52))))))))))))))))))))))))))))))))))))))))))))))))))))))))))))) fd_173 xc_12 (by decide) rfl hini rfl (xm_nr rfl) dX12_init_256 ?_
  refine x_topS (fun S235 e236 => ?_)
  have h1 := h1 S235 e236
  refine x_aload_n C 0 dX12_init_259 rfl rfl ?_
  refine x_bipush (v := (nI 6)) C dX12_init_260 (by decide) ?_
  obtain ⟨n237, hn238, h1⟩ := h1
  refine x_newa_i (n := n237) (len := 6) C gw_11 (by decide) (by decide) hn238 (Nat.le_of_ble_eq_true rfl) (Nat.le_of_ble_eq_true rfl) dX12_init_262 ?_
  refine x_topS (fun S239 e240 => ?_)
  have h1 := h1 S239 e240
  refine x_putfF_r (n := h) C rfl (tk_n e240 hn238 (tk_p e236 (tk_n e234 hn232 (tk_p e230 (tk_n e228 hn226 (tk_p e224 (tk_n e222 hn220 (tk_p e218 (tk_n e216 hn214 (tk_p e212 (tk_n e210 hn208 (tk_p e206 (tk_n e204 hn202 (tk_p e200 (tk_n e198 hn196 (tk_p e194 (tk_n e192 hn190 (tk_p e188 (tk_p e186 (tk_n e184 hn182 (tk_p e180 (tk_n e178 hn176 (tk_p e174 (tk_n e172 hn170 (tk_p e168 (tk_n e166 hn164 (tk_p e162 (tk_n e160 hn158 (tk_p e156 (tk_n e154 hn152 (tk_p e150 (tk_n e148 hn146 (tk_p e144 (tk_n e142 hn140 (tk_p e138 (tk_n e136 hn134 (tk_p e132 (tk_n e130 hn128 (tk_p e126 (tk_n e124 hn122 (tk_p e120 (tk_n e118 hn116 (tk_p e114 (tk_n e112 hn110 (tk_p e108 (tk_n e106 hn104 (tk_p e102 (tk_n e100 hn98 (tk_p e96 (tk_n e94 hn92 (tk_p e90 (tk_n e88 hn86 (tk_p e84 (tk_n e82 hn80 (tk_p e78 (tk_n e76 hn74 (tk_p e72 (tk_n e70 hn68 (tk_p e66 (tk_n e64 hn62 (tk_p e60 (tk_n e58 hn56 (tk_p e54 ht52))))))))))))))))))))))))))))))))))))))))))))))))))))))))))))))) fd_219 xc_12 (by decide) rfl hini rfl (xm_nr rfl) dX12_init_264 ?_
  refine x_topS (fun S241 e242 => ?_)
  have h1 := h1 S241 e242
  refine x_aload_n C 0 dX12_init_267 rfl rfl ?_
  refine x_iconst (v := (1 : Int32)) C dX12_init_268 (by decide) ?_
  refine x_putf_i (n := h) C rfl (tk_p e242 (tk_n e240 hn238 (tk_p e236 (tk_n e234 hn232 (tk_p e230 (tk_n e228 hn226 (tk_p e224 (tk_n e222 hn220 (tk_p e218 (tk_n e216 hn214 (tk_p e212 (tk_n e210 hn208 (tk_p e206 (tk_n e204 hn202 (tk_p e200 (tk_n e198 hn196 (tk_p e194 (tk_n e192 hn190 (tk_p e188 (tk_p e186 (tk_n e184 hn182 (tk_p e180 (tk_n e178 hn176 (tk_p e174 (tk_n e172 hn170 (tk_p e168 (tk_n e166 hn164 (tk_p e162 (tk_n e160 hn158 (tk_p e156 (tk_n e154 hn152 (tk_p e150 (tk_n e148 hn146 (tk_p e144 (tk_n e142 hn140 (tk_p e138 (tk_n e136 hn134 (tk_p e132 (tk_n e130 hn128 (tk_p e126 (tk_n e124 hn122 (tk_p e120 (tk_n e118 hn116 (tk_p e114 (tk_n e112 hn110 (tk_p e108 (tk_n e106 hn104 (tk_p e102 (tk_n e100 hn98 (tk_p e96 (tk_n e94 hn92 (tk_p e90 (tk_n e88 hn86 (tk_p e84 (tk_n e82 hn80 (tk_p e78 (tk_n e76 hn74 (tk_p e72 (tk_n e70 hn68 (tk_p e66 (tk_n e64 hn62 (tk_p e60 (tk_n e58 hn56 (tk_p e54 ht52)))))))))))))))))))))))))))))))))))))))))))))))))))))))))))))))) fd_214 xc_12 (by decide) rfl ⟨rfl, rfl⟩ dX12_init_269 ?_
  refine x_topS (fun S243 e244 => ?_)
  have h1 := h1 S243 e244
  refine x_aload_n C 0 dX12_init_272 rfl rfl ?_
  refine x_iconst (v := (1 : Int32)) C dX12_init_273 (by decide) ?_
  refine x_putf_i (n := h) C rfl (tk_p e244 (tk_p e242 (tk_n e240 hn238 (tk_p e236 (tk_n e234 hn232 (tk_p e230 (tk_n e228 hn226 (tk_p e224 (tk_n e222 hn220 (tk_p e218 (tk_n e216 hn214 (tk_p e212 (tk_n e210 hn208 (tk_p e206 (tk_n e204 hn202 (tk_p e200 (tk_n e198 hn196 (tk_p e194 (tk_n e192 hn190 (tk_p e188 (tk_p e186 (tk_n e184 hn182 (tk_p e180 (tk_n e178 hn176 (tk_p e174 (tk_n e172 hn170 (tk_p e168 (tk_n e166 hn164 (tk_p e162 (tk_n e160 hn158 (tk_p e156 (tk_n e154 hn152 (tk_p e150 (tk_n e148 hn146 (tk_p e144 (tk_n e142 hn140 (tk_p e138 (tk_n e136 hn134 (tk_p e132 (tk_n e130 hn128 (tk_p e126 (tk_n e124 hn122 (tk_p e120 (tk_n e118 hn116 (tk_p e114 (tk_n e112 hn110 (tk_p e108 (tk_n e106 hn104 (tk_p e102 (tk_n e100 hn98 (tk_p e96 (tk_n e94 hn92 (tk_p e90 (tk_n e88 hn86 (tk_p e84 (tk_n e82 hn80 (tk_p e78 (tk_n e76 hn74 (tk_p e72 (tk_n e70 hn68 (tk_p e66 (tk_n e64 hn62 (tk_p e60 (tk_n e58 hn56 (tk_p e54 ht52))))))))))))))))))))))))))))))))))))))))))))))))))))))))))))))))) fd_215 xc_12 (by decide) rfl ⟨rfl, rfl⟩ dX12_init_274 ?_
  refine x_topS (fun S245 e246 => ?_)
  have h1 := h1 S245 e246
  refine x_aload_n C 0 dX12_init_277 rfl rfl ?_
  refine x_bipush (v := (nI 72)) C dX12_init_278 (by decide) ?_
  obtain ⟨n247, hn248, h1⟩ := h1
  refine x_newa_i (n := n247) (len := 72) C gw_11 (by decide) (by decide) hn248 (Nat.le_of_ble_eq_true rfl) (Nat.le_of_ble_eq_true rfl) dX12_init_280 ?_
  refine x_topS (fun S249 e250 => ?_)
  have h1 := h1 S249 e250
  refine x_putfF_r (n := h) C rfl (tk_n e250 hn248 (tk_p e246 (tk_p e244 (tk_p e242 (tk_n e240 hn238 (tk_p e236 (tk_n e234 hn232 (tk_p e230 (tk_n e228 hn226 (tk_p e224 (tk_n e222 hn220 (tk_p e218 (tk_n e216 hn214 (tk_p e212 (tk_n e210 hn208 (tk_p e206 (tk_n e204 hn202 (tk_p e200 (tk_n e198 hn196 (tk_p e194 (tk_n e192 hn190 (tk_p e188 (tk_p e186 (tk_n e184 hn182 (tk_p e180 (tk_n e178 hn176 (tk_p e174 (tk_n e172 hn170 (tk_p e168 (tk_n e166 hn164 (tk_p e162 (tk_n e160 hn158 (tk_p e156 (tk_n e154 hn152 (tk_p e150 (tk_n e148 hn146 (tk_p e144 (tk_n e142 hn140 (tk_p e138 (tk_n e136 hn134 (tk_p e132 (tk_n e130 hn128 (tk_p e126 (tk_n e124 hn122 (tk_p e120 (tk_n e118 hn116 (tk_p e114 (tk_n e112 hn110 (tk_p e108 (tk_n e106 hn104 (tk_p e102 (tk_n e100 hn98 (tk_p e96 (tk_n e94 hn92 (tk_p e90 (tk_n e88 hn86 (tk_p e84 (tk_n e82 hn80 (tk_p e78 (tk_n e76 hn74 (tk_p e72 (tk_n e70 hn68 (tk_p e66 (tk_n e64 hn62 (tk_p e60 (tk_n e58 hn56 (tk_p e54 ht52))))))))))))))))))))))))))))))))))))))))))))))))))))))))))))))))))) fd_204 xc_12 (by decide) rfl hini rfl (xm_nr rfl) dX12_init_282 ?_
  refine x_topS (fun S251 e252 => ?_)
  have h1 := h1 S251 e252
  refine x_aload_n C 0 dX12_init_285 rfl rfl ?_
  refine x_iconst (v := (nI 3)) C dX12_init_286 (by decide) ?_
  obtain ⟨n253, hn254, h1⟩ := h1
  refine x_newa_z (n := n253) (len := 3) C gw_104 (by decide) (by decide) hn254 (Nat.le_of_ble_eq_true rfl) (Nat.le_of_ble_eq_true rfl) dX12_init_287 ?_
  refine x_topS (fun S255 e256 => ?_)
  have h1 := h1 S255 e256
  refine x_putfF_r (n := h) C rfl (tk_n e256 hn254 (tk_p e252 (tk_n e250 hn248 (tk_p e246 (tk_p e244 (tk_p e242 (tk_n e240 hn238 (tk_p e236 (tk_n e234 hn232 (tk_p e230 (tk_n e228 hn226 (tk_p e224 (tk_n e222 hn220 (tk_p e218 (tk_n e216 hn214 (tk_p e212 (tk_n e210 hn208 (tk_p e206 (tk_n e204 hn202 (tk_p e200 (tk_n e198 hn196 (tk_p e194 (tk_n e192 hn190 (tk_p e188 (tk_p e186 (tk_n e184 hn182 (tk_p e180 (tk_n e178 hn176 (tk_p e174 (tk_n e172 hn170 (tk_p e168 (tk_n e166 hn164 (tk_p e162 (tk_n e160 hn158 (tk_p e156 (tk_n e154 hn152 (tk_p e150 (tk_n e148 hn146 (tk_p e144 (tk_n e142 hn140 (tk_p e138 (tk_n e136 hn134 (tk_p e132 (tk_n e130 hn128 (tk_p e126 (tk_n e124 hn122 (tk_p e120 (tk_n e118 hn116 (tk_p e114 (tk_n e112 hn110 (tk_p e108 (tk_n e106 hn104 (tk_p e102 (tk_n e100 hn98 (tk_p e96 (tk_n e94 hn92 (tk_p e90 (tk_n e88 hn86 (tk_p e84 (tk_n e82 hn80 (tk_p e78 (tk_n e76 hn74 (tk_p e72 (tk_n e70 hn68 (tk_p e66 (tk_n e64 hn62 (tk_p e60 (tk_n e58 hn56 (tk_p e54 ht52))))))))))))))))))))))))))))))))))))))))))))))))))))))))))))))))))))) fd_206 xc_12 (by decide) rfl hini rfl (xm_nr rfl) dX12_init_289 ?_
  refine x_topS (fun S257 e258 => ?_)
  have h1 := h1 S257 e258
  refine x_aload_n C 0 dX12_init_292 rfl rfl ?_
  refine x_bipush (v := (nI 24)) C dX12_init_293 (by decide) ?_
  obtain ⟨n259, hn260, h1⟩ := h1
  refine x_newa_z (n := n259) (len := 24) C gw_104 (by decide) (by decide) hn260 (Nat.le_of_ble_eq_true rfl) (Nat.le_of_ble_eq_true rfl) dX12_init_295 ?_
  refine x_topS (fun S261 e262 => ?_)
  have h1 := h1 S261 e262
  refine x_putfF_r (n := h) C rfl (tk_n e262 hn260 (tk_p e258 (tk_n e256 hn254 (tk_p e252 (tk_n e250 hn248 (tk_p e246 (tk_p e244 (tk_p e242 (tk_n e240 hn238 (tk_p e236 (tk_n e234 hn232 (tk_p e230 (tk_n e228 hn226 (tk_p e224 (tk_n e222 hn220 (tk_p e218 (tk_n e216 hn214 (tk_p e212 (tk_n e210 hn208 (tk_p e206 (tk_n e204 hn202 (tk_p e200 (tk_n e198 hn196 (tk_p e194 (tk_n e192 hn190 (tk_p e188 (tk_p e186 (tk_n e184 hn182 (tk_p e180 (tk_n e178 hn176 (tk_p e174 (tk_n e172 hn170 (tk_p e168 (tk_n e166 hn164 (tk_p e162 (tk_n e160 hn158 (tk_p e156 (tk_n e154 hn152 (tk_p e150 (tk_n e148 hn146 (tk_p e144 (tk_n e142 hn140 (tk_p e138 (tk_n e136 hn134 (tk_p e132 (tk_n e130 hn128 (tk_p e126 (tk_n e124 hn122 (tk_p e120 (tk_n e118 hn116 (tk_p e114 (tk_n e112 hn110 (tk_p e108 (tk_n e106 hn104 (tk_p e102 (tk_n e100 hn98 (tk_p e96 (tk_n e94 hn92 (tk_p e90 (tk_n e88 hn86 (tk_p e84 (tk_n e82 hn80 (tk_p e78 (tk_n e76 hn74 (tk_p e72 (tk_n e70 hn68 (tk_p e66 (tk_n e64 hn62 (tk_p e60 (tk_n e58 hn56 (tk_p e54 ht52))))))))))))))))))))))))))))))))))))))))))))))))))))))))))))))))))))))) fd_208 xc_12 (by decide) rfl hini rfl (xm_nr rfl) dX12_init_297 ?_
  refine x_topS (fun S263 e264 => ?_)
  have h1 := h1 S263 e264
  refine x_aload_n C 0 dX12_init_300 rfl rfl ?_
  refine x_iconst (v := (nI 3)) C dX12_init_301 (by decide) ?_
  obtain ⟨n265, hn266, h1⟩ := h1
  refine x_newa_i (n := n265) (len := 3) C gw_11 (by decide) (by decide) hn266 (Nat.le_of_ble_eq_true rfl) (Nat.le_of_ble_eq_true rfl) dX12_init_302 ?_
  refine x_topS (fun S267 e268 => ?_)
  have h1 := h1 S267 e268
  refine x_putfF_r (n := h) C rfl (tk_n e268 hn266 (tk_p e264 (tk_n e262 hn260 (tk_p e258 (tk_n e256 hn254 (tk_p e252 (tk_n e250 hn248 (tk_p e246 (tk_p e244 (tk_p e242 (tk_n e240 hn238 (tk_p e236 (tk_n e234 hn232 (tk_p e230 (tk_n e228 hn226 (tk_p e224 (tk_n e222 hn220 (tk_p e218 (tk_n e216 hn214 (tk_p e212 (tk_n e210 hn208 (tk_p e206 (tk_n e204 hn202 (tk_p e200 (tk_n e198 hn196 (tk_p e194 (tk_n e192 hn190 (tk_p e188 (tk_p e186 (tk_n e184 hn182 (tk_p e180 (tk_n e178 hn176 (tk_p e174 (tk_n e172 hn170 (tk_p e168 (tk_n e166 hn164 (tk_p e162 (tk_n e160 hn158 (tk_p e156 (tk_n e154 hn152 (tk_p e150 (tk_n e148 hn146 (tk_p e144 (tk_n e142 hn140 (tk_p e138 (tk_n e136 hn134 (tk_p e132 (tk_n e130 hn128 (tk_p e126 (tk_n e124 hn122 (tk_p e120 (tk_n e118 hn116 (tk_p e114 (tk_n e112 hn110 (tk_p e108 (tk_n e106 hn104 (tk_p e102 (tk_n e100 hn98 (tk_p e96 (tk_n e94 hn92 (tk_p e90 (tk_n e88 hn86 (tk_p e84 (tk_n e82 hn80 (tk_p e78 (tk_n e76 hn74 (tk_p e72 (tk_n e70 hn68 (tk_p e66 (tk_n e64 hn62 (tk_p e60 (tk_n e58 hn56 (tk_p e54 ht52))))))))))))))))))))))))))))))))))))))))))))))))))))))))))))))))))))))))) fd_207 xc_12 (by decide) rfl hini rfl (xm_nr rfl) dX12_init_304 ?_
  refine x_topS (fun S269 e270 => ?_)
  have h1 := h1 S269 e270
  refine x_aload_n C 0 dX12_init_307 rfl rfl ?_
  refine x_bipush (v := (nI 24)) C dX12_init_308 (by decide) ?_
  obtain ⟨n271, hn272, h1⟩ := h1
  refine x_newa_i (n := n271) (len := 24) C gw_11 (by decide) (by decide) hn272 (Nat.le_of_ble_eq_true rfl) (Nat.le_of_ble_eq_true rfl) dX12_init_310 ?_
  refine x_topS (fun S273 e274 => ?_)
  have h1 := h1 S273 e274
  refine x_putfF_r (n := h) C rfl (tk_n e274 hn272 (tk_p e270 (tk_n e268 hn266 (tk_p e264 (tk_n e262 hn260 (tk_p e258 (tk_n e256 hn254 (tk_p e252 (tk_n e250 hn248 (tk_p e246 (tk_p e244 (tk_p e242 (tk_n e240 hn238 (tk_p e236 (tk_n e234 hn232 (tk_p e230 (tk_n e228 hn226 (tk_p e224 (tk_n e222 hn220 (tk_p e218 (tk_n e216 hn214 (tk_p e212 (tk_n e210 hn208 (tk_p e206 (tk_n e204 hn202 (tk_p e200 (tk_n e198 hn196 (tk_p e194 (tk_n e192 hn190 (tk_p e188 (tk_p e186 (tk_n e184 hn182 (tk_p e180 (tk_n e178 hn176 (tk_p e174 (tk_n e172 hn170 (tk_p e168 (tk_n e166 hn164 (tk_p e162 (tk_n e160 hn158 (tk_p e156 (tk_n e154 hn152 (tk_p e150 (tk_n e148 hn146 (tk_p e144 (tk_n e142 hn140 (tk_p e138 (tk_n e136 hn134 (tk_p e132 (tk_n e130 hn128 (tk_p e126 (tk_n e124 hn122 (tk_p e120 (tk_n e118 hn116 (tk_p e114 (tk_n e112 hn110 (tk_p e108 (tk_n e106 hn104 (tk_p e102 (tk_n e100 hn98 (tk_p e96 (tk_n e94 hn92 (tk_p e90 (tk_n e88 hn86 (tk_p e84 (tk_n e82 hn80 (tk_p e78 (tk_n e76 hn74 (tk_p e72 (tk_n e70 hn68 (tk_p e66 (tk_n e64 hn62 (tk_p e60 (tk_n e58 hn56 (tk_p e54 ht52))))))))))))))))))))))))))))))))))))))))))))))))))))))))))))))))))))))))))) fd_209 xc_12 (by decide) rfl hini rfl (xm_nr rfl) dX12_init_312 ?_
  refine x_topS (fun S275 e276 => ?_)
  have h1 := h1 S275 e276
  refine x_aload_n C 0 dX12_init_315 rfl rfl ?_
  refine x_bipush (v := (nI 72)) C dX12_init_316 (by decide) ?_
  obtain ⟨n277, hn278, h1⟩ := h1
  refine x_newa_i (n := n277) (len := 72) C gw_11 (by decide) (by decide) hn278 (Nat.le_of_ble_eq_true rfl) (Nat.le_of_ble_eq_true rfl) dX12_init_318 ?_
  refine x_topS (fun S279 e280 => ?_)
  have h1 := h1 S279 e280
  refine x_putfF_r (n := h) C rfl (tk_n e280 hn278 (tk_p e276 (tk_n e274 hn272 (tk_p e270 (tk_n e268 hn266 (tk_p e264 (tk_n e262 hn260 (tk_p e258 (tk_n e256 hn254 (tk_p e252 (tk_n e250 hn248 (tk_p e246 (tk_p e244 (tk_p e242 (tk_n e240 hn238 (tk_p e236 (tk_n e234 hn232 (tk_p e230 (tk_n e228 hn226 (tk_p e224 (tk_n e222 hn220 (tk_p e218 (tk_n e216 hn214 (tk_p e212 (tk_n e210 hn208 (tk_p e206 (tk_n e204 hn202 (tk_p e200 (tk_n e198 hn196 (tk_p e194 (tk_n e192 hn190 (tk_p e188 (tk_p e186 (tk_n e184 hn182 (tk_p e180 (tk_n e178 hn176 (tk_p e174 (tk_n e172 hn170 (tk_p e168 (tk_n e166 hn164 (tk_p e162 (tk_n e160 hn158 (tk_p e156 (tk_n e154 hn152 (tk_p e150 (tk_n e148 hn146 (tk_p e144 (tk_n e142 hn140 (tk_p e138 (tk_n e136 hn134 (tk_p e132 (tk_n e130 hn128 (tk_p e126 (tk_n e124 hn122 (tk_p e120 (tk_n e118 hn116 (tk_p e114 (tk_n e112 hn110 (tk_p e108 (tk_n e106 hn104 (tk_p e102 (tk_n e100 hn98 (tk_p e96 (tk_n e94 hn92 (tk_p e90 (tk_n e88 hn86 (tk_p e84 (tk_n e82 hn80 (tk_p e78 (tk_n e76 hn74 (tk_p e72 (tk_n e70 hn68 (tk_p e66 (tk_n e64 hn62 (tk_p e60 (tk_n e58 hn56 (tk_p e54 ht52))))))))))))))))))))))))))))))))))))))))))))))))))))))))))))))))))))))))))))) fd_210 xc_12 (by decide) rfl hini rfl (xm_nr rfl) dX12_init_320 ?_
  refine x_topS (fun S281 e282 => ?_)
  have h1 := h1 S281 e282
  refine x_aload_n C 0 dX12_init_323 rfl rfl ?_
  refine x_bipush (v := (nI 72)) C dX12_init_324 (by decide) ?_
  obtain ⟨n283, hn284, h1⟩ := h1
  refine x_newa_i (n := n283) (len := 72) C gw_11 (by decide) (by decide) hn284 (Nat.le_of_ble_eq_true rfl) (Nat.le_of_ble_eq_true rfl) dX12_init_326 ?_
  refine x_topS (fun S285 e286 => ?_)
  have h1 := h1 S285 e286
  refine x_putfF_r (n := h) C rfl (tk_n e286 hn284 (tk_p e282 (tk_n e280 hn278 (tk_p e276 (tk_n e274 hn272 (tk_p e270 (tk_n e268 hn266 (tk_p e264 (tk_n e262 hn260 (tk_p e258 (tk_n e256 hn254 (tk_p e252 (tk_n e250 hn248 (tk_p e246 (tk_p e244 (tk_p e242 (tk_n e240 hn238 (tk_p e236 (tk_n e234 hn232 (tk_p e230 (tk_n e228 hn226 (tk_p e224 (tk_n e222 hn220 (tk_p e218 (tk_n e216 hn214 (tk_p e212 (tk_n e210 hn208 (tk_p e206 (tk_n e204 hn202 (tk_p e200 (tk_n e198 hn196 (tk_p e194 (tk_n e192 hn190 (tk_p e188 (tk_p e186 (tk_n e184 hn182 (tk_p e180 (tk_n e178 hn176 (tk_p e174 (tk_n e172 hn170 (tk_p e168 (tk_n e166 hn164 (tk_p e162 (tk_n e160 hn158 (tk_p e156 (tk_n e154 hn152 (tk_p e150 (tk_n e148 hn146 (tk_p e144 (tk_n e142 hn140 (tk_p e138 (tk_n e136 hn134 (tk_p e132 (tk_n e130 hn128 (tk_p e126 (tk_n e124 hn122 (tk_p e120 (tk_n e118 hn116 (tk_p e114 (tk_n e112 hn110 (tk_p e108 (tk_n e106 hn104 (tk_p e102 (tk_n e100 hn98 (tk_p e96 (tk_n e94 hn92 (tk_p e90 (tk_n e88 hn86 (tk_p e84 (tk_n e82 hn80 (tk_p e78 (tk_n e76 hn74 (tk_p e72 (tk_n e70 hn68 (tk_p e66 (tk_n e64 hn62 (tk_p e60 (tk_n e58 hn56 (tk_p e54 ht52))))))))))))))))))))))))))))))))))))))))))))))))))))))))))))))))))))))))))))))) fd_211 xc_12 (by decide) rfl hini rfl (xm_nr rfl) dX12_init_328 ?_
  refine x_topS (fun S287 e288 => ?_)
  have h1 := h1 S287 e288
  refine x_aload_n C 0 dX12_init_331 rfl rfl ?_
  refine x_bipush (v := (nI 72)) C dX12_init_332 (by decide) ?_
  obtain ⟨n289, hn290, h1⟩ := h1
  refine x_newa_z (n := n289) (len := 72) C gw_104 (by decide) (by decide) hn290 (Nat.le_of_ble_eq_true rfl) (Nat.le_of_ble_eq_true rfl) dX12_init_334 ?_
  refine x_topS (fun S291 e292 => ?_)
  have h1 := h1 S291 e292
  refine x_putfF_r (n := h) C rfl (tk_n e292 hn290 (tk_p e288 (tk_n e286 hn284 (tk_p e282 (tk_n e280 hn278 (tk_p e276 (tk_n e274 hn272 (tk_p e270 (tk_n e268 hn266 (tk_p e264 (tk_n e262 hn260 (tk_p e258 (tk_n e256 hn254 (tk_p e252 (tk_n e250 hn248 (tk_p e246 (tk_p e244 (tk_p e242 (tk_n e240 hn238 (tk_p e236 (tk_n e234 hn232 (tk_p e230 (tk_n e228 hn226 (tk_p e224 (tk_n e222 hn220 (tk_p e218 (tk_n e216 hn214 (tk_p e212 (tk_n e210 hn208 (tk_p e206 (tk_n e204 hn202 (tk_p e200 (tk_n e198 hn196 (tk_p e194 (tk_n e192 hn190 (tk_p e188 (tk_p e186 (tk_n e184 hn182 (tk_p e180 (tk_n e178 hn176 (tk_p e174 (tk_n e172 hn170 (tk_p e168 (tk_n e166 hn164 (tk_p e162 (tk_n e160 hn158 (tk_p e156 (tk_n e154 hn152 (tk_p e150 (tk_n e148 hn146 (tk_p e144 (tk_n e142 hn140 (tk_p e138 (tk_n e136 hn134 (tk_p e132 (tk_n e130 hn128 (tk_p e126 (tk_n e124 hn122 (tk_p e120 (tk_n e118 hn116 (tk_p e114 (tk_n e112 hn110 (tk_p e108 (tk_n e106 hn104 (tk_p e102 (tk_n e100 hn98 (tk_p e96 (tk_n e94 hn92 (tk_p e90 (tk_n e88 hn86 (tk_p e84 (tk_n e82 hn80 (tk_p e78 (tk_n e76 hn74 (tk_p e72 (tk_n e70 hn68 (tk_p e66 (tk_n e64 hn62 (tk_p e60 (tk_n e58 hn56 (tk_p e54 ht52))))))))))))))))))))))))))))))))))))))))))))))))))))))))))))))))))))))))))))))))) fd_212 xc_12 (by decide) rfl hini rfl (xm_nr rfl) dX12_init_336 ?_
  refine x_topS (fun S293 e294 => ?_)
  have h1 := h1 S293 e294
  refine x_aload_n C 0 dX12_init_339 rfl rfl ?_
  refine x_bipush (v := (nI 16)) C dX12_init_340 (by decide) ?_
  obtain ⟨n295, hn296, h1⟩ := h1
  refine x_newa_i (n := n295) (len := 16) C gw_11 (by decide) (by decide) hn296 (Nat.le_of_ble_eq_true rfl) (Nat.le_of_ble_eq_true rfl) dX12_init_342 ?_
  refine x_topS (fun S297 e298 => ?_)
  have h1 := h1 S297 e298
  refine x_putfF_r (n := h) C rfl (tk_n e298 hn296 (tk_p e294 (tk_n e292 hn290 (tk_p e288 (tk_n e286 hn284 (tk_p e282 (tk_n e280 hn278 (tk_p e276 (tk_n e274 hn272 (tk_p e270 (tk_n e268 hn266 (tk_p e264 (tk_n e262 hn260 (tk_p e258 (tk_n e256 hn254 (tk_p e252 (tk_n e250 hn248 (tk_p e246 (tk_p e244 (tk_p e242 (tk_n e240 hn238 (tk_p e236 (tk_n e234 hn232 (tk_p e230 (tk_n e228 hn226 (tk_p e224 (tk_n e222 hn220 (tk_p e218 (tk_n e216 hn214 (tk_p e212 (tk_n e210 hn208 (tk_p e206 (tk_n e204 hn202 (tk_p e200 (tk_n e198 hn196 (tk_p e194 (tk_n e192 hn190 (tk_p e188 (tk_p e186 (tk_n e184 hn182 (tk_p e180 (tk_n e178 hn176 (tk_p e174 (tk_n e172 hn170 (tk_p e168 (tk_n e166 hn164 (tk_p e162 (tk_n e160 hn158 (tk_p e156 (tk_n e154 hn152 (tk_p e150 (tk_n e148 hn146 (tk_p e144 (tk_n e142 hn140 (tk_p e138 (tk_n e136 hn134 (tk_p e132 (tk_n e130 hn128 (tk_p e126 (tk_n e124 hn122 (tk_p e120 (tk_n e118 hn116 (tk_p e114 (tk_n e112 hn110 (tk_p e108 (tk_n e106 hn104 (tk_p e102 (tk_n e100 hn98 (tk_p e96 (tk_n e94 hn92 (tk_p e90 (tk_n e88 hn86 (tk_p e84 (tk_n e82 hn80 (tk_p e78 (tk_n e76 hn74 (tk_p e72 (tk_n e70 hn68 (tk_p e66 (tk_n e64 hn62 (tk_p e60 (tk_n e58 hn56 (tk_p e54 ht52))))))))))))))))))))))))))))))))))))))))))))))))))))))))))))))))))))))))))))))))))) fd_201 xc_12 (by decide) rfl hini rfl (xm_nr rfl) dX12_init_344 ?_
  refine x_topS (fun S299 e300 => ?_)
  have h1 := h1 S299 e300
  refine x_aload_n C 0 dX12_init_347 rfl rfl ?_
  refine x_bipush (v := (nI 16)) C dX12_init_348 (by decide) ?_
  obtain ⟨n301, hn302, h1⟩ := h1
  refine x_newa_i (n := n301) (len := 16) C gw_11 (by decide) (by decide) hn302 (Nat.le_of_ble_eq_true rfl) (Nat.le_of_ble_eq_true rfl) dX12_init_350 ?_
  refine x_topS (fun S303 e304 => ?_)
  have h1 := h1 S303 e304
  refine x_putfF_r (n := h) C rfl (tk_n e304 hn302 (tk_p e300 (tk_n e298 hn296 (tk_p e294 (tk_n e292 hn290 (tk_p e288 (tk_n e286 hn284 (tk_p e282 (tk_n e280 hn278 (tk_p e276 (tk_n e274 hn272 (tk_p e270 (tk_n e268 hn266 (tk_p e264 (tk_n e262 hn260 (tk_p e258 (tk_n e256 hn254 (tk_p e252 (tk_n e250 hn248 (tk_p e246 (tk_p e244 (tk_p e242 (tk_n e240 hn238 (tk_p e236 (tk_n e234 hn232 (tk_p e230 (tk_n e228 hn226 (tk_p e224 (tk_n e222 hn220 (tk_p e218 (tk_n e216 hn214 (tk_p e212 (tk_n e210 hn208 (tk_p e206 (tk_n e204 hn202 (tk_p e200 (tk_n e198 hn196 (tk_p e194 (tk_n e192 hn190 (tk_p e188 (tk_p e186 (tk_n e184 hn182 (tk_p e180 (tk_n e178 hn176 (tk_p e174 (tk_n e172 hn170 (tk_p e168 (tk_n e166 hn164 (tk_p e162 (tk_n e160 hn158 (tk_p e156 (tk_n e154 hn152 (tk_p e150 (tk_n e148 hn146 (tk_p e144 (tk_n e142 hn140 (tk_p e138 (tk_n e136 hn134 (tk_p e132 (tk_n e130 hn128 (tk_p e126 (tk_n e124 hn122 (tk_p e120 (tk_n e118 hn116 (tk_p e114 (tk_n e112 hn110 (tk_p e108 (tk_n e106 hn104 (tk_p e102 (tk_n e100 hn98 (tk_p e96 (tk_n e94 hn92 (tk_p e90 (tk_n e88 hn86 (tk_p e84 (tk_n e82 hn80 (tk_p e78 (tk_n e76 hn74 (tk_p e72 (tk_n e70 hn68 (tk_p e66 (tk_n e64 hn62 (tk_p e60 (tk_n e58 hn56 (tk_p e54 ht52))))))))))))))))))))))))))))))))))))))))))))))))))))))))))))))))))))))))))))))))))))) fd_202 xc_12 (by decide) rfl hini rfl (xm_nr rfl) dX12_init_352 ?_
  refine x_topS (fun S305 e306 => ?_)
  have h1 := h1 S305 e306
  refine x_aload_n C 0 dX12_init_355 rfl rfl ?_
  refine x_bipush (v := (nI 54)) C dX12_init_356 (by decide) ?_
  obtain ⟨n307, hn308, h1⟩ := h1
  refine x_newa_i (n := n307) (len := 54) C gw_11 (by decide) (by decide) hn308 (Nat.le_of_ble_eq_true rfl) (Nat.le_of_ble_eq_true rfl) dX12_init_358 ?_
  refine x_topS (fun S309 e310 => ?_)
  have h1 := h1 S309 e310
  refine x_putfF_r (n := h) C rfl (tk_n e310 hn308 (tk_p e306 (tk_n e304 hn302 (tk_p e300 (tk_n e298 hn296 (tk_p e294 (tk_n e292 hn290 (tk_p e288 (tk_n e286 hn284 (tk_p e282 (tk_n e280 hn278 (tk_p e276 (tk_n e274 hn272 (tk_p e270 (tk_n e268 hn266 (tk_p e264 (tk_n e262 hn260 (tk_p e258 (tk_n e256 hn254 (tk_p e252 (tk_n e250 hn248 (tk_p e246 (tk_p e244 (tk_p e242 (tk_n e240 hn238 (tk_p e236 (tk_n e234 hn232 (tk_p e230 (tk_n e228 hn226 (tk_p e224 (tk_n e222 hn220 (tk_p e218 (tk_n e216 hn214 (tk_p e212 (tk_n e210 hn208 (tk_p e206 (tk_n e204 hn202 (tk_p e200 (tk_n e198 hn196 (tk_p e194 (tk_n e192 hn190 (tk_p e188 (tk_p e186 (tk_n e184 hn182 (tk_p e180 (tk_n e178 hn176 (tk_p e174 (tk_n e172 hn170 (tk_p e168 (tk_n e166 hn164 (tk_p e162 (tk_n e160 hn158 (tk_p e156 (tk_n e154 hn152 (tk_p e150 (tk_n e148 hn146 (tk_p e144 (tk_n e142 hn140 (tk_p e138 (tk_n e136 hn134 (tk_p e132 (tk_n e130 hn128 (tk_p e126 (tk_n e124 hn122 (tk_p e120 (tk_n e118 hn116 (tk_p e114 (tk_n e112 hn110 (tk_p e108 (tk_n e106 hn104 (tk_p e102 (tk_n e100 hn98 (tk_p e96 (tk_n e94 hn92 (tk_p e90 (tk_n e88 hn86 (tk_p e84 (tk_n e82 hn80 (tk_p e78 (tk_n e76 hn74 (tk_p e72 (tk_n e70 hn68 (tk_p e66 (tk_n e64 hn62 (tk_p e60 (tk_n e58 hn56 (tk_p e54 ht52))))))))))))))))))))))))))))))))))))))))))))))))))))))))))))))))))))))))))))))))))))))) fd_203 xc_12 (by decide) rfl hini rfl (xm_nr rfl) dX12_init_360 ?_
  refine x_topS (fun S311 e312 => ?_)
  have h1 := h1 S311 e312
  refine x_aload_n C 0 dX12_init_363 rfl rfl ?_
  refine x_bipush (v := (nI 16)) C dX12_init_364 (by decide) ?_
  obtain ⟨n313, hn314, h1⟩ := h1
  refine x_newa_i (n := n313) (len := 16) C gw_11 (by decide) (by decide) hn314 (Nat.le_of_ble_eq_true rfl) (Nat.le_of_ble_eq_true rfl) dX12_init_366 ?_
  refine x_topS (fun S315 e316 => ?_)
  have h1 := h1 S315 e316
  refine x_putfF_r (n := h) C rfl (tk_n e316 hn314 (tk_p e312 (tk_n e310 hn308 (tk_p e306 (tk_n e304 hn302 (tk_p e300 (tk_n e298 hn296 (tk_p e294 (tk_n e292 hn290 (tk_p e288 (tk_n e286 hn284 (tk_p e282 (tk_n e280 hn278 (tk_p e276 (tk_n e274 hn272 (tk_p e270 (tk_n e268 hn266 (tk_p e264 (tk_n e262 hn260 (tk_p e258 (tk_n e256 hn254 (tk_p e252 (tk_n e250 hn248 (tk_p e246 (tk_p e244 (tk_p e242 (tk_n e240 hn238 (tk_p e236 (tk_n e234 hn232 (tk_p e230 (tk_n e228 hn226 (tk_p e224 (tk_n e222 hn220 (tk_p e218 (tk_n e216 hn214 (tk_p e212 (tk_n e210 hn208 (tk_p e206 (tk_n e204 hn202 (tk_p e200 (tk_n e198 hn196 (tk_p e194 (tk_n e192 hn190 (tk_p e188 (tk_p e186 (tk_n e184 hn182 (tk_p e180 (tk_n e178 hn176 (tk_p e174 (tk_n e172 hn170 (tk_p e168 (tk_n e166 hn164 (tk_p e162 (tk_n e160 hn158 (tk_p e156 (tk_n e154 hn152 (tk_p e150 (tk_n e148 hn146 (tk_p e144 (tk_n e142 hn140 (tk_p e138 (tk_n e136 hn134 (tk_p e132 (tk_n e130 hn128 (tk_p e126 (tk_n e124 hn122 (tk_p e120 (tk_n e118 hn116 (tk_p e114 (tk_n e112 hn110 (tk_p e108 (tk_n e106 hn104 (tk_p e102 (tk_n e100 hn98 (tk_p e96 (tk_n e94 hn92 (tk_p e90 (tk_n e88 hn86 (tk_p e84 (tk_n e82 hn80 (tk_p e78 (tk_n e76 hn74 (tk_p e72 (tk_n e70 hn68 (tk_p e66 (tk_n e64 hn62 (tk_p e60 (tk_n e58 hn56 (tk_p e54 ht52))))))))))))))))))))))))))))))))))))))))))))))))))))))))))))))))))))))))))))))))))))))))) fd_220 xc_12 (by decide) rfl hini rfl (xm_nr rfl) dX12_init_368 ?_
  refine x_topS (fun S317 e318 => ?_)
  have h1 := h1 S317 e318
  refine x_aload_n C 0 dX12_init_371 rfl rfl ?_
  refine x_iconst (v := (-1 : Int32)) C dX12_init_372 (by decide) ?_
  refine x_putf_i (n := h) C rfl (tk_p e318 (tk_n e316 hn314 (tk_p e312 (tk_n e310 hn308 (tk_p e306 (tk_n e304 hn302 (tk_p e300 (tk_n e298 hn296 (tk_p e294 (tk_n e292 hn290 (tk_p e288 (tk_n e286 hn284 (tk_p e282 (tk_n e280 hn278 (tk_p e276 (tk_n e274 hn272 (tk_p e270 (tk_n e268 hn266 (tk_p e264 (tk_n e262 hn260 (tk_p e258 (tk_n e256 hn254 (tk_p e252 (tk_n e250 hn248 (tk_p e246 (tk_p e244 (tk_p e242 (tk_n e240 hn238 (tk_p e236 (tk_n e234 hn232 (tk_p e230 (tk_n e228 hn226 (tk_p e224 (tk_n e222 hn220 (tk_p e218 (tk_n e216 hn214 (tk_p e212 (tk_n e210 hn208 (tk_p e206 (tk_n e204 hn202 (tk_p e200 (tk_n e198 hn196 (tk_p e194 (tk_n e192 hn190 (tk_p e188 (tk_p e186 (tk_n e184 hn182 (tk_p e180 (tk_n e178 hn176 (tk_p e174 (tk_n e172 hn170 (tk_p e168 (tk_n e166 hn164 (tk_p e162 (tk_n e160 hn158 (tk_p e156 (tk_n e154 hn152 (tk_p e150 (tk_n e148 hn146 (tk_p e144 (tk_n e142 hn140 (tk_p e138 (tk_n e136 hn134 (tk_p e132 (tk_n e130 hn128 (tk_p e126 (tk_n e124 hn122 (tk_p e120 (tk_n e118 hn116 (tk_p e114 (tk_n e112 hn110 (tk_p e108 (tk_n e106 hn104 (tk_p e102 (tk_n e100 hn98 (tk_p e96 (tk_n e94 hn92 (tk_p e90 (tk_n e88 hn86 (tk_p e84 (tk_n e82 hn80 (tk_p e78 (tk_n e76 hn74 (tk_p e72 (tk_n e70 hn68 (tk_p e66 (tk_n e64 hn62 (tk_p e60 (tk_n e58 hn56 (tk_p e54 ht52)))))))))))))))))))))))))))))))))))))))))))))))))))))))))))))))))))))))))))))))))))))))))) fd_200 xc_12 (by decide) rfl ⟨rfl, rfl⟩ dX12_init_373 ?_
  refine x_topS (fun S319 e320 => ?_)
  have h1 := h1 S319 e320
  refine x_aload_n C 0 dX12_init_376 rfl rfl ?_
  refine x_bipush (v := (nI 7)) C dX12_init_377 (by decide) ?_
  obtain ⟨n321, hn322, h1⟩ := h1
  refine x_newa_i (n := n321) (len := 7) C gw_11 (by decide) (by decide) hn322 (Nat.le_of_ble_eq_true rfl) (Nat.le_of_ble_eq_true rfl) dX12_init_379 ?_
  refine x_topS (fun S323 e324 => ?_)
  have h1 := h1 S323 e324
  refine x_putfF_r (n := h) C rfl (tk_n e324 hn322 (tk_p e320 (tk_p e318 (tk_n e316 hn314 (tk_p e312 (tk_n e310 hn308 (tk_p e306 (tk_n e304 hn302 (tk_p e300 (tk_n e298 hn296 (tk_p e294 (tk_n e292 hn290 (tk_p e288 (tk_n e286 hn284 (tk_p e282 (tk_n e280 hn278 (tk_p e276 (tk_n e274 hn272 (tk_p e270 (tk_n e268 hn266 (tk_p e264 (tk_n e262 hn260 (tk_p e258 (tk_n e256 hn254 (tk_p e252 (tk_n e250 hn248 (tk_p e246 (tk_p e244 (tk_p e242 (tk_n e240 hn238 (tk_p e236 (tk_n e234 hn232 (tk_p e230 (tk_n e228 hn226 (tk_p e224 (tk_n e222 hn220 (tk_p e218 (tk_n e216 hn214 (tk_p e212 (tk_n e210 hn208 (tk_p e206 (tk_n e204 hn202 (tk_p e200 (tk_n e198 hn196 (tk_p e194 (tk_n e192 hn190 (tk_p e188 (tk_p e186 (tk_n e184 hn182 (tk_p e180 (tk_n e178 hn176 (tk_p e174 (tk_n e172 hn170 (tk_p e168 (tk_n e166 hn164 (tk_p e162 (tk_n e160 hn158 (tk_p e156 (tk_n e154 hn152 (tk_p e150 (tk_n e148 hn146 (tk_p e144 (tk_n e142 hn140 (tk_p e138 (tk_n e136 hn134 (tk_p e132 (tk_n e130 hn128 (tk_p e126 (tk_n e124 hn122 (tk_p e120 (tk_n e118 hn116 (tk_p e114 (tk_n e112 hn110 (tk_p e108 (tk_n e106 hn104 (tk_p e102 (tk_n e100 hn98 (tk_p e96 (tk_n e94 hn92 (tk_p e90 (tk_n e88 hn86 (tk_p e84 (tk_n e82 hn80 (tk_p e78 (tk_n e76 hn74 (tk_p e72 (tk_n e70 hn68 (tk_p e66 (tk_n e64 hn62 (tk_p e60 (tk_n e58 hn56 (tk_p e54 ht52)))))))))))))))))))))))))))))))))))))))))))))))))))))))))))))))))))))))))))))))))))))))))))) fd_198 xc_12 (by decide) rfl hini rfl (xm_nr rfl) dX12_init_381 ?_
  refine x_topS (fun S325 e326 => ?_)
  have h1 := h1 S325 e326
  refine x_aload_n C 0 dX12_init_384 rfl rfl ?_
  refine x_bipush (v := (nI 7)) C dX12_init_385 (by decide) ?_
  obtain ⟨n327, hn328, h1⟩ := h1
  refine x_newa_z (n := n327) (len := 7) C gw_104 (by decide) (by decide) hn328 (Nat.le_of_ble_eq_true rfl) (Nat.le_of_ble_eq_true rfl) dX12_init_387 ?_
  refine x_topS (fun S329 e330 => ?_)
  have h1 := h1 S329 e330
  refine x_putfF_r (n := h) C rfl (tk_n e330 hn328 (tk_p e326 (tk_n e324 hn322 (tk_p e320 (tk_p e318 (tk_n e316 hn314 (tk_p e312 (tk_n e310 hn308 (tk_p e306 (tk_n e304 hn302 (tk_p e300 (tk_n e298 hn296 (tk_p e294 (tk_n e292 hn290 (tk_p e288 (tk_n e286 hn284 (tk_p e282 (tk_n e280 hn278 (tk_p e276 (tk_n e274 hn272 (tk_p e270 (tk_n e268 hn266 (tk_p e264 (tk_n e262 hn260 (tk_p e258 (tk_n e256 hn254 (tk_p e252 (tk_n e250 hn248 (tk_p e246 (tk_p e244 (tk_p e242 (tk_n e240 hn238 (tk_p e236 (tk_n e234 hn232 (tk_p e230 (tk_n e228 hn226 (tk_p e224 (tk_n e222 hn220 (tk_p e218 (tk_n e216 hn214 (tk_p e212 (tk_n e210 hn208 (tk_p e206 (tk_n e204 hn202 (tk_p e200 (tk_n e198 hn196 (tk_p e194 (tk_n e192 hn190 (tk_p e188 (tk_p e186 (tk_n e184 hn182 (tk_p e180 (tk_n e178 hn176 (tk_p e174 (tk_n e172 hn170 (tk_p e168 (tk_n e166 hn164 (tk_p e162 (tk_n e160 hn158 (tk_p e156 (tk_n e154 hn152 (tk_p e150 (tk_n e148 hn146 (tk_p e144 (tk_n e142 hn140 (tk_p e138 (tk_n e136 hn134 (tk_p e132 (tk_n e130 hn128 (tk_p e126 (tk_n e124 hn122 (tk_p e120 (tk_n e118 hn116 (tk_p e114 (tk_n e112 hn110 (tk_p e108 (tk_n e106 hn104 (tk_p e102 (tk_n e100 hn98 (tk_p e96 (tk_n e94 hn92 (tk_p e90 (tk_n e88 hn86 (tk_p e84 (tk_n e82 hn80 (tk_p e78 (tk_n e76 hn74 (tk_p e72 (tk_n e70 hn68 (tk_p e66 (tk_n e64 hn62 (tk_p e60 (tk_n e58 hn56 (tk_p e54 ht52)))))))))))))))))))))))))))))))))))))))))))))))))))))))))))))))))))))))))))))))))))))))))))))) fd_199 xc_12 (by decide) rfl hini rfl (xm_nr rfl) dX12_init_389 ?_
  refine x_topS (fun S331 e332 => ?_)
  have h1 := h1 S331 e332
  refine x_aload_n C 0 dX12_init_392 rfl rfl ?_
  refine x_sipush (v := (nI 378)) C dX12_init_393 (by decide) ?_
  obtain ⟨n333, hn334, h1⟩ := h1
  refine x_newa_i (n := n333) (len := 378) C gw_11 (by decide) (by decide) hn334 (Nat.le_of_ble_eq_true rfl) (Nat.le_of_ble_eq_true rfl) dX12_init_396 ?_
  refine x_topS (fun S335 e336 => ?_)
  have h1 := h1 S335 e336
  refine x_putfF_r (n := h) C rfl (tk_n e336 hn334 (tk_p e332 (tk_n e330 hn328 (tk_p e326 (tk_n e324 hn322 (tk_p e320 (tk_p e318 (tk_n e316 hn314 (tk_p e312 (tk_n e310 hn308 (tk_p e306 (tk_n e304 hn302 (tk_p e300 (tk_n e298 hn296 (tk_p e294 (tk_n e292 hn290 (tk_p e288 (tk_n e286 hn284 (tk_p e282 (tk_n e280 hn278 (tk_p e276 (tk_n e274 hn272 (tk_p e270 (tk_n e268 hn266 (tk_p e264 (tk_n e262 hn260 (tk_p e258 (tk_n e256 hn254 (tk_p e252 (tk_n e250 hn248 (tk_p e246 (tk_p e244 (tk_p e242 (tk_n e240 hn238 (tk_p e236 (tk_n e234 hn232 (tk_p e230 (tk_n e228 hn226 (tk_p e224 (tk_n e222 hn220 (tk_p e218 (tk_n e216 hn214 (tk_p e212 (tk_n e210 hn208 (tk_p e206 (tk_n e204 hn202 (tk_p e200 (tk_n e198 hn196 (tk_p e194 (tk_n e192 hn190 (tk_p e188 (tk_p e186 (tk_n e184 hn182 (tk_p e180 (tk_n e178 hn176 (tk_p e174 (tk_n e172 hn170 (tk_p e168 (tk_n e166 hn164 (tk_p e162 (tk_n e160 hn158 (tk_p e156 (tk_n e154 hn152 (tk_p e150 (tk_n e148 hn146 (tk_p e144 (tk_n e142 hn140 (tk_p e138 (tk_n e136 hn134 (tk_p e132 (tk_n e130 hn128 (tk_p e126 (tk_n e124 hn122 (tk_p e120 (tk_n e118 hn116 (tk_p e114 (tk_n e112 hn110 (tk_p e108 (tk_n e106 hn104 (tk_p e102 (tk_n e100 hn98 (tk_p e96 (tk_n e94 hn92 (tk_p e90 (tk_n e88 hn86 (tk_p e84 (tk_n e82 hn80 (tk_p e78 (tk_n e76 hn74 (tk_p e72 (tk_n e70 hn68 (tk_p e66 (tk_n e64 hn62 (tk_p e60 (tk_n e58 hn56 (tk_p e54 ht52)))))))))))))))))))))))))))))))))))))))))))))))))))))))))))))))))))))))))))))))))))))))))))))))) fd_196 xc_12 (by decide) rfl hini rfl (xm_nr rfl) dX12_init_398 ?_
  refine x_topS (fun S337 e338 => ?_)
  have h1 := h1 S337 e338
  refine x_aload_n C 0 dX12_init_401 rfl rfl ?_
  refine x_iconst (v := (nI 5)) C dX12_init_402 (by decide) ?_
  obtain ⟨n339, hn340, h1⟩ := h1
  refine x_newa_i (n := n339) (len := 5) C gw_11 (by decide) (by decide) hn340 (Nat.le_of_ble_eq_true rfl) (Nat.le_of_ble_eq_true rfl) dX12_init_403 ?_
  refine x_topS (fun S341 e342 => ?_)
  have h1 := h1 S341 e342
  refine x_putfF_r (n := h) C rfl (tk_n e342 hn340 (tk_p e338 (tk_n e336 hn334 (tk_p e332 (tk_n e330 hn328 (tk_p e326 (tk_n e324 hn322 (tk_p e320 (tk_p e318 (tk_n e316 hn314 (tk_p e312 (tk_n e310 hn308 (tk_p e306 (tk_n e304 hn302 (tk_p e300 (tk_n e298 hn296 (tk_p e294 (tk_n e292 hn290 (tk_p e288 (tk_n e286 hn284 (tk_p e282 (tk_n e280 hn278 (tk_p e276 (tk_n e274 hn272 (tk_p e270 (tk_n e268 hn266 (tk_p e264 (tk_n e262 hn260 (tk_p e258 (tk_n e256 hn254 (tk_p e252 (tk_n e250 hn248 (tk_p e246 (tk_p e244 (tk_p e242 (tk_n e240 hn238 (tk_p e236 (tk_n e234 hn232 (tk_p e230 (tk_n e228 hn226 (tk_p e224 (tk_n e222 hn220 (tk_p e218 (tk_n e216 hn214 (tk_p e212 (tk_n e210 hn208 (tk_p e206 (tk_n e204 hn202 (tk_p e200 (tk_n e198 hn196 (tk_p e194 (tk_n e192 hn190 (tk_p e188 (tk_p e186 (tk_n e184 hn182 (tk_p e180 (tk_n e178 hn176 (tk_p e174 (tk_n e172 hn170 (tk_p e168 (tk_n e166 hn164 (tk_p e162 (tk_n e160 hn158 (tk_p e156 (tk_n e154 hn152 (tk_p e150 (tk_n e148 hn146 (tk_p e144 (tk_n e142 hn140 (tk_p e138 (tk_n e136 hn134 (tk_p e132 (tk_n e130 hn128 (tk_p e126 (tk_n e124 hn122 (tk_p e120 (tk_n e118 hn116 (tk_p e114 (tk_n e112 hn110 (tk_p e108 (tk_n e106 hn104 (tk_p e102 (tk_n e100 hn98 (tk_p e96 (tk_n e94 hn92 (tk_p e90 (tk_n e88 hn86 (tk_p e84 (tk_n e82 hn80 (tk_p e78 (tk_n e76 hn74 (tk_p e72 (tk_n e70 hn68 (tk_p e66 (tk_n e64 hn62 (tk_p e60 (tk_n e58 hn56 (tk_p e54 ht52)))))))))))))))))))))))))))))))))))))))))))))))))))))))))))))))))))))))))))))))))))))))))))))))))) fd_162 xc_12 (by decide) rfl hini rfl (xm_nr rfl) dX12_init_405 ?_
  refine x_topS (fun S343 e344 => ?_)
  have h1 := h1 S343 e344
  refine x_iconst (v := (0 : Int32)) C dX12_init_408 (by decide) ?_
  refine x_istore_n (L' := [(1, xm_i (0 : Int32)), (0, xm_r (some h))]) C dX12_init_409 rfl (by decide) rfl ?_
  refine x_keep (L' := [(0, xm_r (some h)), (1, xm_i (0 : Int32))]) C [1, 0] rfl ?_
  exact kp_X12_init_410 h (0 : Int32) S343 C N hini hg  h1
theorem kp_X12_init_met {h : Nat}  {S : xm_S} {g : xm_S → Prop}  (h1 : wp_X12_init h  S g) : xm_Met yX12_init cX12_init 2 none rm_X12_init [xm_r (some h)] S (xm_qv g) xm_nox :=
  xm_ofW RX12 (by decide +kernel) rfl (Nat.le_of_ble_eq_true rfl) (fun K C N hq hx hi => kp_X12_init h  S C N (hi rfl) (fun S h => by rw [hq]; exact ⟨rfl, h⟩)  h1)
def rm_X12_installs : Room := { frames := 3, cells := 0, slots := 0, locals := 68 }
theorem dX12_installs_0 : decode cX12_installs 0 = .ok (.iconst 0, 1) := by decide +kernel
theorem dX12_installs_1 : decode cX12_installs 1 = .ok (.istore_n 2, 1) := by decide +kernel
theorem dX12_installs_2 : decode cX12_installs 2 = .ok (.iload_n 2, 1) := by decide +kernel
theorem dX12_installs_3 : decode cX12_installs 3 = .ok (.bipush 16, 2) := by decide +kernel
theorem dX12_installs_5 : decode cX12_installs 5 = .ok (.if_icmp .ge 48, 3) := by decide +kernel
theorem dX12_installs_8 : decode cX12_installs 8 = .ok (.aload_n 0, 1) := by decide +kernel
theorem dX12_installs_9 : decode cX12_installs 9 = .ok (.getfield 151, 3) := by decide +kernel
theorem dX12_installs_12 : decode cX12_installs 12 = .ok (.iload_n 2, 1) := by decide +kernel
theorem dX12_installs_13 : decode cX12_installs 13 = .ok (.iaload, 1) := by decide +kernel
theorem dX12_installs_14 : decode cX12_installs 14 = .ok (.ifCond .ne 33, 3) := by decide +kernel
theorem dX12_installs_17 : decode cX12_installs 17 = .ok (.aload_n 0, 1) := by decide +kernel
theorem dX12_installs_18 : decode cX12_installs 18 = .ok (.getfield 148, 3) := by decide +kernel
theorem dX12_installs_21 : decode cX12_installs 21 = .ok (.bipush 6, 2) := by decide +kernel
theorem dX12_installs_23 : decode cX12_installs 23 = .ok (.iload_n 2, 1) := by decide +kernel
theorem dX12_installs_24 : decode cX12_installs 24 = .ok (.iadd, 1) := by decide +kernel
theorem dX12_installs_25 : decode cX12_installs 25 = .ok (.iconst (-1), 1) := by decide +kernel
theorem dX12_installs_26 : decode cX12_installs 26 = .ok (.iastore, 1) := by decide +kernel
theorem dX12_installs_27 : decode cX12_installs 27 = .ok (.aload_n 0, 1) := by decide +kernel
theorem dX12_installs_28 : decode cX12_installs 28 = .ok (.getfield 148, 3) := by decide +kernel
theorem dX12_installs_31 : decode cX12_installs 31 = .ok (.bipush 22, 2) := by decide +kernel
theorem dX12_installs_33 : decode cX12_installs 33 = .ok (.iload_n 2, 1) := by decide +kernel
theorem dX12_installs_34 : decode cX12_installs 34 = .ok (.iadd, 1) := by decide +kernel
theorem dX12_installs_35 : decode cX12_installs 35 = .ok (.iconst (-1), 1) := by decide +kernel
theorem dX12_installs_36 : decode cX12_installs 36 = .ok (.iastore, 1) := by decide +kernel
theorem dX12_installs_37 : decode cX12_installs 37 = .ok (.aload_n 0, 1) := by decide +kernel
theorem dX12_installs_38 : decode cX12_installs 38 = .ok (.getfield 148, 3) := by decide +kernel
theorem dX12_installs_41 : decode cX12_installs 41 = .ok (.bipush 38, 2) := by decide +kernel
theorem dX12_installs_43 : decode cX12_installs 43 = .ok (.iload_n 2, 1) := by decide +kernel
theorem dX12_installs_44 : decode cX12_installs 44 = .ok (.iadd, 1) := by decide +kernel
theorem dX12_installs_45 : decode cX12_installs 45 = .ok (.iconst (-1), 1) := by decide +kernel
theorem dX12_installs_46 : decode cX12_installs 46 = .ok (.iastore, 1) := by decide +kernel
theorem dX12_installs_47 : decode cX12_installs 47 = .ok (.iinc 2 1, 3) := by decide +kernel
theorem dX12_installs_50 : decode cX12_installs 50 = .ok (.goto (-48), 3) := by decide +kernel
theorem dX12_installs_53 : decode cX12_installs 53 = .ok (.iconst 0, 1) := by decide +kernel
theorem dX12_installs_54 : decode cX12_installs 54 = .ok (.istore_n 2, 1) := by decide +kernel
theorem dX12_installs_55 : decode cX12_installs 55 = .ok (.iload_n 2, 1) := by decide +kernel
theorem dX12_installs_56 : decode cX12_installs 56 = .ok (.bipush 6, 2) := by decide +kernel
theorem dX12_installs_58 : decode cX12_installs 58 = .ok (.if_icmp .ge 85, 3) := by decide +kernel
theorem dX12_installs_61 : decode cX12_installs 61 = .ok (.aload_n 0, 1) := by decide +kernel
theorem dX12_installs_62 : decode cX12_installs 62 = .ok (.getfield 90, 3) := by decide +kernel
theorem dX12_installs_65 : decode cX12_installs 65 = .ok (.bipush 6, 2) := by decide +kernel
theorem dX12_installs_67 : decode cX12_installs 67 = .ok (.iload_n 1, 1) := by decide +kernel
theorem dX12_installs_68 : decode cX12_installs 68 = .ok (.imul, 1) := by decide +kernel
theorem dX12_installs_69 : decode cX12_installs 69 = .ok (.iload_n 2, 1) := by decide +kernel
theorem dX12_installs_70 : decode cX12_installs 70 = .ok (.iadd, 1) := by decide +kernel
theorem dX12_installs_71 : decode cX12_installs 71 = .ok (.iaload, 1) := by decide +kernel
theorem dX12_installs_72 : decode cX12_installs 72 = .ok (.istore_n 3, 1) := by decide +kernel
theorem dX12_installs_73 : decode cX12_installs 73 = .ok (.iload_n 3, 1) := by decide +kernel
theorem dX12_installs_74 : decode cX12_installs 74 = .ok (.iconst (-1), 1) := by decide +kernel
theorem dX12_installs_75 : decode cX12_installs 75 = .ok (.if_icmp .ne 7, 3) := by decide +kernel
theorem dX12_installs_78 : decode cX12_installs 78 = .ok (.iconst 0, 1) := by decide +kernel
theorem dX12_installs_79 : decode cX12_installs 79 = .ok (.goto 8, 3) := by decide +kernel
theorem dX12_installs_82 : decode cX12_installs 82 = .ok (.iconst 4, 1) := by decide +kernel
theorem dX12_installs_83 : decode cX12_installs 83 = .ok (.iload_n 2, 1) := by decide +kernel
theorem dX12_installs_84 : decode cX12_installs 84 = .ok (.imul, 1) := by decide +kernel
theorem dX12_installs_85 : decode cX12_installs 85 = .ok (.iload_n 3, 1) := by decide +kernel
theorem dX12_installs_86 : decode cX12_installs 86 = .ok (.iadd, 1) := by decide +kernel
theorem dX12_installs_87 : decode cX12_installs 87 = .ok (.istore 4, 2) := by decide +kernel
theorem dX12_installs_89 : decode cX12_installs 89 = .ok (.iconst 3, 1) := by decide +kernel
theorem dX12_installs_90 : decode cX12_installs 90 = .ok (.iload 4, 2) := by decide +kernel
theorem dX12_installs_92 : decode cX12_installs 92 = .ok (.imul, 1) := by decide +kernel
theorem dX12_installs_93 : decode cX12_installs 93 = .ok (.istore 5, 2) := by decide +kernel
theorem dX12_installs_95 : decode cX12_installs 95 = .ok (.iload 5, 2) := by decide +kernel
theorem dX12_installs_97 : decode cX12_installs 97 = .ok (.iconst 3, 1) := by decide +kernel
theorem dX12_installs_98 : decode cX12_installs 98 = .ok (.iload 4, 2) := by decide +kernel
theorem dX12_installs_100 : decode cX12_installs 100 = .ok (.imul, 1) := by decide +kernel
theorem dX12_installs_101 : decode cX12_installs 101 = .ok (.aload_n 0, 1) := by decide +kernel
theorem dX12_installs_102 : decode cX12_installs 102 = .ok (.getfield 130, 3) := by decide +kernel
theorem dX12_installs_105 : decode cX12_installs 105 = .ok (.iload 4, 2) := by decide +kernel
theorem dX12_installs_107 : decode cX12_installs 107 = .ok (.iaload, 1) := by decide +kernel
theorem dX12_installs_108 : decode cX12_installs 108 = .ok (.iadd, 1) := by decide +kernel
theorem dX12_installs_109 : decode cX12_installs 109 = .ok (.if_icmp .ge 21, 3) := by decide +kernel
theorem dX12_installs_112 : decode cX12_installs 112 = .ok (.iload_n 3, 1) := by decide +kernel
theorem dX12_installs_113 : decode cX12_installs 113 = .ok (.iconst (-1), 1) := by decide +kernel
theorem dX12_installs_114 : decode cX12_installs 114 = .ok (.if_icmp .eq 16, 3) := by decide +kernel
theorem dX12_installs_117 : decode cX12_installs 117 = .ok (.aload_n 0, 1) := by decide +kernel
theorem dX12_installs_118 : decode cX12_installs 118 = .ok (.iload_n 2, 1) := by decide +kernel
theorem dX12_installs_119 : decode cX12_installs 119 = .ok (.iload 5, 2) := by decide +kernel
theorem dX12_installs_121 : decode cX12_installs 121 = .ok (.invokevirtual 346, 3) := by decide +kernel
theorem dX12_installs_124 : decode cX12_installs 124 = .ok (.iinc 5 1, 3) := by decide +kernel
theorem dX12_installs_127 : decode cX12_installs 127 = .ok (.goto (-32), 3) := by decide +kernel
theorem dX12_installs_130 : decode cX12_installs 130 = .ok (.aload_n 0, 1) := by decide +kernel
theorem dX12_installs_131 : decode cX12_installs 131 = .ok (.getfield 148, 3) := by decide +kernel
theorem dX12_installs_134 : decode cX12_installs 134 = .ok (.iload_n 2, 1) := by decide +kernel
theorem dX12_installs_135 : decode cX12_installs 135 = .ok (.iload_n 3, 1) := by decide +kernel
theorem dX12_installs_136 : decode cX12_installs 136 = .ok (.iastore, 1) := by decide +kernel
theorem dX12_installs_137 : decode cX12_installs 137 = .ok (.iinc 2 1, 3) := by decide +kernel
theorem dX12_installs_140 : decode cX12_installs 140 = .ok (.goto (-85), 3) := by decide +kernel
theorem dX12_installs_143 : decode cX12_installs 143 = .ok (.aload_n 0, 1) := by decide +kernel
theorem dX12_installs_144 : decode cX12_installs 144 = .ok (.getfield 340, 3) := by decide +kernel
theorem dX12_installs_147 : decode cX12_installs 147 = .ok (.bipush 6, 2) := by decide +kernel
theorem dX12_installs_149 : decode cX12_installs 149 = .ok (.if_icmp .ne 11, 3) := by decide +kernel
theorem dX12_installs_152 : decode cX12_installs 152 = .ok (.aload_n 0, 1) := by decide +kernel
theorem dX12_installs_153 : decode cX12_installs 153 = .ok (.aload_n 0, 1) := by decide +kernel
theorem dX12_installs_154 : decode cX12_installs 154 = .ok (.invokevirtual 349, 3) := by decide +kernel
theorem dX12_installs_157 : decode cX12_installs 157 = .ok (.invokevirtual 352, 3) := by decide +kernel
theorem dX12_installs_160 : decode cX12_installs 160 = .ok (.aload_n 0, 1) := by decide +kernel
theorem dX12_installs_161 : decode cX12_installs 161 = .ok (.getfield 157, 3) := by decide +kernel
theorem dX12_installs_164 : decode cX12_installs 164 = .ok (.aload_n 0, 1) := by decide +kernel
theorem dX12_installs_165 : decode cX12_installs 165 = .ok (.getfield 340, 3) := by decide +kernel
theorem dX12_installs_168 : decode cX12_installs 168 = .ok (.aload_n 0, 1) := by decide +kernel
theorem dX12_installs_169 : decode cX12_installs 169 = .ok (.getfield 355, 3) := by decide +kernel
theorem dX12_installs_172 : decode cX12_installs 172 = .ok (.iastore, 1) := by decide +kernel
theorem dX12_installs_173 : decode cX12_installs 173 = .ok (.aload_n 0, 1) := by decide +kernel
theorem dX12_installs_174 : decode cX12_installs 174 = .ok (.getfield 160, 3) := by decide +kernel
theorem dX12_installs_177 : decode cX12_installs 177 = .ok (.aload_n 0, 1) := by decide +kernel
theorem dX12_installs_178 : decode cX12_installs 178 = .ok (.getfield 340, 3) := by decide +kernel
theorem dX12_installs_181 : decode cX12_installs 181 = .ok (.iconst 0, 1) := by decide +kernel
theorem dX12_installs_182 : decode cX12_installs 182 = .ok (.bastore, 1) := by decide +kernel
theorem dX12_installs_183 : decode cX12_installs 183 = .ok (.iconst 0, 1) := by decide +kernel
theorem dX12_installs_184 : decode cX12_installs 184 = .ok (.istore_n 2, 1) := by decide +kernel
theorem dX12_installs_185 : decode cX12_installs 185 = .ok (.iload_n 2, 1) := by decide +kernel
theorem dX12_installs_186 : decode cX12_installs 186 = .ok (.bipush 54, 2) := by decide +kernel
theorem dX12_installs_188 : decode cX12_installs 188 = .ok (.if_icmp .ge 29, 3) := by decide +kernel
theorem dX12_installs_191 : decode cX12_installs 191 = .ok (.aload_n 0, 1) := by decide +kernel
theorem dX12_installs_192 : decode cX12_installs 192 = .ok (.getfield 163, 3) := by decide +kernel
theorem dX12_installs_195 : decode cX12_installs 195 = .ok (.bipush 54, 2) := by decide +kernel
theorem dX12_installs_197 : decode cX12_installs 197 = .ok (.aload_n 0, 1) := by decide +kernel
theorem dX12_installs_198 : decode cX12_installs 198 = .ok (.getfield 340, 3) := by decide +kernel
theorem dX12_installs_201 : decode cX12_installs 201 = .ok (.imul, 1) := by decide +kernel
theorem dX12_installs_202 : decode cX12_installs 202 = .ok (.iload_n 2, 1) := by decide +kernel
theorem dX12_installs_203 : decode cX12_installs 203 = .ok (.iadd, 1) := by decide +kernel
theorem dX12_installs_204 : decode cX12_installs 204 = .ok (.aload_n 0, 1) := by decide +kernel
theorem dX12_installs_205 : decode cX12_installs 205 = .ok (.getfield 148, 3) := by decide +kernel
theorem dX12_installs_208 : decode cX12_installs 208 = .ok (.iload_n 2, 1) := by decide +kernel
theorem dX12_installs_209 : decode cX12_installs 209 = .ok (.iaload, 1) := by decide +kernel
theorem dX12_installs_210 : decode cX12_installs 210 = .ok (.iastore, 1) := by decide +kernel
theorem dX12_installs_211 : decode cX12_installs 211 = .ok (.iinc 2 1, 3) := by decide +kernel
theorem dX12_installs_214 : decode cX12_installs 214 = .ok (.goto (-29), 3) := by decide +kernel
theorem dX12_installs_217 : decode cX12_installs 217 = .ok (.aload_n 0, 1) := by decide +kernel
theorem dX12_installs_218 : decode cX12_installs 218 = .ok (.dup, 1) := by decide +kernel
theorem dX12_installs_219 : decode cX12_installs 219 = .ok (.getfield 340, 3) := by decide +kernel
theorem dX12_installs_222 : decode cX12_installs 222 = .ok (.iconst 1, 1) := by decide +kernel
theorem dX12_installs_223 : decode cX12_installs 223 = .ok (.iadd, 1) := by decide +kernel
theorem dX12_installs_224 : decode cX12_installs 224 = .ok (.putfield 340, 3) := by decide +kernel
theorem dX12_installs_227 : decode cX12_installs 227 = .ok (.aload_n 0, 1) := by decide +kernel
theorem dX12_installs_228 : decode cX12_installs 228 = .ok (.aload_n 0, 1) := by decide +kernel
theorem dX12_installs_229 : decode cX12_installs 229 = .ok (.getfield 355, 3) := by decide +kernel
theorem dX12_installs_232 : decode cX12_installs 232 = .ok (.putfield 154, 3) := by decide +kernel
theorem dX12_installs_235 : decode cX12_installs 235 = .ok (.aload_n 0, 1) := by decide +kernel
theorem dX12_installs_236 : decode cX12_installs 236 = .ok (.dup, 1) := by decide +kernel
theorem dX12_installs_237 : decode cX12_installs 237 = .ok (.getfield 355, 3) := by decide +kernel
theorem dX12_installs_240 : decode cX12_installs 240 = .ok (.iconst 1, 1) := by decide +kernel
theorem dX12_installs_241 : decode cX12_installs 241 = .ok (.iadd, 1) := by decide +kernel
theorem dX12_installs_242 : decode cX12_installs 242 = .ok (.putfield 355, 3) := by decide +kernel
theorem dX12_installs_245 : decode cX12_installs 245 = .ok (.return_, 1) := by decide +kernel
def wp_X12_installs_47 (h : Nat) (x1 : Int32) (x2 : Int32) (S : xm_S) (g : xm_S → Prop) (Z2 : Int32 → Int32 → xm_S → Prop) : Prop :=
  ∀ y1, y1 = (x2 + (1 : Int32)) → Z2 x1 y1 S
set_option maxRecDepth 100000 in
set_option maxHeartbeats 4000000 in
theorem kp_X12_installs_47 {K : xm_K} (h : Nat) (x1 : Int32) (x2 : Int32) (S : xm_S) {g : xm_S → Prop} {Z2 : Int32 → Int32 → xm_S → Prop} (C : xm_Cx K cX12_installs RX12 6 none rm_X12_installs) (N : xm_Nx K) (hg : ∀ S, g S → xm_q K none S) (hZ2 : ∀ x1 x2 S, Z2 x1 x2 S → xm_W K 0 0 2 [(0, xm_r (some h)), (1, xm_i x1), (2, xm_i x2)] [] S) (h1 : wp_X12_installs_47 h x1 x2 S g Z2) : xm_W K 0 0 47 [(0, xm_r (some h)), (1, xm_i x1), (2, xm_i x2)] [] S := by
  unfold wp_X12_installs_47 at h1
  obtain ⟨y1, e2⟩ : ∃ y1, y1 = (x2 + (1 : Int32)) := ⟨_, rfl⟩
  have h1 := h1 y1 e2
  refine x_iinc (v := y1) (L' := [(2, xm_i y1), (0, xm_r (some h)), (1, xm_i x1)]) C 2 dX12_installs_47 rfl (by rw [e2]; rfl) (by decide) rfl ?_
  refine x_goto (tgt := 2) C dX12_installs_50 (by decide) ?_
  refine x_keep (L' := [(0, xm_r (some h)), (1, xm_i x1), (2, xm_i y1)]) C [1, 2, 0] rfl ?_
  exact hZ2 x1 y1 S h1
def wp_X12_installs_130 (h : Nat) (x1 : Int32) (x2 : Int32) (x3 : Int32) (S : xm_S) (g : xm_S → Prop) (Z55 : Int32 → Int32 → xm_S → Prop) : Prop :=
  st_t S h = some (12, 0) ∧ ∃ n4, (st_r S h 50) = some n4 ∧ ∃ z7, st_t S n4 = some (100, z7) ∧ vp_in x2 z7 ∧ ∀ S9, S9 = st_pi S n4 (x2).toNatClampNeg x3 → ∀ y11, y11 = (x2 + (1 : Int32)) → Z55 x1 y11 S9
set_option maxRecDepth 100000 in
set_option maxHeartbeats 4000000 in
theorem kp_X12_installs_130 {K : xm_K} (h : Nat) (x1 : Int32) (x2 : Int32) (x3 : Int32) (S : xm_S) {g : xm_S → Prop} {Z55 : Int32 → Int32 → xm_S → Prop} (C : xm_Cx K cX12_installs RX12 6 none rm_X12_installs) (N : xm_Nx K) (hg : ∀ S, g S → xm_q K none S) (hZ55 : ∀ x1 x2 S, Z55 x1 x2 S → xm_W K 0 0 55 [(0, xm_r (some h)), (1, xm_i x1), (2, xm_i x2)] [] S) (h1 : wp_X12_installs_130 h x1 x2 x3 S g Z55) : xm_W K 0 0 130 [(0, xm_r (some h)), (1, xm_i x1), (2, xm_i x2), (3, xm_i x3)] [] S := by
  unfold wp_X12_installs_130 at h1
  refine x_aload_n C 0 dX12_installs_130 rfl rfl ?_
  obtain ⟨ht3, h1⟩ := h1
  refine x_getf_r (n := h) C rfl ht3 fd_203 (by decide) dX12_installs_131 ?_
  refine x_iload_n C 2 dX12_installs_134 rfl rfl ?_
  refine x_iload_n C 3 dX12_installs_135 rfl rfl ?_
  obtain ⟨n4, hr5, h1⟩ := h1
  obtain ⟨z7, ht6, h1⟩ := h1
  obtain ⟨hi8, h1⟩ := h1
  refine x_iast (n := n4) C hr5 ht6 hi8 dX12_installs_136 ?_
  refine x_topS (fun S9 e10 => ?_)
  have h1 := h1 S9 e10
  obtain ⟨y11, e12⟩ : ∃ y11, y11 = (x2 + (1 : Int32)) := ⟨_, rfl⟩
  have h1 := h1 y11 e12
  refine x_iinc (v := y11) (L' := [(2, xm_i y11), (0, xm_r (some h)), (1, xm_i x1), (3, xm_i x3)]) C 2 dX12_installs_137 rfl (by rw [e12]; rfl) (by decide) rfl ?_
  refine x_goto (tgt := 55) C dX12_installs_140 (by decide) ?_
  refine x_keep (L' := [(0, xm_r (some h)), (1, xm_i x1), (2, xm_i y11)]) C [1, 2, 0] rfl ?_
  exact hZ55 x1 y11 S9 h1
def wp_X12_installs_95B (h : Nat) (x1 : Int32) (x2 : Int32) (x3 : Int32) (x4 : Int32) (x5 : Int32) (S : xm_S) (g : xm_S → Prop) (Z55 : Int32 → Int32 → xm_S → Prop) (Z95 : Int32 → Int32 → Int32 → Int32 → Int32 → xm_S → Prop) : Prop :=
  st_t S h = some (12, 0) ∧ ∃ n14, (st_r S h 44) = some n14 ∧ ∃ z17, st_t S n14 = some (100, z17) ∧ vp_in x4 z17 ∧ ((((nI 3) * x4) + (st_i S n14 (x4).toNatClampNeg)) ≤ x5 → wp_X12_installs_130 h x1 x2 x3 S g Z55) ∧ (¬ (((nI 3) * x4) + (st_i S n14 (x4).toNatClampNeg)) ≤ x5 → (x3 = (-1 : Int32) → wp_X12_installs_130 h x1 x2 x3 S g Z55) ∧ (¬ x3 = (-1 : Int32) → wp_X12_fileComes h x2 x5 S (fun S19 => ∀ y21, y21 = (x5 + (1 : Int32)) → Z95 x1 x2 x3 x4 y21 S19)))
def wp_X12_installs_95 (h : Nat) (x1 : Int32) (x2 : Int32) (x3 : Int32) (x4 : Int32) (x5 : Int32) (S : xm_S) (g : xm_S → Prop) (Z55 : Int32 → Int32 → xm_S → Prop) : Prop :=
  ∀ Z95 : Int32 → Int32 → Int32 → Int32 → Int32 → xm_S → Prop, (∀ x1 x2 x3 x4 x5 S, wp_X12_installs_95B h x1 x2 x3 x4 x5 S g Z55 Z95 → Z95 x1 x2 x3 x4 x5 S) → Z95 x1 x2 x3 x4 x5 S
set_option maxRecDepth 100000 in
set_option maxHeartbeats 4000000 in
theorem kp_X12_installs_95B {K : xm_K} (h : Nat) (x1 : Int32) (x2 : Int32) (x3 : Int32) (x4 : Int32) (x5 : Int32) (S : xm_S) {g : xm_S → Prop} {Z55 : Int32 → Int32 → xm_S → Prop} {Z95 : Int32 → Int32 → Int32 → Int32 → Int32 → xm_S → Prop} (C : xm_Cx K cX12_installs RX12 6 none rm_X12_installs) (N : xm_Nx K) (hg : ∀ S, g S → xm_q K none S) (hZ55 : ∀ x1 x2 S, Z55 x1 x2 S → xm_W K 0 0 55 [(0, xm_r (some h)), (1, xm_i x1), (2, xm_i x2)] [] S) (hZ95 : ∀ x1 x2 x3 x4 x5 S, Z95 x1 x2 x3 x4 x5 S → xm_W K 0 0 95 [(0, xm_r (some h)), (1, xm_i x1), (2, xm_i x2), (3, xm_i x3), (4, xm_i x4), (5, xm_i x5)] [] S) (h1 : wp_X12_installs_95B h x1 x2 x3 x4 x5 S g Z55 Z95) : xm_W K 0 0 95 [(0, xm_r (some h)), (1, xm_i x1), (2, xm_i x2), (3, xm_i x3), (4, xm_i x4), (5, xm_i x5)] [] S := by
  unfold wp_X12_installs_95B at h1
  refine x_iload C 5 dX12_installs_95 rfl ?_
  refine x_iconst (v := (nI 3)) C dX12_installs_97 (by decide) ?_
  refine x_iload C 4 dX12_installs_98 rfl ?_
  refine x_imul C dX12_installs_100 ?_
  refine x_aload_n C 0 dX12_installs_101 rfl rfl ?_
  obtain ⟨ht13, h1⟩ := h1
  refine x_getf_r (n := h) C rfl ht13 fd_209 (by decide) dX12_installs_102 ?_
  refine x_iload C 4 dX12_installs_105 rfl ?_
  obtain ⟨n14, hr15, h1⟩ := h1
  obtain ⟨z17, ht16, h1⟩ := h1
  obtain ⟨hi18, h1⟩ := h1
  refine x_iald (n := n14) C hr15 ht16 hi18 dX12_installs_107 ?_
  refine x_iadd C dX12_installs_108 ?_
  refine x_icmp_ge (tgt := 130) C dX12_installs_109 (by decide) (fun z9 => ?_) (fun z9 => ?_)
  · have h1 := h1.1 z9
    refine x_keep (L' := [(0, xm_r (some h)), (1, xm_i x1), (2, xm_i x2), (3, xm_i x3)]) C [0, 1, 2, 3] rfl ?_
    exact kp_X12_installs_130 h x1 x2 x3 S C N hg hZ55 h1
  · have h1 := h1.2 z9
    refine x_iload_n C 3 dX12_installs_112 rfl rfl ?_
    refine x_iconst (v := (-1 : Int32)) C dX12_installs_113 (by decide) ?_
    refine x_icmp_eq (tgt := 130) C dX12_installs_114 (by decide) (fun z9 => ?_) (fun z9 => ?_)
    · have h1 := h1.1 z9
      refine x_keep (L' := [(0, xm_r (some h)), (1, xm_i x1), (2, xm_i x2), (3, xm_i x3)]) C [0, 1, 2, 3] rfl ?_
      exact kp_X12_installs_130 h x1 x2 x3 S C N hg hZ55 h1
    · have h1 := h1.2 z9
      refine x_aload_n C 0 dX12_installs_117 rfl rfl ?_
      refine x_iload_n C 2 dX12_installs_118 rfl rfl ?_
      refine x_iload C 5 dX12_installs_119 rfl ?_
      refine x_callV (rm' := rm_X12_fileComes) (n := h) C (kp_X12_fileComes_met h1) lk_125 gw_745 gw_746 xv_12 rfl rfl ht13 rfl (Nat.le_of_ble_eq_true rfl) ⟨Nat.le_of_ble_eq_true rfl, Nat.le_of_ble_eq_true rfl, (Nat.le_of_ble_eq_true rfl), (Nat.le_of_ble_eq_true rfl)⟩ dX12_installs_121 xm_kx (xm_kv (fun S19 h1 => ?_))
      obtain ⟨y21, e22⟩ : ∃ y21, y21 = (x5 + (1 : Int32)) := ⟨_, rfl⟩
      have h1 := h1 y21 e22
      refine x_iinc (v := y21) (L' := [(5, xm_i y21), (0, xm_r (some h)), (1, xm_i x1), (2, xm_i x2), (3, xm_i x3), (4, xm_i x4)]) C 5 dX12_installs_124 rfl (by rw [e22]; rfl) (by decide) rfl ?_
      refine x_goto (tgt := 95) C dX12_installs_127 (by decide) ?_
      refine x_keep (L' := [(0, xm_r (some h)), (1, xm_i x1), (2, xm_i x2), (3, xm_i x3), (4, xm_i x4), (5, xm_i y21)]) C [1, 2, 3, 4, 5, 0] rfl ?_
      exact hZ95 x1 x2 x3 x4 y21 S19 h1
theorem kp_X12_installs_95 {K : xm_K} (h : Nat) (x1 : Int32) (x2 : Int32) (x3 : Int32) (x4 : Int32) (x5 : Int32) (S : xm_S) {g : xm_S → Prop} {Z55 : Int32 → Int32 → xm_S → Prop} (C : xm_Cx K cX12_installs RX12 6 none rm_X12_installs) (N : xm_Nx K) (hg : ∀ S, g S → xm_q K none S) (hZ55 : ∀ x1 x2 S, Z55 x1 x2 S → xm_W K 0 0 55 [(0, xm_r (some h)), (1, xm_i x1), (2, xm_i x2)] [] S) (h1 : wp_X12_installs_95 h x1 x2 x3 x4 x5 S g Z55) : xm_W K 0 0 95 [(0, xm_r (some h)), (1, xm_i x1), (2, xm_i x2), (3, xm_i x3), (4, xm_i x4), (5, xm_i x5)] [] S :=
  h1 (fun x1 x2 x3 x4 x5 S => xm_W K 0 0 95 [(0, xm_r (some h)), (1, xm_i x1), (2, xm_i x2), (3, xm_i x3), (4, xm_i x4), (5, xm_i x5)] [] S) (fun x1 x2 x3 x4 x5 S hb => kp_X12_installs_95B h x1 x2 x3 x4 x5 S C N hg hZ55 (fun x1 x2 x3 x4 x5 S hz => hz) hb)
def wp_X12_installs_87 (h : Nat) (x1 : Int32) (x2 : Int32) (x3 : Int32) (s0 : Int32) (S : xm_S) (g : xm_S → Prop) (Z55 : Int32 → Int32 → xm_S → Prop) : Prop :=
  ∀ y23, y23 = ((nI 3) * s0) → wp_X12_installs_95 h x1 x2 x3 s0 y23 S g Z55
set_option maxRecDepth 100000 in
set_option maxHeartbeats 4000000 in
theorem kp_X12_installs_87 {K : xm_K} (h : Nat) (x1 : Int32) (x2 : Int32) (x3 : Int32) (s0 : Int32) (S : xm_S) {g : xm_S → Prop} {Z55 : Int32 → Int32 → xm_S → Prop} (C : xm_Cx K cX12_installs RX12 6 none rm_X12_installs) (N : xm_Nx K) (hg : ∀ S, g S → xm_q K none S) (hZ55 : ∀ x1 x2 S, Z55 x1 x2 S → xm_W K 0 0 55 [(0, xm_r (some h)), (1, xm_i x1), (2, xm_i x2)] [] S) (h1 : wp_X12_installs_87 h x1 x2 x3 s0 S g Z55) : xm_W K 0 0 87 [(0, xm_r (some h)), (1, xm_i x1), (2, xm_i x2), (3, xm_i x3)] [xm_i s0] S := by
  unfold wp_X12_installs_87 at h1
  refine x_istore (L' := [(4, xm_i s0), (0, xm_r (some h)), (1, xm_i x1), (2, xm_i x2), (3, xm_i x3)]) C dX12_installs_87 (by decide) rfl ?_
  refine x_iconst (v := (nI 3)) C dX12_installs_89 (by decide) ?_
  refine x_iload C 0 dX12_installs_90 rfl ?_
  refine x_imul C dX12_installs_92 ?_
  refine x_topi (fun y23 e24 => ?_)
  have h1 := h1 y23 e24
  refine x_istore (L' := [(5, xm_i y23), (4, xm_i s0), (0, xm_r (some h)), (1, xm_i x1), (2, xm_i x2), (3, xm_i x3)]) C dX12_installs_93 (by decide) rfl ?_
  refine x_keep (L' := [(0, xm_r (some h)), (1, xm_i x1), (2, xm_i x2), (3, xm_i x3), (4, xm_i s0), (5, xm_i y23)]) C [2, 3, 4, 5, 1, 0] rfl ?_
  exact kp_X12_installs_95 h x1 x2 x3 s0 y23 S C N hg hZ55 h1
def wp_X12_installs_185B (h : Nat) (x2 : Int32) (S : xm_S) (g : xm_S → Prop) (Z185 : Int32 → xm_S → Prop) : Prop :=
  ((nI 54) ≤ x2 → st_t S h = some (12, 0) ∧ ∀ S26, S26 = st_pi S h 56 ((st_i S h 56) + (1 : Int32)) → ∀ S28, S28 = st_pi S26 h 55 (st_i S26 h 54) → ∀ S30, S30 = st_pi S28 h 54 ((st_i S28 h 54) + (1 : Int32)) → g S30) ∧ (¬ (nI 54) ≤ x2 → st_t S h = some (12, 0) ∧ ∃ n33, (st_r S h 50) = some n33 ∧ ∃ z36, st_t S n33 = some (100, z36) ∧ vp_in x2 z36 ∧ ∃ n38, (st_r S h 59) = some n38 ∧ ∃ z41, st_t S n38 = some (100, z41) ∧ vp_in (((nI 54) * (st_i S h 56)) + x2) z41 ∧ ∀ S43, S43 = st_pi S n38 ((((nI 54) * (st_i S h 56)) + x2)).toNatClampNeg (st_i S n33 (x2).toNatClampNeg) → ∀ y45, y45 = (x2 + (1 : Int32)) → Z185 y45 S43)
def wp_X12_installs_185 (h : Nat) (x2 : Int32) (S : xm_S) (g : xm_S → Prop) : Prop :=
  ∀ Z185 : Int32 → xm_S → Prop, (∀ x2 S, wp_X12_installs_185B h x2 S g Z185 → Z185 x2 S) → Z185 x2 S
set_option maxRecDepth 100000 in
set_option maxHeartbeats 4000000 in
theorem kp_X12_installs_185B {K : xm_K} (h : Nat) (x2 : Int32) (S : xm_S) {g : xm_S → Prop} {Z185 : Int32 → xm_S → Prop} (C : xm_Cx K cX12_installs RX12 6 none rm_X12_installs) (N : xm_Nx K) (hg : ∀ S, g S → xm_q K none S) (hZ185 : ∀ x2 S, Z185 x2 S → xm_W K 0 0 185 [(0, xm_r (some h)), (2, xm_i x2)] [] S) (h1 : wp_X12_installs_185B h x2 S g Z185) : xm_W K 0 0 185 [(0, xm_r (some h)), (2, xm_i x2)] [] S := by
  unfold wp_X12_installs_185B at h1
  refine x_iload_n C 1 dX12_installs_185 rfl rfl ?_
  refine x_bipush (v := (nI 54)) C dX12_installs_186 (by decide) ?_
  refine x_icmp_ge (tgt := 217) C dX12_installs_188 (by decide) (fun z9 => ?_) (fun z9 => ?_)
  · have h1 := h1.1 z9
    refine x_aload_n C 0 dX12_installs_217 rfl rfl ?_
    refine x_dup_r C dX12_installs_218 ?_
    obtain ⟨ht25, h1⟩ := h1
    refine x_getf_i (n := h) C rfl ht25 fd_197 (by decide) dX12_installs_219 ?_
    refine x_iconst (v := (1 : Int32)) C dX12_installs_222 (by decide) ?_
    refine x_iadd C dX12_installs_223 ?_
    refine x_putf_i (n := h) C rfl ht25 fd_197 xc_12 (by decide) rfl ⟨rfl, rfl⟩ dX12_installs_224 ?_
    refine x_topS (fun S26 e27 => ?_)
    have h1 := h1 S26 e27
    refine x_aload_n C 0 dX12_installs_227 rfl rfl ?_
    refine x_aload_n C 0 dX12_installs_228 rfl rfl ?_
    refine x_getf_i (n := h) C rfl (tk_p e27 ht25) fd_221 (by decide) dX12_installs_229 ?_
    refine x_putf_i (n := h) C rfl (tk_p e27 ht25) fd_200 xc_12 (by decide) rfl ⟨rfl, rfl⟩ dX12_installs_232 ?_
    refine x_topS (fun S28 e29 => ?_)
    have h1 := h1 S28 e29
    refine x_aload_n C 0 dX12_installs_235 rfl rfl ?_
    refine x_dup_r C dX12_installs_236 ?_
    refine x_getf_i (n := h) C rfl (tk_p e29 (tk_p e27 ht25)) fd_221 (by decide) dX12_installs_237 ?_
    refine x_iconst (v := (1 : Int32)) C dX12_installs_240 (by decide) ?_
    refine x_iadd C dX12_installs_241 ?_
    refine x_putf_i (n := h) C rfl (tk_p e29 (tk_p e27 ht25)) fd_221 xc_12 (by decide) rfl ⟨rfl, rfl⟩ dX12_installs_242 ?_
    refine x_topS (fun S30 e31 => ?_)
    have h1 := h1 S30 e31
    exact x_vret C (Nat.le_of_ble_eq_true rfl) (Nat.le_of_ble_eq_true rfl) rfl dX12_installs_245 (hg _ h1)
  · have h1 := h1.2 z9
    refine x_aload_n C 0 dX12_installs_191 rfl rfl ?_
    obtain ⟨ht32, h1⟩ := h1
    refine x_getf_r (n := h) C rfl ht32 fd_196 (by decide) dX12_installs_192 ?_
    refine x_bipush (v := (nI 54)) C dX12_installs_195 (by decide) ?_
    refine x_aload_n C 0 dX12_installs_197 rfl rfl ?_
    refine x_getf_i (n := h) C rfl ht32 fd_197 (by decide) dX12_installs_198 ?_
    refine x_imul C dX12_installs_201 ?_
    refine x_iload_n C 1 dX12_installs_202 rfl rfl ?_
    refine x_iadd C dX12_installs_203 ?_
    refine x_aload_n C 0 dX12_installs_204 rfl rfl ?_
    refine x_getf_r (n := h) C rfl ht32 fd_203 (by decide) dX12_installs_205 ?_
    refine x_iload_n C 1 dX12_installs_208 rfl rfl ?_
    obtain ⟨n33, hr34, h1⟩ := h1
    obtain ⟨z36, ht35, h1⟩ := h1
    obtain ⟨hi37, h1⟩ := h1
    refine x_iald (n := n33) C hr34 ht35 hi37 dX12_installs_209 ?_
    obtain ⟨n38, hr39, h1⟩ := h1
    obtain ⟨z41, ht40, h1⟩ := h1
    obtain ⟨hi42, h1⟩ := h1
    refine x_iast (n := n38) C hr39 ht40 hi42 dX12_installs_210 ?_
    refine x_topS (fun S43 e44 => ?_)
    have h1 := h1 S43 e44
    obtain ⟨y45, e46⟩ : ∃ y45, y45 = (x2 + (1 : Int32)) := ⟨_, rfl⟩
    have h1 := h1 y45 e46
    refine x_iinc (v := y45) (L' := [(2, xm_i y45), (0, xm_r (some h))]) C 1 dX12_installs_211 rfl (by rw [e46]; rfl) (by decide) rfl ?_
    refine x_goto (tgt := 185) C dX12_installs_214 (by decide) ?_
    refine x_keep (L' := [(0, xm_r (some h)), (2, xm_i y45)]) C [1, 0] rfl ?_
    exact hZ185 y45 S43 h1
theorem kp_X12_installs_185 {K : xm_K} (h : Nat) (x2 : Int32) (S : xm_S) {g : xm_S → Prop} (C : xm_Cx K cX12_installs RX12 6 none rm_X12_installs) (N : xm_Nx K) (hg : ∀ S, g S → xm_q K none S)  (h1 : wp_X12_installs_185 h x2 S g) : xm_W K 0 0 185 [(0, xm_r (some h)), (2, xm_i x2)] [] S :=
  h1 (fun x2 S => xm_W K 0 0 185 [(0, xm_r (some h)), (2, xm_i x2)] [] S) (fun x2 S hb => kp_X12_installs_185B h x2 S C N hg (fun x2 S hz => hz) hb)
def wp_X12_installs_160 (h : Nat)  (S : xm_S) (g : xm_S → Prop) : Prop :=
  st_t S h = some (12, 0) ∧ ∃ n48, (st_r S h 57) = some n48 ∧ ∃ z51, st_t S n48 = some (100, z51) ∧ vp_in (st_i S h 56) z51 ∧ ∀ S53, S53 = st_pi S n48 ((st_i S h 56)).toNatClampNeg (st_i S h 54) → ∃ n55, (st_r S53 h 58) = some n55 ∧ ∃ z58, st_t S53 n55 = some (101, z58) ∧ vp_in (st_i S53 h 56) z58 ∧ ∀ S60, S60 = st_pi S53 n55 ((st_i S53 h 56)).toNatClampNeg (0 : Int32) → wp_X12_installs_185 h (0 : Int32) S60 g
set_option maxRecDepth 100000 in
set_option maxHeartbeats 4000000 in
theorem kp_X12_installs_160 {K : xm_K} (h : Nat)  (S : xm_S) {g : xm_S → Prop} (C : xm_Cx K cX12_installs RX12 6 none rm_X12_installs) (N : xm_Nx K) (hg : ∀ S, g S → xm_q K none S)  (h1 : wp_X12_installs_160 h  S g) : xm_W K 0 0 160 [(0, xm_r (some h))] [] S := by
  unfold wp_X12_installs_160 at h1
  refine x_aload_n C 0 dX12_installs_160 rfl rfl ?_
  obtain ⟨ht47, h1⟩ := h1
  refine x_getf_r (n := h) C rfl ht47 fd_198 (by decide) dX12_installs_161 ?_
  refine x_aload_n C 0 dX12_installs_164 rfl rfl ?_
  refine x_getf_i (n := h) C rfl ht47 fd_197 (by decide) dX12_installs_165 ?_
  refine x_aload_n C 0 dX12_installs_168 rfl rfl ?_
  refine x_getf_i (n := h) C rfl ht47 fd_221 (by decide) dX12_installs_169 ?_
  obtain ⟨n48, hr49, h1⟩ := h1
  obtain ⟨z51, ht50, h1⟩ := h1
  obtain ⟨hi52, h1⟩ := h1
  refine x_iast (n := n48) C hr49 ht50 hi52 dX12_installs_172 ?_
  refine x_topS (fun S53 e54 => ?_)
  have h1 := h1 S53 e54
  refine x_aload_n C 0 dX12_installs_173 rfl rfl ?_
  refine x_getf_r (n := h) C rfl (tk_p e54 ht47) fd_199 (by decide) dX12_installs_174 ?_
  refine x_aload_n C 0 dX12_installs_177 rfl rfl ?_
  refine x_getf_i (n := h) C rfl (tk_p e54 ht47) fd_197 (by decide) dX12_installs_178 ?_
  refine x_iconst (v := (0 : Int32)) C dX12_installs_181 (by decide) ?_
  obtain ⟨n55, hr56, h1⟩ := h1
  obtain ⟨z58, ht57, h1⟩ := h1
  obtain ⟨hi59, h1⟩ := h1
  refine x_zast (n := n55) C hr56 ht57 hi59 (by decide) dX12_installs_182 ?_
  refine x_topS (fun S60 e61 => ?_)
  have h1 := h1 S60 e61
  refine x_iconst (v := (0 : Int32)) C dX12_installs_183 (by decide) ?_
  refine x_istore_n (L' := [(2, xm_i (0 : Int32)), (0, xm_r (some h))]) C dX12_installs_184 rfl (by decide) rfl ?_
  refine x_keep (L' := [(0, xm_r (some h)), (2, xm_i (0 : Int32))]) C [1, 0] rfl ?_
  exact kp_X12_installs_185 h (0 : Int32) S60 C N hg  h1
def wp_X12_installs_55B (h : Nat) (x1 : Int32) (x2 : Int32) (S : xm_S) (g : xm_S → Prop) (Z55 : Int32 → Int32 → xm_S → Prop) : Prop :=
  ((nI 6) ≤ x2 → st_t S h = some (12, 0) ∧ (¬ (st_i S h 56) = (nI 6) → wp_X12_installs_160 h S g) ∧ ((st_i S h 56) = (nI 6) → wp_X12_goner h S (fun r64 S63 => st_t S63 h = some (12, 0) ∧ wp_X12_drops h r64 S63 (fun S66 => wp_X12_installs_160 h S66 g)))) ∧ (¬ (nI 6) ≤ x2 → st_t S h = some (12, 0) ∧ ∃ n69, (st_r S h 29) = some n69 ∧ ∃ z72, st_t S n69 = some (100, z72) ∧ vp_in (((nI 6) * x1) + x2) z72 ∧ ∀ y74, y74 = (st_i S n69 ((((nI 6) * x1) + x2)).toNatClampNeg) → (¬ y74 = (-1 : Int32) → wp_X12_installs_87 h x1 x2 y74 (((nI 4) * x2) + y74) S g Z55) ∧ (y74 = (-1 : Int32) → wp_X12_installs_87 h x1 x2 y74 (0 : Int32) S g Z55))
def wp_X12_installs_55 (h : Nat) (x1 : Int32) (x2 : Int32) (S : xm_S) (g : xm_S → Prop) : Prop :=
  ∀ Z55 : Int32 → Int32 → xm_S → Prop, (∀ x1 x2 S, wp_X12_installs_55B h x1 x2 S g Z55 → Z55 x1 x2 S) → Z55 x1 x2 S
set_option maxRecDepth 100000 in
set_option maxHeartbeats 4000000 in
theorem kp_X12_installs_55B {K : xm_K} (h : Nat) (x1 : Int32) (x2 : Int32) (S : xm_S) {g : xm_S → Prop} {Z55 : Int32 → Int32 → xm_S → Prop} (C : xm_Cx K cX12_installs RX12 6 none rm_X12_installs) (N : xm_Nx K) (hg : ∀ S, g S → xm_q K none S) (hZ55 : ∀ x1 x2 S, Z55 x1 x2 S → xm_W K 0 0 55 [(0, xm_r (some h)), (1, xm_i x1), (2, xm_i x2)] [] S) (h1 : wp_X12_installs_55B h x1 x2 S g Z55) : xm_W K 0 0 55 [(0, xm_r (some h)), (1, xm_i x1), (2, xm_i x2)] [] S := by
  unfold wp_X12_installs_55B at h1
  refine x_iload_n C 2 dX12_installs_55 rfl rfl ?_
  refine x_bipush (v := (nI 6)) C dX12_installs_56 (by decide) ?_
  refine x_icmp_ge (tgt := 143) C dX12_installs_58 (by decide) (fun z9 => ?_) (fun z9 => ?_)
  · have h1 := h1.1 z9
    refine x_aload_n C 0 dX12_installs_143 rfl rfl ?_
    obtain ⟨ht62, h1⟩ := h1
    refine x_getf_i (n := h) C rfl ht62 fd_197 (by decide) dX12_installs_144 ?_
    refine x_bipush (v := (nI 6)) C dX12_installs_147 (by decide) ?_
    refine x_icmp_ne (tgt := 160) C dX12_installs_149 (by decide) (fun z9 => ?_) (fun z9 => ?_)
    · have h1 := h1.1 z9
      refine x_keep (L' := [(0, xm_r (some h))]) C [0] rfl ?_
      exact kp_X12_installs_160 h S C N hg  h1
    · have h1 := h1.2 z9
      refine x_aload_n C 0 dX12_installs_152 rfl rfl ?_
      refine x_aload_n C 0 dX12_installs_153 rfl rfl ?_
      refine x_callV (rm' := rm_X12_goner) (n := h) C (kp_X12_goner_met h1) lk_126 gw_750 gw_751 xv_12 rfl rfl ht62 rfl (Nat.le_of_ble_eq_true rfl) ⟨Nat.le_of_ble_eq_true rfl, Nat.le_of_ble_eq_true rfl, (Nat.le_of_ble_eq_true rfl), (Nat.le_of_ble_eq_true rfl)⟩ dX12_installs_154 xm_kx (xm_ki (fun r64 S63 h1 => ?_))
      obtain ⟨ht65, h1⟩ := h1
      refine x_callV (rm' := rm_X12_drops) (n := h) C (kp_X12_drops_met h1) lk_118 gw_695 gw_696 xv_12 rfl rfl ht65 rfl (Nat.le_of_ble_eq_true rfl) ⟨Nat.le_of_ble_eq_true rfl, Nat.le_of_ble_eq_true rfl, (Nat.le_of_ble_eq_true rfl), (Nat.le_of_ble_eq_true rfl)⟩ dX12_installs_157 xm_kx (xm_kv (fun S66 h1 => ?_))
      refine x_keep (L' := [(0, xm_r (some h))]) C [0] rfl ?_
      exact kp_X12_installs_160 h S66 C N hg  h1
  · have h1 := h1.2 z9
    refine x_aload_n C 0 dX12_installs_61 rfl rfl ?_
    obtain ⟨ht68, h1⟩ := h1
    refine x_getf_r (n := h) C rfl ht68 fd_169 (by decide) dX12_installs_62 ?_
    refine x_bipush (v := (nI 6)) C dX12_installs_65 (by decide) ?_
    refine x_iload_n C 1 dX12_installs_67 rfl rfl ?_
    refine x_imul C dX12_installs_68 ?_
    refine x_iload_n C 2 dX12_installs_69 rfl rfl ?_
    refine x_iadd C dX12_installs_70 ?_
    obtain ⟨n69, hr70, h1⟩ := h1
    obtain ⟨z72, ht71, h1⟩ := h1
    obtain ⟨hi73, h1⟩ := h1
    refine x_iald (n := n69) C hr70 ht71 hi73 dX12_installs_71 ?_
    refine x_topi (fun y74 e75 => ?_)
    have h1 := h1 y74 e75
    refine x_istore_n (L' := [(3, xm_i y74), (0, xm_r (some h)), (1, xm_i x1), (2, xm_i x2)]) C dX12_installs_72 rfl (by decide) rfl ?_
    refine x_iload_n C 0 dX12_installs_73 rfl rfl ?_
    refine x_iconst (v := (-1 : Int32)) C dX12_installs_74 (by decide) ?_
    refine x_icmp_ne (tgt := 82) C dX12_installs_75 (by decide) (fun z9 => ?_) (fun z9 => ?_)
    · have h1 := h1.1 z9
      refine x_iconst (v := (nI 4)) C dX12_installs_82 (by decide) ?_
      refine x_iload_n C 3 dX12_installs_83 rfl rfl ?_
      refine x_imul C dX12_installs_84 ?_
      refine x_iload_n C 0 dX12_installs_85 rfl rfl ?_
      refine x_iadd C dX12_installs_86 ?_
      refine x_keep (L' := [(0, xm_r (some h)), (1, xm_i x1), (2, xm_i x2), (3, xm_i y74)]) C [1, 2, 3, 0] rfl ?_
      exact kp_X12_installs_87 h x1 x2 y74 (((nI 4) * x2) + y74) S C N hg hZ55 h1
    · have h1 := h1.2 z9
      refine x_iconst (v := (0 : Int32)) C dX12_installs_78 (by decide) ?_
      refine x_goto (tgt := 87) C dX12_installs_79 (by decide) ?_
      refine x_keep (L' := [(0, xm_r (some h)), (1, xm_i x1), (2, xm_i x2), (3, xm_i y74)]) C [1, 2, 3, 0] rfl ?_
      exact kp_X12_installs_87 h x1 x2 y74 (0 : Int32) S C N hg hZ55 h1
theorem kp_X12_installs_55 {K : xm_K} (h : Nat) (x1 : Int32) (x2 : Int32) (S : xm_S) {g : xm_S → Prop} (C : xm_Cx K cX12_installs RX12 6 none rm_X12_installs) (N : xm_Nx K) (hg : ∀ S, g S → xm_q K none S)  (h1 : wp_X12_installs_55 h x1 x2 S g) : xm_W K 0 0 55 [(0, xm_r (some h)), (1, xm_i x1), (2, xm_i x2)] [] S :=
  h1 (fun x1 x2 S => xm_W K 0 0 55 [(0, xm_r (some h)), (1, xm_i x1), (2, xm_i x2)] [] S) (fun x1 x2 S hb => kp_X12_installs_55B h x1 x2 S C N hg (fun x1 x2 S hz => hz) hb)
def wp_X12_installs_2B (h : Nat) (x1 : Int32) (x2 : Int32) (S : xm_S) (g : xm_S → Prop) (Z2 : Int32 → Int32 → xm_S → Prop) : Prop :=
  ((nI 16) ≤ x2 → wp_X12_installs_55 h x1 (0 : Int32) S g) ∧ (¬ (nI 16) ≤ x2 → st_t S h = some (12, 0) ∧ ∃ n77, (st_r S h 51) = some n77 ∧ ∃ z80, st_t S n77 = some (100, z80) ∧ vp_in x2 z80 ∧ (¬ (st_i S n77 (x2).toNatClampNeg) = 0 → wp_X12_installs_47 h x1 x2 S g Z2) ∧ ((st_i S n77 (x2).toNatClampNeg) = 0 → ∃ n82, (st_r S h 50) = some n82 ∧ ∃ z85, st_t S n82 = some (100, z85) ∧ vp_in ((nI 6) + x2) z85 ∧ ∀ S87, S87 = st_pi S n82 (((nI 6) + x2)).toNatClampNeg (-1 : Int32) → ∃ n89, (st_r S87 h 50) = some n89 ∧ ∃ z92, st_t S87 n89 = some (100, z92) ∧ vp_in ((nI 22) + x2) z92 ∧ ∀ S94, S94 = st_pi S87 n89 (((nI 22) + x2)).toNatClampNeg (-1 : Int32) → ∃ n96, (st_r S94 h 50) = some n96 ∧ ∃ z99, st_t S94 n96 = some (100, z99) ∧ vp_in ((nI 38) + x2) z99 ∧ ∀ S101, S101 = st_pi S94 n96 (((nI 38) + x2)).toNatClampNeg (-1 : Int32) → wp_X12_installs_47 h x1 x2 S101 g Z2))
def wp_X12_installs_2 (h : Nat) (x1 : Int32) (x2 : Int32) (S : xm_S) (g : xm_S → Prop) : Prop :=
  ∀ Z2 : Int32 → Int32 → xm_S → Prop, (∀ x1 x2 S, wp_X12_installs_2B h x1 x2 S g Z2 → Z2 x1 x2 S) → Z2 x1 x2 S
set_option maxRecDepth 100000 in
set_option maxHeartbeats 4000000 in
theorem kp_X12_installs_2B {K : xm_K} (h : Nat) (x1 : Int32) (x2 : Int32) (S : xm_S) {g : xm_S → Prop} {Z2 : Int32 → Int32 → xm_S → Prop} (C : xm_Cx K cX12_installs RX12 6 none rm_X12_installs) (N : xm_Nx K) (hg : ∀ S, g S → xm_q K none S) (hZ2 : ∀ x1 x2 S, Z2 x1 x2 S → xm_W K 0 0 2 [(0, xm_r (some h)), (1, xm_i x1), (2, xm_i x2)] [] S) (h1 : wp_X12_installs_2B h x1 x2 S g Z2) : xm_W K 0 0 2 [(0, xm_r (some h)), (1, xm_i x1), (2, xm_i x2)] [] S := by
  unfold wp_X12_installs_2B at h1
  refine x_iload_n C 2 dX12_installs_2 rfl rfl ?_
  refine x_bipush (v := (nI 16)) C dX12_installs_3 (by decide) ?_
  refine x_icmp_ge (tgt := 53) C dX12_installs_5 (by decide) (fun z9 => ?_) (fun z9 => ?_)
  · have h1 := h1.1 z9
    refine x_iconst (v := (0 : Int32)) C dX12_installs_53 (by decide) ?_
    refine x_istore_n (L' := [(2, xm_i (0 : Int32)), (0, xm_r (some h)), (1, xm_i x1)]) C dX12_installs_54 rfl (by decide) rfl ?_
    refine x_keep (L' := [(0, xm_r (some h)), (1, xm_i x1), (2, xm_i (0 : Int32))]) C [1, 2, 0] rfl ?_
    exact kp_X12_installs_55 h x1 (0 : Int32) S C N hg  h1
  · have h1 := h1.2 z9
    refine x_aload_n C 0 dX12_installs_8 rfl rfl ?_
    obtain ⟨ht76, h1⟩ := h1
    refine x_getf_r (n := h) C rfl ht76 fd_220 (by decide) dX12_installs_9 ?_
    refine x_iload_n C 2 dX12_installs_12 rfl rfl ?_
    obtain ⟨n77, hr78, h1⟩ := h1
    obtain ⟨z80, ht79, h1⟩ := h1
    obtain ⟨hi81, h1⟩ := h1
    refine x_iald (n := n77) C hr78 ht79 hi81 dX12_installs_13 ?_
    refine x_if_ne (tgt := 47) C dX12_installs_14 (by decide) (fun z9 => ?_) (fun z9 => ?_)
    · have h1 := h1.1 z9
      exact kp_X12_installs_47 h x1 x2 S C N hg hZ2 h1
    · have h1 := h1.2 z9
      refine x_aload_n C 0 dX12_installs_17 rfl rfl ?_
      refine x_getf_r (n := h) C rfl ht76 fd_203 (by decide) dX12_installs_18 ?_
      refine x_bipush (v := (nI 6)) C dX12_installs_21 (by decide) ?_
      refine x_iload_n C 2 dX12_installs_23 rfl rfl ?_
      refine x_iadd C dX12_installs_24 ?_
      refine x_iconst (v := (-1 : Int32)) C dX12_installs_25 (by decide) ?_
      obtain ⟨n82, hr83, h1⟩ := h1
      obtain ⟨z85, ht84, h1⟩ := h1
      obtain ⟨hi86, h1⟩ := h1
      refine x_iast (n := n82) C hr83 ht84 hi86 dX12_installs_26 ?_
      refine x_topS (fun S87 e88 => ?_)
      have h1 := h1 S87 e88
      refine x_aload_n C 0 dX12_installs_27 rfl rfl ?_
      refine x_getf_r (n := h) C rfl (tk_p e88 ht76) fd_203 (by decide) dX12_installs_28 ?_
      refine x_bipush (v := (nI 22)) C dX12_installs_31 (by decide) ?_
      refine x_iload_n C 2 dX12_installs_33 rfl rfl ?_
      refine x_iadd C dX12_installs_34 ?_
      refine x_iconst (v := (-1 : Int32)) C dX12_installs_35 (by decide) ?_
      obtain ⟨n89, hr90, h1⟩ := h1
      obtain ⟨z92, ht91, h1⟩ := h1
      obtain ⟨hi93, h1⟩ := h1
      refine x_iast (n := n89) C hr90 ht91 hi93 dX12_installs_36 ?_
      refine x_topS (fun S94 e95 => ?_)
      have h1 := h1 S94 e95
      refine x_aload_n C 0 dX12_installs_37 rfl rfl ?_
      refine x_getf_r (n := h) C rfl (tk_p e95 (tk_p e88 ht76)) fd_203 (by decide) dX12_installs_38 ?_
      refine x_bipush (v := (nI 38)) C dX12_installs_41 (by decide) ?_
      refine x_iload_n C 2 dX12_installs_43 rfl rfl ?_
      refine x_iadd C dX12_installs_44 ?_
      refine x_iconst (v := (-1 : Int32)) C dX12_installs_45 (by decide) ?_
      obtain ⟨n96, hr97, h1⟩ := h1
      obtain ⟨z99, ht98, h1⟩ := h1
      obtain ⟨hi100, h1⟩ := h1
      refine x_iast (n := n96) C hr97 ht98 hi100 dX12_installs_46 ?_
      refine x_topS (fun S101 e102 => ?_)
      have h1 := h1 S101 e102
      exact kp_X12_installs_47 h x1 x2 S101 C N hg hZ2 h1
theorem kp_X12_installs_2 {K : xm_K} (h : Nat) (x1 : Int32) (x2 : Int32) (S : xm_S) {g : xm_S → Prop} (C : xm_Cx K cX12_installs RX12 6 none rm_X12_installs) (N : xm_Nx K) (hg : ∀ S, g S → xm_q K none S)  (h1 : wp_X12_installs_2 h x1 x2 S g) : xm_W K 0 0 2 [(0, xm_r (some h)), (1, xm_i x1), (2, xm_i x2)] [] S :=
  h1 (fun x1 x2 S => xm_W K 0 0 2 [(0, xm_r (some h)), (1, xm_i x1), (2, xm_i x2)] [] S) (fun x1 x2 S hb => kp_X12_installs_2B h x1 x2 S C N hg (fun x1 x2 S hz => hz) hb)
def wp_X12_installs (h : Nat) (x1 : Int32) (S : xm_S) (g : xm_S → Prop) : Prop :=
  wp_X12_installs_2 h x1 (0 : Int32) S g
set_option maxRecDepth 100000 in
set_option maxHeartbeats 4000000 in
theorem kp_X12_installs {K : xm_K} (h : Nat) (x1 : Int32) (S : xm_S) {g : xm_S → Prop} (C : xm_Cx K cX12_installs RX12 6 none rm_X12_installs) (N : xm_Nx K) (hg : ∀ S, g S → xm_q K none S)  (h1 : wp_X12_installs h x1 S g) : xm_W K 0 0 0 [(0, xm_r (some h)), (1, xm_i x1)] [] S := by
  unfold wp_X12_installs at h1
  refine x_iconst (v := (0 : Int32)) C dX12_installs_0 (by decide) ?_
  refine x_istore_n (L' := [(2, xm_i (0 : Int32)), (0, xm_r (some h)), (1, xm_i x1)]) C dX12_installs_1 rfl (by decide) rfl ?_
  refine x_keep (L' := [(0, xm_r (some h)), (1, xm_i x1), (2, xm_i (0 : Int32))]) C [1, 2, 0] rfl ?_
  exact kp_X12_installs_2 h x1 (0 : Int32) S C N hg  h1
theorem kp_X12_installs_met {h : Nat} {x1 : Int32} {S : xm_S} {g : xm_S → Prop}  (h1 : wp_X12_installs h x1 S g) : xm_Met yX12_installs cX12_installs 6 none rm_X12_installs [xm_r (some h), xm_i x1] S (xm_qv g) xm_nox :=
  xm_ofW RX12 (by decide +kernel) rfl (Nat.le_of_ble_eq_true rfl) (fun K C N hq hx hi => kp_X12_installs h x1 S C N (fun S h => by rw [hq]; exact ⟨rfl, h⟩)  h1)
