def rm_X12_laysFiles : Room := { frames := 2, cells := 0, slots := 0, locals := 42 }
theorem dX12_laysFiles_0 : decode cX12_laysFiles 0 = .ok (.iconst 0, 1) := by decide +kernel
theorem dX12_laysFiles_1 : decode cX12_laysFiles 1 = .ok (.istore_n 2, 1) := by decide +kernel
theorem dX12_laysFiles_2 : decode cX12_laysFiles 2 = .ok (.iconst 1, 1) := by decide +kernel
theorem dX12_laysFiles_3 : decode cX12_laysFiles 3 = .ok (.istore_n 3, 1) := by decide +kernel
theorem dX12_laysFiles_4 : decode cX12_laysFiles 4 = .ok (.iconst 0, 1) := by decide +kernel
theorem dX12_laysFiles_5 : decode cX12_laysFiles 5 = .ok (.istore 4, 2) := by decide +kernel
theorem dX12_laysFiles_7 : decode cX12_laysFiles 7 = .ok (.iload 4, 2) := by decide +kernel
theorem dX12_laysFiles_9 : decode cX12_laysFiles 9 = .ok (.bipush 16, 2) := by decide +kernel
theorem dX12_laysFiles_11 : decode cX12_laysFiles 11 = .ok (.if_icmp .ge 17, 3) := by decide +kernel
theorem dX12_laysFiles_14 : decode cX12_laysFiles 14 = .ok (.aload_n 0, 1) := by decide +kernel
theorem dX12_laysFiles_15 : decode cX12_laysFiles 15 = .ok (.getfield 151, 3) := by decide +kernel
theorem dX12_laysFiles_18 : decode cX12_laysFiles 18 = .ok (.iload 4, 2) := by decide +kernel
theorem dX12_laysFiles_20 : decode cX12_laysFiles 20 = .ok (.iconst 0, 1) := by decide +kernel
theorem dX12_laysFiles_21 : decode cX12_laysFiles 21 = .ok (.iastore, 1) := by decide +kernel
theorem dX12_laysFiles_22 : decode cX12_laysFiles 22 = .ok (.iinc 4 1, 3) := by decide +kernel
theorem dX12_laysFiles_25 : decode cX12_laysFiles 25 = .ok (.goto (-18), 3) := by decide +kernel
theorem dX12_laysFiles_28 : decode cX12_laysFiles 28 = .ok (.iconst 0, 1) := by decide +kernel
theorem dX12_laysFiles_29 : decode cX12_laysFiles 29 = .ok (.istore 4, 2) := by decide +kernel
theorem dX12_laysFiles_31 : decode cX12_laysFiles 31 = .ok (.iload 4, 2) := by decide +kernel
theorem dX12_laysFiles_33 : decode cX12_laysFiles 33 = .ok (.bipush 6, 2) := by decide +kernel
theorem dX12_laysFiles_35 : decode cX12_laysFiles 35 = .ok (.if_icmp .ge 126, 3) := by decide +kernel
theorem dX12_laysFiles_38 : decode cX12_laysFiles 38 = .ok (.aload_n 0, 1) := by decide +kernel
theorem dX12_laysFiles_39 : decode cX12_laysFiles 39 = .ok (.getfield 90, 3) := by decide +kernel
theorem dX12_laysFiles_42 : decode cX12_laysFiles 42 = .ok (.bipush 6, 2) := by decide +kernel
theorem dX12_laysFiles_44 : decode cX12_laysFiles 44 = .ok (.iload_n 1, 1) := by decide +kernel
theorem dX12_laysFiles_45 : decode cX12_laysFiles 45 = .ok (.imul, 1) := by decide +kernel
theorem dX12_laysFiles_46 : decode cX12_laysFiles 46 = .ok (.iload 4, 2) := by decide +kernel
theorem dX12_laysFiles_48 : decode cX12_laysFiles 48 = .ok (.iadd, 1) := by decide +kernel
theorem dX12_laysFiles_49 : decode cX12_laysFiles 49 = .ok (.iaload, 1) := by decide +kernel
theorem dX12_laysFiles_50 : decode cX12_laysFiles 50 = .ok (.istore 5, 2) := by decide +kernel
theorem dX12_laysFiles_52 : decode cX12_laysFiles 52 = .ok (.iload 5, 2) := by decide +kernel
theorem dX12_laysFiles_54 : decode cX12_laysFiles 54 = .ok (.iconst (-1), 1) := by decide +kernel
theorem dX12_laysFiles_55 : decode cX12_laysFiles 55 = .ok (.if_icmp .ne 7, 3) := by decide +kernel
theorem dX12_laysFiles_58 : decode cX12_laysFiles 58 = .ok (.iconst 0, 1) := by decide +kernel
theorem dX12_laysFiles_59 : decode cX12_laysFiles 59 = .ok (.goto 10, 3) := by decide +kernel
theorem dX12_laysFiles_62 : decode cX12_laysFiles 62 = .ok (.iconst 4, 1) := by decide +kernel
theorem dX12_laysFiles_63 : decode cX12_laysFiles 63 = .ok (.iload 4, 2) := by decide +kernel
theorem dX12_laysFiles_65 : decode cX12_laysFiles 65 = .ok (.imul, 1) := by decide +kernel
theorem dX12_laysFiles_66 : decode cX12_laysFiles 66 = .ok (.iload 5, 2) := by decide +kernel
theorem dX12_laysFiles_68 : decode cX12_laysFiles 68 = .ok (.iadd, 1) := by decide +kernel
theorem dX12_laysFiles_69 : decode cX12_laysFiles 69 = .ok (.istore 6, 2) := by decide +kernel
theorem dX12_laysFiles_71 : decode cX12_laysFiles 71 = .ok (.iconst 3, 1) := by decide +kernel
theorem dX12_laysFiles_72 : decode cX12_laysFiles 72 = .ok (.iload 6, 2) := by decide +kernel
theorem dX12_laysFiles_74 : decode cX12_laysFiles 74 = .ok (.imul, 1) := by decide +kernel
theorem dX12_laysFiles_75 : decode cX12_laysFiles 75 = .ok (.istore 7, 2) := by decide +kernel
theorem dX12_laysFiles_77 : decode cX12_laysFiles 77 = .ok (.iload 7, 2) := by decide +kernel
theorem dX12_laysFiles_79 : decode cX12_laysFiles 79 = .ok (.iconst 3, 1) := by decide +kernel
theorem dX12_laysFiles_80 : decode cX12_laysFiles 80 = .ok (.iload 6, 2) := by decide +kernel
theorem dX12_laysFiles_82 : decode cX12_laysFiles 82 = .ok (.imul, 1) := by decide +kernel
theorem dX12_laysFiles_83 : decode cX12_laysFiles 83 = .ok (.aload_n 0, 1) := by decide +kernel
theorem dX12_laysFiles_84 : decode cX12_laysFiles 84 = .ok (.getfield 130, 3) := by decide +kernel
theorem dX12_laysFiles_87 : decode cX12_laysFiles 87 = .ok (.iload 6, 2) := by decide +kernel
theorem dX12_laysFiles_89 : decode cX12_laysFiles 89 = .ok (.iaload, 1) := by decide +kernel
theorem dX12_laysFiles_90 : decode cX12_laysFiles 90 = .ok (.iadd, 1) := by decide +kernel
theorem dX12_laysFiles_91 : decode cX12_laysFiles 91 = .ok (.if_icmp .ge 64, 3) := by decide +kernel
theorem dX12_laysFiles_94 : decode cX12_laysFiles 94 = .ok (.iload 5, 2) := by decide +kernel
theorem dX12_laysFiles_96 : decode cX12_laysFiles 96 = .ok (.iconst (-1), 1) := by decide +kernel
theorem dX12_laysFiles_97 : decode cX12_laysFiles 97 = .ok (.if_icmp .eq 58, 3) := by decide +kernel
theorem dX12_laysFiles_100 : decode cX12_laysFiles 100 = .ok (.aload_n 0, 1) := by decide +kernel
theorem dX12_laysFiles_101 : decode cX12_laysFiles 101 = .ok (.iload 4, 2) := by decide +kernel
theorem dX12_laysFiles_103 : decode cX12_laysFiles 103 = .ok (.aload_n 0, 1) := by decide +kernel
theorem dX12_laysFiles_104 : decode cX12_laysFiles 104 = .ok (.getfield 133, 3) := by decide +kernel
theorem dX12_laysFiles_107 : decode cX12_laysFiles 107 = .ok (.iload 7, 2) := by decide +kernel
theorem dX12_laysFiles_109 : decode cX12_laysFiles 109 = .ok (.iaload, 1) := by decide +kernel
theorem dX12_laysFiles_110 : decode cX12_laysFiles 110 = .ok (.invokevirtual 337, 3) := by decide +kernel
theorem dX12_laysFiles_113 : decode cX12_laysFiles 113 = .ok (.istore 8, 2) := by decide +kernel
theorem dX12_laysFiles_115 : decode cX12_laysFiles 115 = .ok (.iload_n 3, 1) := by decide +kernel
theorem dX12_laysFiles_116 : decode cX12_laysFiles 116 = .ok (.ifCond .eq 17, 3) := by decide +kernel
theorem dX12_laysFiles_119 : decode cX12_laysFiles 119 = .ok (.aload_n 0, 1) := by decide +kernel
theorem dX12_laysFiles_120 : decode cX12_laysFiles 120 = .ok (.getfield 151, 3) := by decide +kernel
theorem dX12_laysFiles_123 : decode cX12_laysFiles 123 = .ok (.iload 8, 2) := by decide +kernel
theorem dX12_laysFiles_125 : decode cX12_laysFiles 125 = .ok (.iaload, 1) := by decide +kernel
theorem dX12_laysFiles_126 : decode cX12_laysFiles 126 = .ok (.ifCond .ne 7, 3) := by decide +kernel
theorem dX12_laysFiles_129 : decode cX12_laysFiles 129 = .ok (.iconst 1, 1) := by decide +kernel
theorem dX12_laysFiles_130 : decode cX12_laysFiles 130 = .ok (.goto 4, 3) := by decide +kernel
theorem dX12_laysFiles_133 : decode cX12_laysFiles 133 = .ok (.iconst 0, 1) := by decide +kernel
theorem dX12_laysFiles_134 : decode cX12_laysFiles 134 = .ok (.istore_n 3, 1) := by decide +kernel
theorem dX12_laysFiles_135 : decode cX12_laysFiles 135 = .ok (.aload_n 0, 1) := by decide +kernel
theorem dX12_laysFiles_136 : decode cX12_laysFiles 136 = .ok (.getfield 151, 3) := by decide +kernel
theorem dX12_laysFiles_139 : decode cX12_laysFiles 139 = .ok (.iload 8, 2) := by decide +kernel
theorem dX12_laysFiles_141 : decode cX12_laysFiles 141 = .ok (.dup2, 1) := by decide +kernel
theorem dX12_laysFiles_142 : decode cX12_laysFiles 142 = .ok (.iaload, 1) := by decide +kernel
theorem dX12_laysFiles_143 : decode cX12_laysFiles 143 = .ok (.iconst 1, 1) := by decide +kernel
theorem dX12_laysFiles_144 : decode cX12_laysFiles 144 = .ok (.iadd, 1) := by decide +kernel
theorem dX12_laysFiles_145 : decode cX12_laysFiles 145 = .ok (.iastore, 1) := by decide +kernel
theorem dX12_laysFiles_146 : decode cX12_laysFiles 146 = .ok (.iinc 2 1, 3) := by decide +kernel
theorem dX12_laysFiles_149 : decode cX12_laysFiles 149 = .ok (.iinc 7 1, 3) := by decide +kernel
theorem dX12_laysFiles_152 : decode cX12_laysFiles 152 = .ok (.goto (-75), 3) := by decide +kernel
theorem dX12_laysFiles_155 : decode cX12_laysFiles 155 = .ok (.iinc 4 1, 3) := by decide +kernel
theorem dX12_laysFiles_158 : decode cX12_laysFiles 158 = .ok (.goto (-127), 3) := by decide +kernel
theorem dX12_laysFiles_161 : decode cX12_laysFiles 161 = .ok (.iload_n 3, 1) := by decide +kernel
theorem dX12_laysFiles_162 : decode cX12_laysFiles 162 = .ok (.ifCond .eq 7, 3) := by decide +kernel
theorem dX12_laysFiles_165 : decode cX12_laysFiles 165 = .ok (.iload_n 2, 1) := by decide +kernel
theorem dX12_laysFiles_166 : decode cX12_laysFiles 166 = .ok (.goto 4, 3) := by decide +kernel
theorem dX12_laysFiles_169 : decode cX12_laysFiles 169 = .ok (.iconst (-1), 1) := by decide +kernel
theorem dX12_laysFiles_170 : decode cX12_laysFiles 170 = .ok (.ireturn, 1) := by decide +kernel
def wp_X12_laysFiles_155 (h : Nat) (x1 : Int32) (x2 : Int32) (x3 : Int32) (x4 : Int32) (S : xm_S) (g : Int32 → xm_S → Prop) (Z31 : Int32 → Int32 → Int32 → Int32 → xm_S → Prop) : Prop :=
  ∀ y1, y1 = (x4 + (1 : Int32)) → Z31 x1 x2 x3 y1 S
set_option maxRecDepth 100000 in
set_option maxHeartbeats 4000000 in
theorem kp_X12_laysFiles_155 {K : xm_K} (h : Nat) (x1 : Int32) (x2 : Int32) (x3 : Int32) (x4 : Int32) (S : xm_S) {g : Int32 → xm_S → Prop} {Z31 : Int32 → Int32 → Int32 → Int32 → xm_S → Prop} (C : xm_Cx K cX12_laysFiles RX12 9 (some (FieldType.int)) rm_X12_laysFiles) (N : xm_Nx K) (hg : ∀ v S, g v S → xm_q K (some (xm_i v)) S) (hZ31 : ∀ x1 x2 x3 x4 S, Z31 x1 x2 x3 x4 S → xm_W K 0 0 31 [(0, xm_r (some h)), (1, xm_i x1), (2, xm_i x2), (3, xm_i x3), (4, xm_i x4)] [] S) (h1 : wp_X12_laysFiles_155 h x1 x2 x3 x4 S g Z31) : xm_W K 0 0 155 [(0, xm_r (some h)), (1, xm_i x1), (2, xm_i x2), (3, xm_i x3), (4, xm_i x4)] [] S := by
  unfold wp_X12_laysFiles_155 at h1
  obtain ⟨y1, e2⟩ : ∃ y1, y1 = (x4 + (1 : Int32)) := ⟨_, rfl⟩
  have h1 := h1 y1 e2
  refine x_iinc (v := y1) (L' := [(4, xm_i y1), (0, xm_r (some h)), (1, xm_i x1), (2, xm_i x2), (3, xm_i x3)]) C 4 dX12_laysFiles_155 rfl (by rw [e2]; rfl) (by decide) rfl ?_
  refine x_goto (tgt := 31) C dX12_laysFiles_158 (by decide) ?_
  refine x_keep (L' := [(0, xm_r (some h)), (1, xm_i x1), (2, xm_i x2), (3, xm_i x3), (4, xm_i y1)]) C [1, 2, 3, 4, 0] rfl ?_
  exact hZ31 x1 x2 x3 y1 S h1
def wp_X12_laysFiles_134 (h : Nat) (x1 : Int32) (x2 : Int32) (x4 : Int32) (x5 : Int32) (x6 : Int32) (x7 : Int32) (x8 : Int32) (s0 : Int32) (S : xm_S) (g : Int32 → xm_S → Prop) (Z31 : Int32 → Int32 → Int32 → Int32 → xm_S → Prop) (Z77 : Int32 → Int32 → Int32 → Int32 → Int32 → Int32 → Int32 → xm_S → Prop) : Prop :=
  st_t S h = some (12, 0) ∧ ∃ n4, (st_r S h 51) = some n4 ∧ ∃ z7, st_t S n4 = some (100, z7) ∧ vp_in x8 z7 ∧ ∃ n9, (st_r S h 51) = some n9 ∧ ∃ z12, st_t S n9 = some (100, z12) ∧ vp_in x8 z12 ∧ ∀ S14, S14 = st_pi S n9 (x8).toNatClampNeg ((st_i S n4 (x8).toNatClampNeg) + (1 : Int32)) → ∀ y16, y16 = (x2 + (1 : Int32)) → ∀ y18, y18 = (x7 + (1 : Int32)) → Z77 x1 y16 s0 x4 x5 x6 y18 S14
set_option maxRecDepth 100000 in
set_option maxHeartbeats 4000000 in
theorem kp_X12_laysFiles_134 {K : xm_K} (h : Nat) (x1 : Int32) (x2 : Int32) (x4 : Int32) (x5 : Int32) (x6 : Int32) (x7 : Int32) (x8 : Int32) (s0 : Int32) (S : xm_S) {g : Int32 → xm_S → Prop} {Z31 : Int32 → Int32 → Int32 → Int32 → xm_S → Prop} {Z77 : Int32 → Int32 → Int32 → Int32 → Int32 → Int32 → Int32 → xm_S → Prop} (C : xm_Cx K cX12_laysFiles RX12 9 (some (FieldType.int)) rm_X12_laysFiles) (N : xm_Nx K) (hg : ∀ v S, g v S → xm_q K (some (xm_i v)) S) (hZ31 : ∀ x1 x2 x3 x4 S, Z31 x1 x2 x3 x4 S → xm_W K 0 0 31 [(0, xm_r (some h)), (1, xm_i x1), (2, xm_i x2), (3, xm_i x3), (4, xm_i x4)] [] S) (hZ77 : ∀ x1 x2 x3 x4 x5 x6 x7 S, Z77 x1 x2 x3 x4 x5 x6 x7 S → xm_W K 0 0 77 [(0, xm_r (some h)), (1, xm_i x1), (2, xm_i x2), (3, xm_i x3), (4, xm_i x4), (5, xm_i x5), (6, xm_i x6), (7, xm_i x7)] [] S) (h1 : wp_X12_laysFiles_134 h x1 x2 x4 x5 x6 x7 x8 s0 S g Z31 Z77) : xm_W K 0 0 134 [(0, xm_r (some h)), (1, xm_i x1), (2, xm_i x2), (4, xm_i x4), (5, xm_i x5), (6, xm_i x6), (7, xm_i x7), (8, xm_i x8)] [xm_i s0] S := by
  unfold wp_X12_laysFiles_134 at h1
  refine x_istore_n (L' := [(3, xm_i s0), (0, xm_r (some h)), (1, xm_i x1), (2, xm_i x2), (4, xm_i x4), (5, xm_i x5), (6, xm_i x6), (7, xm_i x7), (8, xm_i x8)]) C dX12_laysFiles_134 rfl (by decide) rfl ?_
  refine x_aload_n C 1 dX12_laysFiles_135 rfl rfl ?_
  obtain ⟨ht3, h1⟩ := h1
  refine x_getf_r (n := h) C rfl ht3 fd_220 (by decide) dX12_laysFiles_136 ?_
  refine x_iload C 8 dX12_laysFiles_139 rfl ?_
  refine x_dup2_ir C dX12_laysFiles_141 ?_
  obtain ⟨n4, hr5, h1⟩ := h1
  obtain ⟨z7, ht6, h1⟩ := h1
  obtain ⟨hi8, h1⟩ := h1
  refine x_iald (n := n4) C hr5 ht6 hi8 dX12_laysFiles_142 ?_
  refine x_iconst (v := (1 : Int32)) C dX12_laysFiles_143 (by decide) ?_
  refine x_iadd C dX12_laysFiles_144 ?_
  obtain ⟨n9, hr10, h1⟩ := h1
  obtain ⟨z12, ht11, h1⟩ := h1
  obtain ⟨hi13, h1⟩ := h1
  refine x_iast (n := n9) C hr10 ht11 hi13 dX12_laysFiles_145 ?_
  refine x_topS (fun S14 e15 => ?_)
  have h1 := h1 S14 e15
  obtain ⟨y16, e17⟩ : ∃ y16, y16 = (x2 + (1 : Int32)) := ⟨_, rfl⟩
  have h1 := h1 y16 e17
  refine x_iinc (v := y16) (L' := [(2, xm_i y16), (3, xm_i s0), (0, xm_r (some h)), (1, xm_i x1), (4, xm_i x4), (5, xm_i x5), (6, xm_i x6), (7, xm_i x7), (8, xm_i x8)]) C 3 dX12_laysFiles_146 rfl (by rw [e17]; rfl) (by decide) rfl ?_
  obtain ⟨y18, e19⟩ : ∃ y18, y18 = (x7 + (1 : Int32)) := ⟨_, rfl⟩
  have h1 := h1 y18 e19
  refine x_iinc (v := y18) (L' := [(7, xm_i y18), (2, xm_i y16), (3, xm_i s0), (0, xm_r (some h)), (1, xm_i x1), (4, xm_i x4), (5, xm_i x5), (6, xm_i x6), (8, xm_i x8)]) C 7 dX12_laysFiles_149 rfl (by rw [e19]; rfl) (by decide) rfl ?_
  refine x_goto (tgt := 77) C dX12_laysFiles_152 (by decide) ?_
  refine x_keep (L' := [(0, xm_r (some h)), (1, xm_i x1), (2, xm_i y16), (3, xm_i s0), (4, xm_i x4), (5, xm_i x5), (6, xm_i x6), (7, xm_i y18)]) C [3, 4, 1, 2, 5, 6, 7, 0] rfl ?_
  exact hZ77 x1 y16 s0 x4 x5 x6 y18 S14 h1
def wp_X12_laysFiles_133 (h : Nat) (x1 : Int32) (x2 : Int32) (x4 : Int32) (x5 : Int32) (x6 : Int32) (x7 : Int32) (x8 : Int32) (S : xm_S) (g : Int32 → xm_S → Prop) (Z31 : Int32 → Int32 → Int32 → Int32 → xm_S → Prop) (Z77 : Int32 → Int32 → Int32 → Int32 → Int32 → Int32 → Int32 → xm_S → Prop) : Prop :=
  wp_X12_laysFiles_134 h x1 x2 x4 x5 x6 x7 x8 (0 : Int32) S g Z31 Z77
set_option maxRecDepth 100000 in
set_option maxHeartbeats 4000000 in
theorem kp_X12_laysFiles_133 {K : xm_K} (h : Nat) (x1 : Int32) (x2 : Int32) (x4 : Int32) (x5 : Int32) (x6 : Int32) (x7 : Int32) (x8 : Int32) (S : xm_S) {g : Int32 → xm_S → Prop} {Z31 : Int32 → Int32 → Int32 → Int32 → xm_S → Prop} {Z77 : Int32 → Int32 → Int32 → Int32 → Int32 → Int32 → Int32 → xm_S → Prop} (C : xm_Cx K cX12_laysFiles RX12 9 (some (FieldType.int)) rm_X12_laysFiles) (N : xm_Nx K) (hg : ∀ v S, g v S → xm_q K (some (xm_i v)) S) (hZ31 : ∀ x1 x2 x3 x4 S, Z31 x1 x2 x3 x4 S → xm_W K 0 0 31 [(0, xm_r (some h)), (1, xm_i x1), (2, xm_i x2), (3, xm_i x3), (4, xm_i x4)] [] S) (hZ77 : ∀ x1 x2 x3 x4 x5 x6 x7 S, Z77 x1 x2 x3 x4 x5 x6 x7 S → xm_W K 0 0 77 [(0, xm_r (some h)), (1, xm_i x1), (2, xm_i x2), (3, xm_i x3), (4, xm_i x4), (5, xm_i x5), (6, xm_i x6), (7, xm_i x7)] [] S) (h1 : wp_X12_laysFiles_133 h x1 x2 x4 x5 x6 x7 x8 S g Z31 Z77) : xm_W K 0 0 133 [(0, xm_r (some h)), (1, xm_i x1), (2, xm_i x2), (4, xm_i x4), (5, xm_i x5), (6, xm_i x6), (7, xm_i x7), (8, xm_i x8)] [] S := by
  unfold wp_X12_laysFiles_133 at h1
  refine x_iconst (v := (0 : Int32)) C dX12_laysFiles_133 (by decide) ?_
  exact kp_X12_laysFiles_134 h x1 x2 x4 x5 x6 x7 x8 (0 : Int32) S C N hg hZ31 hZ77 h1
def wp_X12_laysFiles_77B (h : Nat) (x1 : Int32) (x2 : Int32) (x3 : Int32) (x4 : Int32) (x5 : Int32) (x6 : Int32) (x7 : Int32) (S : xm_S) (g : Int32 → xm_S → Prop) (Z31 : Int32 → Int32 → Int32 → Int32 → xm_S → Prop) (Z77 : Int32 → Int32 → Int32 → Int32 → Int32 → Int32 → Int32 → xm_S → Prop) : Prop :=
  st_t S h = some (12, 0) ∧ ∃ n21, (st_r S h 44) = some n21 ∧ ∃ z24, st_t S n21 = some (100, z24) ∧ vp_in x6 z24 ∧ ((((nI 3) * x6) + (st_i S n21 (x6).toNatClampNeg)) ≤ x7 → wp_X12_laysFiles_155 h x1 x2 x3 x4 S g Z31) ∧ (¬ (((nI 3) * x6) + (st_i S n21 (x6).toNatClampNeg)) ≤ x7 → (x5 = (-1 : Int32) → wp_X12_laysFiles_155 h x1 x2 x3 x4 S g Z31) ∧ (¬ x5 = (-1 : Int32) → ∃ n26, (st_r S h 45) = some n26 ∧ ∃ z29, st_t S n26 = some (100, z29) ∧ vp_in x7 z29 ∧ wp_X12_placeOf h x4 (st_i S n26 (x7).toNatClampNeg) S (fun r32 S31 => (x3 = 0 → wp_X12_laysFiles_133 h x1 x2 x4 x5 x6 x7 r32 S31 g Z31 Z77) ∧ (¬ x3 = 0 → st_t S31 h = some (12, 0) ∧ ∃ n34, (st_r S31 h 51) = some n34 ∧ ∃ z37, st_t S31 n34 = some (100, z37) ∧ vp_in r32 z37 ∧ (¬ (st_i S31 n34 (r32).toNatClampNeg) = 0 → wp_X12_laysFiles_133 h x1 x2 x4 x5 x6 x7 r32 S31 g Z31 Z77) ∧ ((st_i S31 n34 (r32).toNatClampNeg) = 0 → wp_X12_laysFiles_134 h x1 x2 x4 x5 x6 x7 r32 (1 : Int32) S31 g Z31 Z77)))))
def wp_X12_laysFiles_77 (h : Nat) (x1 : Int32) (x2 : Int32) (x3 : Int32) (x4 : Int32) (x5 : Int32) (x6 : Int32) (x7 : Int32) (S : xm_S) (g : Int32 → xm_S → Prop) (Z31 : Int32 → Int32 → Int32 → Int32 → xm_S → Prop) : Prop :=
  ∀ Z77 : Int32 → Int32 → Int32 → Int32 → Int32 → Int32 → Int32 → xm_S → Prop, (∀ x1 x2 x3 x4 x5 x6 x7 S, wp_X12_laysFiles_77B h x1 x2 x3 x4 x5 x6 x7 S g Z31 Z77 → Z77 x1 x2 x3 x4 x5 x6 x7 S) → Z77 x1 x2 x3 x4 x5 x6 x7 S
set_option maxRecDepth 100000 in
set_option maxHeartbeats 4000000 in
theorem kp_X12_laysFiles_77B {K : xm_K} (h : Nat) (x1 : Int32) (x2 : Int32) (x3 : Int32) (x4 : Int32) (x5 : Int32) (x6 : Int32) (x7 : Int32) (S : xm_S) {g : Int32 → xm_S → Prop} {Z31 : Int32 → Int32 → Int32 → Int32 → xm_S → Prop} {Z77 : Int32 → Int32 → Int32 → Int32 → Int32 → Int32 → Int32 → xm_S → Prop} (C : xm_Cx K cX12_laysFiles RX12 9 (some (FieldType.int)) rm_X12_laysFiles) (N : xm_Nx K) (hg : ∀ v S, g v S → xm_q K (some (xm_i v)) S) (hZ31 : ∀ x1 x2 x3 x4 S, Z31 x1 x2 x3 x4 S → xm_W K 0 0 31 [(0, xm_r (some h)), (1, xm_i x1), (2, xm_i x2), (3, xm_i x3), (4, xm_i x4)] [] S) (hZ77 : ∀ x1 x2 x3 x4 x5 x6 x7 S, Z77 x1 x2 x3 x4 x5 x6 x7 S → xm_W K 0 0 77 [(0, xm_r (some h)), (1, xm_i x1), (2, xm_i x2), (3, xm_i x3), (4, xm_i x4), (5, xm_i x5), (6, xm_i x6), (7, xm_i x7)] [] S) (h1 : wp_X12_laysFiles_77B h x1 x2 x3 x4 x5 x6 x7 S g Z31 Z77) : xm_W K 0 0 77 [(0, xm_r (some h)), (1, xm_i x1), (2, xm_i x2), (3, xm_i x3), (4, xm_i x4), (5, xm_i x5), (6, xm_i x6), (7, xm_i x7)] [] S := by
  unfold wp_X12_laysFiles_77B at h1
  refine x_iload C 7 dX12_laysFiles_77 rfl ?_
  refine x_iconst (v := (nI 3)) C dX12_laysFiles_79 (by decide) ?_
  refine x_iload C 6 dX12_laysFiles_80 rfl ?_
  refine x_imul C dX12_laysFiles_82 ?_
  refine x_aload_n C 0 dX12_laysFiles_83 rfl rfl ?_
  obtain ⟨ht20, h1⟩ := h1
  refine x_getf_r (n := h) C rfl ht20 fd_209 (by decide) dX12_laysFiles_84 ?_
  refine x_iload C 6 dX12_laysFiles_87 rfl ?_
  obtain ⟨n21, hr22, h1⟩ := h1
  obtain ⟨z24, ht23, h1⟩ := h1
  obtain ⟨hi25, h1⟩ := h1
  refine x_iald (n := n21) C hr22 ht23 hi25 dX12_laysFiles_89 ?_
  refine x_iadd C dX12_laysFiles_90 ?_
  refine x_icmp_ge (tgt := 155) C dX12_laysFiles_91 (by decide) (fun z9 => ?_) (fun z9 => ?_)
  · have h1 := h1.1 z9
    refine x_keep (L' := [(0, xm_r (some h)), (1, xm_i x1), (2, xm_i x2), (3, xm_i x3), (4, xm_i x4)]) C [0, 1, 2, 3, 4] rfl ?_
    exact kp_X12_laysFiles_155 h x1 x2 x3 x4 S C N hg hZ31 h1
  · have h1 := h1.2 z9
    refine x_iload C 5 dX12_laysFiles_94 rfl ?_
    refine x_iconst (v := (-1 : Int32)) C dX12_laysFiles_96 (by decide) ?_
    refine x_icmp_eq (tgt := 155) C dX12_laysFiles_97 (by decide) (fun z9 => ?_) (fun z9 => ?_)
    · have h1 := h1.1 z9
      refine x_keep (L' := [(0, xm_r (some h)), (1, xm_i x1), (2, xm_i x2), (3, xm_i x3), (4, xm_i x4)]) C [0, 1, 2, 3, 4] rfl ?_
      exact kp_X12_laysFiles_155 h x1 x2 x3 x4 S C N hg hZ31 h1
    · have h1 := h1.2 z9
      refine x_aload_n C 0 dX12_laysFiles_100 rfl rfl ?_
      refine x_iload C 4 dX12_laysFiles_101 rfl ?_
      refine x_aload_n C 0 dX12_laysFiles_103 rfl rfl ?_
      refine x_getf_r (n := h) C rfl ht20 fd_210 (by decide) dX12_laysFiles_104 ?_
      refine x_iload C 7 dX12_laysFiles_107 rfl ?_
      obtain ⟨n26, hr27, h1⟩ := h1
      obtain ⟨z29, ht28, h1⟩ := h1
      obtain ⟨hi30, h1⟩ := h1
      refine x_iald (n := n26) C hr27 ht28 hi30 dX12_laysFiles_109 ?_
      refine x_callV (rm' := rm_X12_placeOf) (n := h) C (kp_X12_placeOf_met h1) lk_122 gw_723 gw_724 xv_12 rfl rfl ht20 rfl (Nat.le_of_ble_eq_true rfl) ⟨Nat.le_of_ble_eq_true rfl, Nat.le_of_ble_eq_true rfl, (Nat.le_of_ble_eq_true rfl), (Nat.le_of_ble_eq_true rfl)⟩ dX12_laysFiles_110 xm_kx (xm_ki (fun r32 S31 h1 => ?_))
      refine x_istore (L' := [(8, xm_i r32), (0, xm_r (some h)), (1, xm_i x1), (2, xm_i x2), (3, xm_i x3), (4, xm_i x4), (5, xm_i x5), (6, xm_i x6), (7, xm_i x7)]) C dX12_laysFiles_113 (by decide) rfl ?_
      refine x_iload_n C 4 dX12_laysFiles_115 rfl rfl ?_
      refine x_if_eq (tgt := 133) C dX12_laysFiles_116 (by decide) (fun z9 => ?_) (fun z9 => ?_)
      · have h1 := h1.1 z9
        refine x_keep (L' := [(0, xm_r (some h)), (1, xm_i x1), (2, xm_i x2), (4, xm_i x4), (5, xm_i x5), (6, xm_i x6), (7, xm_i x7), (8, xm_i r32)]) C [1, 2, 3, 5, 6, 7, 8, 0] rfl ?_
        exact kp_X12_laysFiles_133 h x1 x2 x4 x5 x6 x7 r32 S31 C N hg hZ31 hZ77 h1
      · have h1 := h1.2 z9
        refine x_aload_n C 1 dX12_laysFiles_119 rfl rfl ?_
        obtain ⟨ht33, h1⟩ := h1
        refine x_getf_r (n := h) C rfl ht33 fd_220 (by decide) dX12_laysFiles_120 ?_
        refine x_iload C 0 dX12_laysFiles_123 rfl ?_
        obtain ⟨n34, hr35, h1⟩ := h1
        obtain ⟨z37, ht36, h1⟩ := h1
        obtain ⟨hi38, h1⟩ := h1
        refine x_iald (n := n34) C hr35 ht36 hi38 dX12_laysFiles_125 ?_
        refine x_if_ne (tgt := 133) C dX12_laysFiles_126 (by decide) (fun z9 => ?_) (fun z9 => ?_)
        · have h1 := h1.1 z9
          refine x_keep (L' := [(0, xm_r (some h)), (1, xm_i x1), (2, xm_i x2), (4, xm_i x4), (5, xm_i x5), (6, xm_i x6), (7, xm_i x7), (8, xm_i r32)]) C [1, 2, 3, 5, 6, 7, 8, 0] rfl ?_
          exact kp_X12_laysFiles_133 h x1 x2 x4 x5 x6 x7 r32 S31 C N hg hZ31 hZ77 h1
        · have h1 := h1.2 z9
          refine x_iconst (v := (1 : Int32)) C dX12_laysFiles_129 (by decide) ?_
          refine x_goto (tgt := 134) C dX12_laysFiles_130 (by decide) ?_
          refine x_keep (L' := [(0, xm_r (some h)), (1, xm_i x1), (2, xm_i x2), (4, xm_i x4), (5, xm_i x5), (6, xm_i x6), (7, xm_i x7), (8, xm_i r32)]) C [1, 2, 3, 5, 6, 7, 8, 0] rfl ?_
          exact kp_X12_laysFiles_134 h x1 x2 x4 x5 x6 x7 r32 (1 : Int32) S31 C N hg hZ31 hZ77 h1
theorem kp_X12_laysFiles_77 {K : xm_K} (h : Nat) (x1 : Int32) (x2 : Int32) (x3 : Int32) (x4 : Int32) (x5 : Int32) (x6 : Int32) (x7 : Int32) (S : xm_S) {g : Int32 → xm_S → Prop} {Z31 : Int32 → Int32 → Int32 → Int32 → xm_S → Prop} (C : xm_Cx K cX12_laysFiles RX12 9 (some (FieldType.int)) rm_X12_laysFiles) (N : xm_Nx K) (hg : ∀ v S, g v S → xm_q K (some (xm_i v)) S) (hZ31 : ∀ x1 x2 x3 x4 S, Z31 x1 x2 x3 x4 S → xm_W K 0 0 31 [(0, xm_r (some h)), (1, xm_i x1), (2, xm_i x2), (3, xm_i x3), (4, xm_i x4)] [] S) (h1 : wp_X12_laysFiles_77 h x1 x2 x3 x4 x5 x6 x7 S g Z31) : xm_W K 0 0 77 [(0, xm_r (some h)), (1, xm_i x1), (2, xm_i x2), (3, xm_i x3), (4, xm_i x4), (5, xm_i x5), (6, xm_i x6), (7, xm_i x7)] [] S :=
  h1 (fun x1 x2 x3 x4 x5 x6 x7 S => xm_W K 0 0 77 [(0, xm_r (some h)), (1, xm_i x1), (2, xm_i x2), (3, xm_i x3), (4, xm_i x4), (5, xm_i x5), (6, xm_i x6), (7, xm_i x7)] [] S) (fun x1 x2 x3 x4 x5 x6 x7 S hb => kp_X12_laysFiles_77B h x1 x2 x3 x4 x5 x6 x7 S C N hg hZ31 (fun x1 x2 x3 x4 x5 x6 x7 S hz => hz) hb)
def wp_X12_laysFiles_69 (h : Nat) (x1 : Int32) (x2 : Int32) (x3 : Int32) (x4 : Int32) (x5 : Int32) (s0 : Int32) (S : xm_S) (g : Int32 → xm_S → Prop) (Z31 : Int32 → Int32 → Int32 → Int32 → xm_S → Prop) : Prop :=
  ∀ y39, y39 = ((nI 3) * s0) → wp_X12_laysFiles_77 h x1 x2 x3 x4 x5 s0 y39 S g Z31
set_option maxRecDepth 100000 in
set_option maxHeartbeats 4000000 in
theorem kp_X12_laysFiles_69 {K : xm_K} (h : Nat) (x1 : Int32) (x2 : Int32) (x3 : Int32) (x4 : Int32) (x5 : Int32) (s0 : Int32) (S : xm_S) {g : Int32 → xm_S → Prop} {Z31 : Int32 → Int32 → Int32 → Int32 → xm_S → Prop} (C : xm_Cx K cX12_laysFiles RX12 9 (some (FieldType.int)) rm_X12_laysFiles) (N : xm_Nx K) (hg : ∀ v S, g v S → xm_q K (some (xm_i v)) S) (hZ31 : ∀ x1 x2 x3 x4 S, Z31 x1 x2 x3 x4 S → xm_W K 0 0 31 [(0, xm_r (some h)), (1, xm_i x1), (2, xm_i x2), (3, xm_i x3), (4, xm_i x4)] [] S) (h1 : wp_X12_laysFiles_69 h x1 x2 x3 x4 x5 s0 S g Z31) : xm_W K 0 0 69 [(0, xm_r (some h)), (1, xm_i x1), (2, xm_i x2), (3, xm_i x3), (4, xm_i x4), (5, xm_i x5)] [xm_i s0] S := by
  unfold wp_X12_laysFiles_69 at h1
  refine x_istore (L' := [(6, xm_i s0), (0, xm_r (some h)), (1, xm_i x1), (2, xm_i x2), (3, xm_i x3), (4, xm_i x4), (5, xm_i x5)]) C dX12_laysFiles_69 (by decide) rfl ?_
  refine x_iconst (v := (nI 3)) C dX12_laysFiles_71 (by decide) ?_
  refine x_iload C 0 dX12_laysFiles_72 rfl ?_
  refine x_imul C dX12_laysFiles_74 ?_
  refine x_topi (fun y39 e40 => ?_)
  have h1 := h1 y39 e40
  refine x_istore (L' := [(7, xm_i y39), (6, xm_i s0), (0, xm_r (some h)), (1, xm_i x1), (2, xm_i x2), (3, xm_i x3), (4, xm_i x4), (5, xm_i x5)]) C dX12_laysFiles_75 (by decide) rfl ?_
  refine x_keep (L' := [(0, xm_r (some h)), (1, xm_i x1), (2, xm_i x2), (3, xm_i x3), (4, xm_i x4), (5, xm_i x5), (6, xm_i s0), (7, xm_i y39)]) C [2, 3, 4, 5, 6, 7, 1, 0] rfl ?_
  exact kp_X12_laysFiles_77 h x1 x2 x3 x4 x5 s0 y39 S C N hg hZ31 h1
def wp_X12_laysFiles_170 (h : Nat) (s0 : Int32) (S : xm_S) (g : Int32 → xm_S → Prop) : Prop :=
  g s0 S
set_option maxRecDepth 100000 in
set_option maxHeartbeats 4000000 in
theorem kp_X12_laysFiles_170 {K : xm_K} (h : Nat) (s0 : Int32) (S : xm_S) {g : Int32 → xm_S → Prop} (C : xm_Cx K cX12_laysFiles RX12 9 (some (FieldType.int)) rm_X12_laysFiles) (N : xm_Nx K) (hg : ∀ v S, g v S → xm_q K (some (xm_i v)) S)  (h1 : wp_X12_laysFiles_170 h s0 S g) : xm_W K 0 0 170 [] [xm_i s0] S := by
  unfold wp_X12_laysFiles_170 at h1
  exact x_iret C (Nat.le_of_ble_eq_true rfl) (Nat.le_of_ble_eq_true rfl) rfl dX12_laysFiles_170 (hg _ _ h1)
def wp_X12_laysFiles_31B (h : Nat) (x1 : Int32) (x2 : Int32) (x3 : Int32) (x4 : Int32) (S : xm_S) (g : Int32 → xm_S → Prop) (Z31 : Int32 → Int32 → Int32 → Int32 → xm_S → Prop) : Prop :=
  ((nI 6) ≤ x4 → (x3 = 0 → wp_X12_laysFiles_170 h (-1 : Int32) S g) ∧ (¬ x3 = 0 → wp_X12_laysFiles_170 h x2 S g)) ∧ (¬ (nI 6) ≤ x4 → st_t S h = some (12, 0) ∧ ∃ n42, (st_r S h 29) = some n42 ∧ ∃ z45, st_t S n42 = some (100, z45) ∧ vp_in (((nI 6) * x1) + x4) z45 ∧ ∀ y47, y47 = (st_i S n42 ((((nI 6) * x1) + x4)).toNatClampNeg) → (¬ y47 = (-1 : Int32) → wp_X12_laysFiles_69 h x1 x2 x3 x4 y47 (((nI 4) * x4) + y47) S g Z31) ∧ (y47 = (-1 : Int32) → wp_X12_laysFiles_69 h x1 x2 x3 x4 y47 (0 : Int32) S g Z31))
def wp_X12_laysFiles_31 (h : Nat) (x1 : Int32) (x2 : Int32) (x3 : Int32) (x4 : Int32) (S : xm_S) (g : Int32 → xm_S → Prop) : Prop :=
  ∀ Z31 : Int32 → Int32 → Int32 → Int32 → xm_S → Prop, (∀ x1 x2 x3 x4 S, wp_X12_laysFiles_31B h x1 x2 x3 x4 S g Z31 → Z31 x1 x2 x3 x4 S) → Z31 x1 x2 x3 x4 S
set_option maxRecDepth 100000 in
set_option maxHeartbeats 4000000 in
theorem kp_X12_laysFiles_31B {K : xm_K} (h : Nat) (x1 : Int32) (x2 : Int32) (x3 : Int32) (x4 : Int32) (S : xm_S) {g : Int32 → xm_S → Prop} {Z31 : Int32 → Int32 → Int32 → Int32 → xm_S → Prop} (C : xm_Cx K cX12_laysFiles RX12 9 (some (FieldType.int)) rm_X12_laysFiles) (N : xm_Nx K) (hg : ∀ v S, g v S → xm_q K (some (xm_i v)) S) (hZ31 : ∀ x1 x2 x3 x4 S, Z31 x1 x2 x3 x4 S → xm_W K 0 0 31 [(0, xm_r (some h)), (1, xm_i x1), (2, xm_i x2), (3, xm_i x3), (4, xm_i x4)] [] S) (h1 : wp_X12_laysFiles_31B h x1 x2 x3 x4 S g Z31) : xm_W K 0 0 31 [(0, xm_r (some h)), (1, xm_i x1), (2, xm_i x2), (3, xm_i x3), (4, xm_i x4)] [] S := by
  unfold wp_X12_laysFiles_31B at h1
  refine x_iload C 4 dX12_laysFiles_31 rfl ?_
  refine x_bipush (v := (nI 6)) C dX12_laysFiles_33 (by decide) ?_
  refine x_icmp_ge (tgt := 161) C dX12_laysFiles_35 (by decide) (fun z9 => ?_) (fun z9 => ?_)
  · have h1 := h1.1 z9
    refine x_iload_n C 3 dX12_laysFiles_161 rfl rfl ?_
    refine x_if_eq (tgt := 169) C dX12_laysFiles_162 (by decide) (fun z9 => ?_) (fun z9 => ?_)
    · have h1 := h1.1 z9
      refine x_iconst (v := (-1 : Int32)) C dX12_laysFiles_169 (by decide) ?_
      refine x_keep (L' := []) C [] rfl ?_
      exact kp_X12_laysFiles_170 h (-1 : Int32) S C N hg  h1
    · have h1 := h1.2 z9
      refine x_iload_n C 2 dX12_laysFiles_165 rfl rfl ?_
      refine x_goto (tgt := 170) C dX12_laysFiles_166 (by decide) ?_
      refine x_keep (L' := []) C [] rfl ?_
      exact kp_X12_laysFiles_170 h x2 S C N hg  h1
  · have h1 := h1.2 z9
    refine x_aload_n C 0 dX12_laysFiles_38 rfl rfl ?_
    obtain ⟨ht41, h1⟩ := h1
    refine x_getf_r (n := h) C rfl ht41 fd_169 (by decide) dX12_laysFiles_39 ?_
    refine x_bipush (v := (nI 6)) C dX12_laysFiles_42 (by decide) ?_
    refine x_iload_n C 1 dX12_laysFiles_44 rfl rfl ?_
    refine x_imul C dX12_laysFiles_45 ?_
    refine x_iload C 4 dX12_laysFiles_46 rfl ?_
    refine x_iadd C dX12_laysFiles_48 ?_
    obtain ⟨n42, hr43, h1⟩ := h1
    obtain ⟨z45, ht44, h1⟩ := h1
    obtain ⟨hi46, h1⟩ := h1
    refine x_iald (n := n42) C hr43 ht44 hi46 dX12_laysFiles_49 ?_
    refine x_topi (fun y47 e48 => ?_)
    have h1 := h1 y47 e48
    refine x_istore (L' := [(5, xm_i y47), (0, xm_r (some h)), (1, xm_i x1), (2, xm_i x2), (3, xm_i x3), (4, xm_i x4)]) C dX12_laysFiles_50 (by decide) rfl ?_
    refine x_iload C 0 dX12_laysFiles_52 rfl ?_
    refine x_iconst (v := (-1 : Int32)) C dX12_laysFiles_54 (by decide) ?_
    refine x_icmp_ne (tgt := 62) C dX12_laysFiles_55 (by decide) (fun z9 => ?_) (fun z9 => ?_)
    · have h1 := h1.1 z9
      refine x_iconst (v := (nI 4)) C dX12_laysFiles_62 (by decide) ?_
      refine x_iload C 5 dX12_laysFiles_63 rfl ?_
      refine x_imul C dX12_laysFiles_65 ?_
      refine x_iload C 0 dX12_laysFiles_66 rfl ?_
      refine x_iadd C dX12_laysFiles_68 ?_
      refine x_keep (L' := [(0, xm_r (some h)), (1, xm_i x1), (2, xm_i x2), (3, xm_i x3), (4, xm_i x4), (5, xm_i y47)]) C [1, 2, 3, 4, 5, 0] rfl ?_
      exact kp_X12_laysFiles_69 h x1 x2 x3 x4 y47 (((nI 4) * x4) + y47) S C N hg hZ31 h1
    · have h1 := h1.2 z9
      refine x_iconst (v := (0 : Int32)) C dX12_laysFiles_58 (by decide) ?_
      refine x_goto (tgt := 69) C dX12_laysFiles_59 (by decide) ?_
      refine x_keep (L' := [(0, xm_r (some h)), (1, xm_i x1), (2, xm_i x2), (3, xm_i x3), (4, xm_i x4), (5, xm_i y47)]) C [1, 2, 3, 4, 5, 0] rfl ?_
      exact kp_X12_laysFiles_69 h x1 x2 x3 x4 y47 (0 : Int32) S C N hg hZ31 h1
theorem kp_X12_laysFiles_31 {K : xm_K} (h : Nat) (x1 : Int32) (x2 : Int32) (x3 : Int32) (x4 : Int32) (S : xm_S) {g : Int32 → xm_S → Prop} (C : xm_Cx K cX12_laysFiles RX12 9 (some (FieldType.int)) rm_X12_laysFiles) (N : xm_Nx K) (hg : ∀ v S, g v S → xm_q K (some (xm_i v)) S)  (h1 : wp_X12_laysFiles_31 h x1 x2 x3 x4 S g) : xm_W K 0 0 31 [(0, xm_r (some h)), (1, xm_i x1), (2, xm_i x2), (3, xm_i x3), (4, xm_i x4)] [] S :=
  h1 (fun x1 x2 x3 x4 S => xm_W K 0 0 31 [(0, xm_r (some h)), (1, xm_i x1), (2, xm_i x2), (3, xm_i x3), (4, xm_i x4)] [] S) (fun x1 x2 x3 x4 S hb => kp_X12_laysFiles_31B h x1 x2 x3 x4 S C N hg (fun x1 x2 x3 x4 S hz => hz) hb)
def wp_X12_laysFiles_7B (h : Nat) (x1 : Int32) (x2 : Int32) (x3 : Int32) (x4 : Int32) (S : xm_S) (g : Int32 → xm_S → Prop) (Z7 : Int32 → Int32 → Int32 → Int32 → xm_S → Prop) : Prop :=
  ((nI 16) ≤ x4 → wp_X12_laysFiles_31 h x1 x2 x3 (0 : Int32) S g) ∧ (¬ (nI 16) ≤ x4 → st_t S h = some (12, 0) ∧ ∃ n50, (st_r S h 51) = some n50 ∧ ∃ z53, st_t S n50 = some (100, z53) ∧ vp_in x4 z53 ∧ ∀ S55, S55 = st_pi S n50 (x4).toNatClampNeg (0 : Int32) → ∀ y57, y57 = (x4 + (1 : Int32)) → Z7 x1 x2 x3 y57 S55)
def wp_X12_laysFiles_7 (h : Nat) (x1 : Int32) (x2 : Int32) (x3 : Int32) (x4 : Int32) (S : xm_S) (g : Int32 → xm_S → Prop) : Prop :=
  ∀ Z7 : Int32 → Int32 → Int32 → Int32 → xm_S → Prop, (∀ x1 x2 x3 x4 S, wp_X12_laysFiles_7B h x1 x2 x3 x4 S g Z7 → Z7 x1 x2 x3 x4 S) → Z7 x1 x2 x3 x4 S
set_option maxRecDepth 100000 in
set_option maxHeartbeats 4000000 in
theorem kp_X12_laysFiles_7B {K : xm_K} (h : Nat) (x1 : Int32) (x2 : Int32) (x3 : Int32) (x4 : Int32) (S : xm_S) {g : Int32 → xm_S → Prop} {Z7 : Int32 → Int32 → Int32 → Int32 → xm_S → Prop} (C : xm_Cx K cX12_laysFiles RX12 9 (some (FieldType.int)) rm_X12_laysFiles) (N : xm_Nx K) (hg : ∀ v S, g v S → xm_q K (some (xm_i v)) S) (hZ7 : ∀ x1 x2 x3 x4 S, Z7 x1 x2 x3 x4 S → xm_W K 0 0 7 [(0, xm_r (some h)), (1, xm_i x1), (2, xm_i x2), (3, xm_i x3), (4, xm_i x4)] [] S) (h1 : wp_X12_laysFiles_7B h x1 x2 x3 x4 S g Z7) : xm_W K 0 0 7 [(0, xm_r (some h)), (1, xm_i x1), (2, xm_i x2), (3, xm_i x3), (4, xm_i x4)] [] S := by
  unfold wp_X12_laysFiles_7B at h1
  refine x_iload C 4 dX12_laysFiles_7 rfl ?_
  refine x_bipush (v := (nI 16)) C dX12_laysFiles_9 (by decide) ?_
  refine x_icmp_ge (tgt := 28) C dX12_laysFiles_11 (by decide) (fun z9 => ?_) (fun z9 => ?_)
  · have h1 := h1.1 z9
    refine x_iconst (v := (0 : Int32)) C dX12_laysFiles_28 (by decide) ?_
    refine x_istore (L' := [(4, xm_i (0 : Int32)), (0, xm_r (some h)), (1, xm_i x1), (2, xm_i x2), (3, xm_i x3)]) C dX12_laysFiles_29 (by decide) rfl ?_
    refine x_keep (L' := [(0, xm_r (some h)), (1, xm_i x1), (2, xm_i x2), (3, xm_i x3), (4, xm_i (0 : Int32))]) C [1, 2, 3, 4, 0] rfl ?_
    exact kp_X12_laysFiles_31 h x1 x2 x3 (0 : Int32) S C N hg  h1
  · have h1 := h1.2 z9
    refine x_aload_n C 0 dX12_laysFiles_14 rfl rfl ?_
    obtain ⟨ht49, h1⟩ := h1
    refine x_getf_r (n := h) C rfl ht49 fd_220 (by decide) dX12_laysFiles_15 ?_
    refine x_iload C 4 dX12_laysFiles_18 rfl ?_
    refine x_iconst (v := (0 : Int32)) C dX12_laysFiles_20 (by decide) ?_
    obtain ⟨n50, hr51, h1⟩ := h1
    obtain ⟨z53, ht52, h1⟩ := h1
    obtain ⟨hi54, h1⟩ := h1
    refine x_iast (n := n50) C hr51 ht52 hi54 dX12_laysFiles_21 ?_
    refine x_topS (fun S55 e56 => ?_)
    have h1 := h1 S55 e56
    obtain ⟨y57, e58⟩ : ∃ y57, y57 = (x4 + (1 : Int32)) := ⟨_, rfl⟩
    have h1 := h1 y57 e58
    refine x_iinc (v := y57) (L' := [(4, xm_i y57), (0, xm_r (some h)), (1, xm_i x1), (2, xm_i x2), (3, xm_i x3)]) C 4 dX12_laysFiles_22 rfl (by rw [e58]; rfl) (by decide) rfl ?_
    refine x_goto (tgt := 7) C dX12_laysFiles_25 (by decide) ?_
    refine x_keep (L' := [(0, xm_r (some h)), (1, xm_i x1), (2, xm_i x2), (3, xm_i x3), (4, xm_i y57)]) C [1, 2, 3, 4, 0] rfl ?_
    exact hZ7 x1 x2 x3 y57 S55 h1
theorem kp_X12_laysFiles_7 {K : xm_K} (h : Nat) (x1 : Int32) (x2 : Int32) (x3 : Int32) (x4 : Int32) (S : xm_S) {g : Int32 → xm_S → Prop} (C : xm_Cx K cX12_laysFiles RX12 9 (some (FieldType.int)) rm_X12_laysFiles) (N : xm_Nx K) (hg : ∀ v S, g v S → xm_q K (some (xm_i v)) S)  (h1 : wp_X12_laysFiles_7 h x1 x2 x3 x4 S g) : xm_W K 0 0 7 [(0, xm_r (some h)), (1, xm_i x1), (2, xm_i x2), (3, xm_i x3), (4, xm_i x4)] [] S :=
  h1 (fun x1 x2 x3 x4 S => xm_W K 0 0 7 [(0, xm_r (some h)), (1, xm_i x1), (2, xm_i x2), (3, xm_i x3), (4, xm_i x4)] [] S) (fun x1 x2 x3 x4 S hb => kp_X12_laysFiles_7B h x1 x2 x3 x4 S C N hg (fun x1 x2 x3 x4 S hz => hz) hb)
def wp_X12_laysFiles (h : Nat) (x1 : Int32) (S : xm_S) (g : Int32 → xm_S → Prop) : Prop :=
  wp_X12_laysFiles_7 h x1 (0 : Int32) (1 : Int32) (0 : Int32) S g
set_option maxRecDepth 100000 in
set_option maxHeartbeats 4000000 in
theorem kp_X12_laysFiles {K : xm_K} (h : Nat) (x1 : Int32) (S : xm_S) {g : Int32 → xm_S → Prop} (C : xm_Cx K cX12_laysFiles RX12 9 (some (FieldType.int)) rm_X12_laysFiles) (N : xm_Nx K) (hg : ∀ v S, g v S → xm_q K (some (xm_i v)) S)  (h1 : wp_X12_laysFiles h x1 S g) : xm_W K 0 0 0 [(0, xm_r (some h)), (1, xm_i x1)] [] S := by
  unfold wp_X12_laysFiles at h1
  refine x_iconst (v := (0 : Int32)) C dX12_laysFiles_0 (by decide) ?_
  refine x_istore_n (L' := [(2, xm_i (0 : Int32)), (0, xm_r (some h)), (1, xm_i x1)]) C dX12_laysFiles_1 rfl (by decide) rfl ?_
  refine x_iconst (v := (1 : Int32)) C dX12_laysFiles_2 (by decide) ?_
  refine x_istore_n (L' := [(3, xm_i (1 : Int32)), (2, xm_i (0 : Int32)), (0, xm_r (some h)), (1, xm_i x1)]) C dX12_laysFiles_3 rfl (by decide) rfl ?_
  refine x_iconst (v := (0 : Int32)) C dX12_laysFiles_4 (by decide) ?_
  refine x_istore (L' := [(4, xm_i (0 : Int32)), (3, xm_i (1 : Int32)), (2, xm_i (0 : Int32)), (0, xm_r (some h)), (1, xm_i x1)]) C dX12_laysFiles_5 (by decide) rfl ?_
  refine x_keep (L' := [(0, xm_r (some h)), (1, xm_i x1), (2, xm_i (0 : Int32)), (3, xm_i (1 : Int32)), (4, xm_i (0 : Int32))]) C [3, 4, 2, 1, 0] rfl ?_
  exact kp_X12_laysFiles_7 h x1 (0 : Int32) (1 : Int32) (0 : Int32) S C N hg  h1
theorem kp_X12_laysFiles_met {h : Nat} {x1 : Int32} {S : xm_S} {g : Int32 → xm_S → Prop}  (h1 : wp_X12_laysFiles h x1 S g) : xm_Met yX12_laysFiles cX12_laysFiles 9 (some (FieldType.int)) rm_X12_laysFiles [xm_r (some h), xm_i x1] S (xm_qi g) xm_nox :=
  xm_ofW RX12 (by decide +kernel) rfl (Nat.le_of_ble_eq_true rfl) (fun K C N hq hx hi => kp_X12_laysFiles h x1 S C N (fun v S h => by rw [hq]; exact ⟨v, rfl, h⟩)  h1)
def rm_X12_install : Room := { frames := 4, cells := 0, slots := 0, locals := 93 }
theorem dX12_install_0 : decode cX12_install 0 = .ok (.aload_n 0, 1) := by decide +kernel
theorem dX12_install_1 : decode cX12_install 1 = .ok (.iload_n 1, 1) := by decide +kernel
theorem dX12_install_2 : decode cX12_install 2 = .ok (.invokestatic 302, 3) := by decide +kernel
theorem dX12_install_5 : decode cX12_install 5 = .ok (.ifCond .ne 7, 3) := by decide +kernel
theorem dX12_install_8 : decode cX12_install 8 = .ok (.iconst 1, 1) := by decide +kernel
theorem dX12_install_9 : decode cX12_install 9 = .ok (.goto 18, 3) := by decide +kernel
theorem dX12_install_12 : decode cX12_install 12 = .ok (.iload_n 2, 1) := by decide +kernel
theorem dX12_install_13 : decode cX12_install 13 = .ok (.iconst 0, 1) := by decide +kernel
theorem dX12_install_14 : decode cX12_install 14 = .ok (.bipush 99, 2) := by decide +kernel
theorem dX12_install_16 : decode cX12_install 16 = .ok (.invokestatic 172, 3) := by decide +kernel
theorem dX12_install_19 : decode cX12_install 19 = .ok (.ifCond .eq 7, 3) := by decide +kernel
theorem dX12_install_22 : decode cX12_install 22 = .ok (.iconst 0, 1) := by decide +kernel
theorem dX12_install_23 : decode cX12_install 23 = .ok (.goto 4, 3) := by decide +kernel
theorem dX12_install_26 : decode cX12_install 26 = .ok (.iconst 2, 1) := by decide +kernel
theorem dX12_install_27 : decode cX12_install 27 = .ok (.invokevirtual 182, 3) := by decide +kernel
theorem dX12_install_30 : decode cX12_install 30 = .ok (.ifCond .ne 5, 3) := by decide +kernel
theorem dX12_install_33 : decode cX12_install 33 = .ok (.iconst 0, 1) := by decide +kernel
theorem dX12_install_34 : decode cX12_install 34 = .ok (.ireturn, 1) := by decide +kernel
theorem dX12_install_35 : decode cX12_install 35 = .ok (.aload_n 0, 1) := by decide +kernel
theorem dX12_install_36 : decode cX12_install 36 = .ok (.iload_n 1, 1) := by decide +kernel
theorem dX12_install_37 : decode cX12_install 37 = .ok (.invokevirtual 358, 3) := by decide +kernel
theorem dX12_install_40 : decode cX12_install 40 = .ok (.istore_n 3, 1) := by decide +kernel
theorem dX12_install_41 : decode cX12_install 41 = .ok (.iload_n 3, 1) := by decide +kernel
theorem dX12_install_42 : decode cX12_install 42 = .ok (.iconst (-1), 1) := by decide +kernel
theorem dX12_install_43 : decode cX12_install 43 = .ok (.if_icmp .ne 6, 3) := by decide +kernel
theorem dX12_install_46 : decode cX12_install 46 = .ok (.bipush (-2), 2) := by decide +kernel
theorem dX12_install_48 : decode cX12_install 48 = .ok (.ireturn, 1) := by decide +kernel
theorem dX12_install_49 : decode cX12_install 49 = .ok (.aload_n 0, 1) := by decide +kernel
theorem dX12_install_50 : decode cX12_install 50 = .ok (.getfield 340, 3) := by decide +kernel
theorem dX12_install_53 : decode cX12_install 53 = .ok (.bipush 6, 2) := by decide +kernel
theorem dX12_install_55 : decode cX12_install 55 = .ok (.if_icmp .ne 14, 3) := by decide +kernel
theorem dX12_install_58 : decode cX12_install 58 = .ok (.aload_n 0, 1) := by decide +kernel
theorem dX12_install_59 : decode cX12_install 59 = .ok (.invokevirtual 349, 3) := by decide +kernel
theorem dX12_install_62 : decode cX12_install 62 = .ok (.iconst (-1), 1) := by decide +kernel
theorem dX12_install_63 : decode cX12_install 63 = .ok (.if_icmp .ne 6, 3) := by decide +kernel
theorem dX12_install_66 : decode cX12_install 66 = .ok (.bipush (-3), 2) := by decide +kernel
theorem dX12_install_68 : decode cX12_install 68 = .ok (.ireturn, 1) := by decide +kernel
theorem dX12_install_69 : decode cX12_install 69 = .ok (.iinc 3 1, 3) := by decide +kernel
theorem dX12_install_72 : decode cX12_install 72 = .ok (.iconst 0, 1) := by decide +kernel
theorem dX12_install_73 : decode cX12_install 73 = .ok (.istore 4, 2) := by decide +kernel
theorem dX12_install_75 : decode cX12_install 75 = .ok (.iload 4, 2) := by decide +kernel
theorem dX12_install_77 : decode cX12_install 77 = .ok (.bipush 16, 2) := by decide +kernel
theorem dX12_install_79 : decode cX12_install 79 = .ok (.if_icmp .ge 41, 3) := by decide +kernel
theorem dX12_install_82 : decode cX12_install 82 = .ok (.iload_n 3, 1) := by decide +kernel
theorem dX12_install_83 : decode cX12_install 83 = .ok (.aload_n 0, 1) := by decide +kernel
theorem dX12_install_84 : decode cX12_install 84 = .ok (.getfield 151, 3) := by decide +kernel
theorem dX12_install_87 : decode cX12_install 87 = .ok (.iload 4, 2) := by decide +kernel
theorem dX12_install_89 : decode cX12_install 89 = .ok (.iaload, 1) := by decide +kernel
theorem dX12_install_90 : decode cX12_install 90 = .ok (.ifCond .ne 21, 3) := by decide +kernel
theorem dX12_install_93 : decode cX12_install 93 = .ok (.aload_n 0, 1) := by decide +kernel
theorem dX12_install_94 : decode cX12_install 94 = .ok (.getfield 148, 3) := by decide +kernel
theorem dX12_install_97 : decode cX12_install 97 = .ok (.bipush 6, 2) := by decide +kernel
theorem dX12_install_99 : decode cX12_install 99 = .ok (.iload 4, 2) := by decide +kernel
theorem dX12_install_101 : decode cX12_install 101 = .ok (.iadd, 1) := by decide +kernel
theorem dX12_install_102 : decode cX12_install 102 = .ok (.iaload, 1) := by decide +kernel
theorem dX12_install_103 : decode cX12_install 103 = .ok (.iconst (-1), 1) := by decide +kernel
theorem dX12_install_104 : decode cX12_install 104 = .ok (.if_icmp .eq 7, 3) := by decide +kernel
theorem dX12_install_107 : decode cX12_install 107 = .ok (.iconst 1, 1) := by decide +kernel
theorem dX12_install_108 : decode cX12_install 108 = .ok (.goto 4, 3) := by decide +kernel
theorem dX12_install_111 : decode cX12_install 111 = .ok (.iconst 0, 1) := by decide +kernel
theorem dX12_install_112 : decode cX12_install 112 = .ok (.iadd, 1) := by decide +kernel
theorem dX12_install_113 : decode cX12_install 113 = .ok (.istore_n 3, 1) := by decide +kernel
theorem dX12_install_114 : decode cX12_install 114 = .ok (.iinc 4 1, 3) := by decide +kernel
theorem dX12_install_117 : decode cX12_install 117 = .ok (.goto (-42), 3) := by decide +kernel
theorem dX12_install_120 : decode cX12_install 120 = .ok (.aload_n 0, 1) := by decide +kernel
theorem dX12_install_121 : decode cX12_install 121 = .ok (.iload_n 2, 1) := by decide +kernel
theorem dX12_install_122 : decode cX12_install 122 = .ok (.iload_n 3, 1) := by decide +kernel
theorem dX12_install_123 : decode cX12_install 123 = .ok (.if_icmp .ge 7, 3) := by decide +kernel
theorem dX12_install_126 : decode cX12_install 126 = .ok (.iload_n 2, 1) := by decide +kernel
theorem dX12_install_127 : decode cX12_install 127 = .ok (.goto 4, 3) := by decide +kernel
theorem dX12_install_130 : decode cX12_install 130 = .ok (.iload_n 3, 1) := by decide +kernel
theorem dX12_install_131 : decode cX12_install 131 = .ok (.putfield 361, 3) := by decide +kernel
theorem dX12_install_134 : decode cX12_install 134 = .ok (.iload_n 2, 1) := by decide +kernel
theorem dX12_install_135 : decode cX12_install 135 = .ok (.iload_n 3, 1) := by decide +kernel
theorem dX12_install_136 : decode cX12_install 136 = .ok (.if_icmp .ge 5, 3) := by decide +kernel
theorem dX12_install_139 : decode cX12_install 139 = .ok (.iconst (-1), 1) := by decide +kernel
theorem dX12_install_140 : decode cX12_install 140 = .ok (.ireturn, 1) := by decide +kernel
theorem dX12_install_141 : decode cX12_install 141 = .ok (.aload_n 0, 1) := by decide +kernel
theorem dX12_install_142 : decode cX12_install 142 = .ok (.iload_n 1, 1) := by decide +kernel
theorem dX12_install_143 : decode cX12_install 143 = .ok (.invokevirtual 364, 3) := by decide +kernel
theorem dX12_install_146 : decode cX12_install 146 = .ok (.aload_n 0, 1) := by decide +kernel
theorem dX12_install_147 : decode cX12_install 147 = .ok (.getfield 154, 3) := by decide +kernel
theorem dX12_install_150 : decode cX12_install 150 = .ok (.ireturn, 1) := by decide +kernel
def wp_X12_install_112 (h : Nat) (x1 : Int32) (x2 : Int32) (x4 : Int32) (s0 : Int32) (s1 : Int32) (S : xm_S) (g : Int32 → xm_S → Prop) (Z75 : Int32 → Int32 → Int32 → Int32 → xm_S → Prop) : Prop :=
  ∀ y1, y1 = (s1 + s0) → ∀ y3, y3 = (x4 + (1 : Int32)) → Z75 x1 x2 y1 y3 S
set_option maxRecDepth 100000 in
set_option maxHeartbeats 4000000 in
theorem kp_X12_install_112 {K : xm_K} (h : Nat) (x1 : Int32) (x2 : Int32) (x4 : Int32) (s0 : Int32) (s1 : Int32) (S : xm_S) {g : Int32 → xm_S → Prop} {Z75 : Int32 → Int32 → Int32 → Int32 → xm_S → Prop} (C : xm_Cx K cX12_install RX12 5 (some (FieldType.int)) rm_X12_install) (N : xm_Nx K) (hg : ∀ v S, g v S → xm_q K (some (xm_i v)) S) (hZ75 : ∀ x1 x2 x3 x4 S, Z75 x1 x2 x3 x4 S → xm_W K 0 0 75 [(0, xm_r (some h)), (1, xm_i x1), (2, xm_i x2), (3, xm_i x3), (4, xm_i x4)] [] S) (h1 : wp_X12_install_112 h x1 x2 x4 s0 s1 S g Z75) : xm_W K 0 0 112 [(0, xm_r (some h)), (1, xm_i x1), (2, xm_i x2), (4, xm_i x4)] [xm_i s0, xm_i s1] S := by
  unfold wp_X12_install_112 at h1
  refine x_iadd C dX12_install_112 ?_
  refine x_topi (fun y1 e2 => ?_)
  have h1 := h1 y1 e2
  refine x_istore_n (L' := [(3, xm_i y1), (0, xm_r (some h)), (1, xm_i x1), (2, xm_i x2), (4, xm_i x4)]) C dX12_install_113 rfl (by decide) rfl ?_
  obtain ⟨y3, e4⟩ : ∃ y3, y3 = (x4 + (1 : Int32)) := ⟨_, rfl⟩
  have h1 := h1 y3 e4
  refine x_iinc (v := y3) (L' := [(4, xm_i y3), (3, xm_i y1), (0, xm_r (some h)), (1, xm_i x1), (2, xm_i x2)]) C 4 dX12_install_114 rfl (by rw [e4]; rfl) (by decide) rfl ?_
  refine x_goto (tgt := 75) C dX12_install_117 (by decide) ?_
  refine x_keep (L' := [(0, xm_r (some h)), (1, xm_i x1), (2, xm_i x2), (3, xm_i y1), (4, xm_i y3)]) C [2, 3, 4, 1, 0] rfl ?_
  exact hZ75 x1 x2 y1 y3 S h1
def wp_X12_install_111 (h : Nat) (x1 : Int32) (x2 : Int32) (x4 : Int32) (s0 : Int32) (S : xm_S) (g : Int32 → xm_S → Prop) (Z75 : Int32 → Int32 → Int32 → Int32 → xm_S → Prop) : Prop :=
  wp_X12_install_112 h x1 x2 x4 (0 : Int32) s0 S g Z75
set_option maxRecDepth 100000 in
set_option maxHeartbeats 4000000 in
theorem kp_X12_install_111 {K : xm_K} (h : Nat) (x1 : Int32) (x2 : Int32) (x4 : Int32) (s0 : Int32) (S : xm_S) {g : Int32 → xm_S → Prop} {Z75 : Int32 → Int32 → Int32 → Int32 → xm_S → Prop} (C : xm_Cx K cX12_install RX12 5 (some (FieldType.int)) rm_X12_install) (N : xm_Nx K) (hg : ∀ v S, g v S → xm_q K (some (xm_i v)) S) (hZ75 : ∀ x1 x2 x3 x4 S, Z75 x1 x2 x3 x4 S → xm_W K 0 0 75 [(0, xm_r (some h)), (1, xm_i x1), (2, xm_i x2), (3, xm_i x3), (4, xm_i x4)] [] S) (h1 : wp_X12_install_111 h x1 x2 x4 s0 S g Z75) : xm_W K 0 0 111 [(0, xm_r (some h)), (1, xm_i x1), (2, xm_i x2), (4, xm_i x4)] [xm_i s0] S := by
  unfold wp_X12_install_111 at h1
  refine x_iconst (v := (0 : Int32)) C dX12_install_111 (by decide) ?_
  exact kp_X12_install_112 h x1 x2 x4 (0 : Int32) s0 S C N hg hZ75 h1
def wp_X12_install_131 (h : Nat) (x1 : Int32) (x2 : Int32) (x3 : Int32) (s0 : Int32) (s1 : Option Nat) (S : xm_S) (g : Int32 → xm_S → Prop) : Prop :=
  ∃ n5, s1 = some n5 ∧ st_t S n5 = some (12, 0) ∧ ∀ S8, S8 = st_pi S n5 52 s0 → (x3 ≤ x2 → st_t S8 h = some (12, 0) ∧ wp_X12_installs h x1 S8 (fun S11 => st_t S11 h = some (12, 0) ∧ g (st_i S11 h 55) S11)) ∧ (¬ x3 ≤ x2 → g (-1 : Int32) S8)
set_option maxRecDepth 100000 in
set_option maxHeartbeats 4000000 in
theorem kp_X12_install_131 {K : xm_K} (h : Nat) (x1 : Int32) (x2 : Int32) (x3 : Int32) (s0 : Int32) (s1 : Option Nat) (S : xm_S) {g : Int32 → xm_S → Prop} (C : xm_Cx K cX12_install RX12 5 (some (FieldType.int)) rm_X12_install) (N : xm_Nx K) (hg : ∀ v S, g v S → xm_q K (some (xm_i v)) S)  (h1 : wp_X12_install_131 h x1 x2 x3 s0 s1 S g) : xm_W K 0 0 131 [(0, xm_r (some h)), (1, xm_i x1), (2, xm_i x2), (3, xm_i x3)] [xm_i s0, xm_r s1] S := by
  unfold wp_X12_install_131 at h1
  obtain ⟨n5, hr6, h1⟩ := h1
  obtain ⟨ht7, h1⟩ := h1
  refine x_putf_i (n := n5) C hr6 ht7 fd_222 xc_12 (by decide) rfl ⟨rfl, rfl⟩ dX12_install_131 ?_
  refine x_topS (fun S8 e9 => ?_)
  have h1 := h1 S8 e9
  refine x_iload_n C 2 dX12_install_134 rfl rfl ?_
  refine x_iload_n C 3 dX12_install_135 rfl rfl ?_
  refine x_icmp_ge (tgt := 141) C dX12_install_136 (by decide) (fun z9 => ?_) (fun z9 => ?_)
  · have h1 := h1.1 z9
    refine x_aload_n C 0 dX12_install_141 rfl rfl ?_
    refine x_iload_n C 1 dX12_install_142 rfl rfl ?_
    obtain ⟨ht10, h1⟩ := h1
    refine x_callV (rm' := rm_X12_installs) (n := h) C (kp_X12_installs_met h1) lk_127 gw_755 gw_756 xv_12 rfl rfl ht10 rfl (Nat.le_of_ble_eq_true rfl) ⟨Nat.le_of_ble_eq_true rfl, Nat.le_of_ble_eq_true rfl, (Nat.le_of_ble_eq_true rfl), (Nat.le_of_ble_eq_true rfl)⟩ dX12_install_143 xm_kx (xm_kv (fun S11 h1 => ?_))
    refine x_aload_n C 0 dX12_install_146 rfl rfl ?_
    obtain ⟨ht13, h1⟩ := h1
    refine x_getf_i (n := h) C rfl ht13 fd_200 (by decide) dX12_install_147 ?_
    exact x_iret C (Nat.le_of_ble_eq_true rfl) (Nat.le_of_ble_eq_true rfl) rfl dX12_install_150 (hg _ _ h1)
  · have h1 := h1.2 z9
    refine x_iconst (v := (-1 : Int32)) C dX12_install_139 (by decide) ?_
    exact x_iret C (Nat.le_of_ble_eq_true rfl) (Nat.le_of_ble_eq_true rfl) rfl dX12_install_140 (hg _ _ h1)
def wp_X12_install_75B (h : Nat) (x1 : Int32) (x2 : Int32) (x3 : Int32) (x4 : Int32) (S : xm_S) (g : Int32 → xm_S → Prop) (Z75 : Int32 → Int32 → Int32 → Int32 → xm_S → Prop) : Prop :=
  ((nI 16) ≤ x4 → (x3 ≤ x2 → wp_X12_install_131 h x1 x2 x3 x3 (some h) S g) ∧ (¬ x3 ≤ x2 → wp_X12_install_131 h x1 x2 x3 x2 (some h) S g)) ∧ (¬ (nI 16) ≤ x4 → st_t S h = some (12, 0) ∧ ∃ n15, (st_r S h 51) = some n15 ∧ ∃ z18, st_t S n15 = some (100, z18) ∧ vp_in x4 z18 ∧ (¬ (st_i S n15 (x4).toNatClampNeg) = 0 → wp_X12_install_111 h x1 x2 x4 x3 S g Z75) ∧ ((st_i S n15 (x4).toNatClampNeg) = 0 → ∃ n20, (st_r S h 50) = some n20 ∧ ∃ z23, st_t S n20 = some (100, z23) ∧ vp_in ((nI 6) + x4) z23 ∧ ((st_i S n20 (((nI 6) + x4)).toNatClampNeg) = (-1 : Int32) → wp_X12_install_111 h x1 x2 x4 x3 S g Z75) ∧ (¬ (st_i S n20 (((nI 6) + x4)).toNatClampNeg) = (-1 : Int32) → wp_X12_install_112 h x1 x2 x4 (1 : Int32) x3 S g Z75)))
def wp_X12_install_75 (h : Nat) (x1 : Int32) (x2 : Int32) (x3 : Int32) (x4 : Int32) (S : xm_S) (g : Int32 → xm_S → Prop) : Prop :=
  ∀ Z75 : Int32 → Int32 → Int32 → Int32 → xm_S → Prop, (∀ x1 x2 x3 x4 S, wp_X12_install_75B h x1 x2 x3 x4 S g Z75 → Z75 x1 x2 x3 x4 S) → Z75 x1 x2 x3 x4 S
set_option maxRecDepth 100000 in
set_option maxHeartbeats 4000000 in
theorem kp_X12_install_75B {K : xm_K} (h : Nat) (x1 : Int32) (x2 : Int32) (x3 : Int32) (x4 : Int32) (S : xm_S) {g : Int32 → xm_S → Prop} {Z75 : Int32 → Int32 → Int32 → Int32 → xm_S → Prop} (C : xm_Cx K cX12_install RX12 5 (some (FieldType.int)) rm_X12_install) (N : xm_Nx K) (hg : ∀ v S, g v S → xm_q K (some (xm_i v)) S) (hZ75 : ∀ x1 x2 x3 x4 S, Z75 x1 x2 x3 x4 S → xm_W K 0 0 75 [(0, xm_r (some h)), (1, xm_i x1), (2, xm_i x2), (3, xm_i x3), (4, xm_i x4)] [] S) (h1 : wp_X12_install_75B h x1 x2 x3 x4 S g Z75) : xm_W K 0 0 75 [(0, xm_r (some h)), (1, xm_i x1), (2, xm_i x2), (3, xm_i x3), (4, xm_i x4)] [] S := by
  unfold wp_X12_install_75B at h1
  refine x_iload C 4 dX12_install_75 rfl ?_
  refine x_bipush (v := (nI 16)) C dX12_install_77 (by decide) ?_
  refine x_icmp_ge (tgt := 120) C dX12_install_79 (by decide) (fun z9 => ?_) (fun z9 => ?_)
  · have h1 := h1.1 z9
    refine x_aload_n C 0 dX12_install_120 rfl rfl ?_
    refine x_iload_n C 2 dX12_install_121 rfl rfl ?_
    refine x_iload_n C 3 dX12_install_122 rfl rfl ?_
    refine x_icmp_ge (tgt := 130) C dX12_install_123 (by decide) (fun z9 => ?_) (fun z9 => ?_)
    · have h1 := h1.1 z9
      refine x_iload_n C 3 dX12_install_130 rfl rfl ?_
      refine x_keep (L' := [(0, xm_r (some h)), (1, xm_i x1), (2, xm_i x2), (3, xm_i x3)]) C [0, 1, 2, 3] rfl ?_
      exact kp_X12_install_131 h x1 x2 x3 x3 (some h) S C N hg  h1
    · have h1 := h1.2 z9
      refine x_iload_n C 2 dX12_install_126 rfl rfl ?_
      refine x_goto (tgt := 131) C dX12_install_127 (by decide) ?_
      refine x_keep (L' := [(0, xm_r (some h)), (1, xm_i x1), (2, xm_i x2), (3, xm_i x3)]) C [0, 1, 2, 3] rfl ?_
      exact kp_X12_install_131 h x1 x2 x3 x2 (some h) S C N hg  h1
  · have h1 := h1.2 z9
    refine x_iload_n C 3 dX12_install_82 rfl rfl ?_
    refine x_aload_n C 0 dX12_install_83 rfl rfl ?_
    obtain ⟨ht14, h1⟩ := h1
    refine x_getf_r (n := h) C rfl ht14 fd_220 (by decide) dX12_install_84 ?_
    refine x_iload C 4 dX12_install_87 rfl ?_
    obtain ⟨n15, hr16, h1⟩ := h1
    obtain ⟨z18, ht17, h1⟩ := h1
    obtain ⟨hi19, h1⟩ := h1
    refine x_iald (n := n15) C hr16 ht17 hi19 dX12_install_89 ?_
    refine x_if_ne (tgt := 111) C dX12_install_90 (by decide) (fun z9 => ?_) (fun z9 => ?_)
    · have h1 := h1.1 z9
      refine x_keep (L' := [(0, xm_r (some h)), (1, xm_i x1), (2, xm_i x2), (4, xm_i x4)]) C [0, 1, 2, 4] rfl ?_
      exact kp_X12_install_111 h x1 x2 x4 x3 S C N hg hZ75 h1
    · have h1 := h1.2 z9
      refine x_aload_n C 0 dX12_install_93 rfl rfl ?_
      refine x_getf_r (n := h) C rfl ht14 fd_203 (by decide) dX12_install_94 ?_
      refine x_bipush (v := (nI 6)) C dX12_install_97 (by decide) ?_
      refine x_iload C 4 dX12_install_99 rfl ?_
      refine x_iadd C dX12_install_101 ?_
      obtain ⟨n20, hr21, h1⟩ := h1
      obtain ⟨z23, ht22, h1⟩ := h1
      obtain ⟨hi24, h1⟩ := h1
      refine x_iald (n := n20) C hr21 ht22 hi24 dX12_install_102 ?_
      refine x_iconst (v := (-1 : Int32)) C dX12_install_103 (by decide) ?_
      refine x_icmp_eq (tgt := 111) C dX12_install_104 (by decide) (fun z9 => ?_) (fun z9 => ?_)
      · have h1 := h1.1 z9
        refine x_keep (L' := [(0, xm_r (some h)), (1, xm_i x1), (2, xm_i x2), (4, xm_i x4)]) C [0, 1, 2, 4] rfl ?_
        exact kp_X12_install_111 h x1 x2 x4 x3 S C N hg hZ75 h1
      · have h1 := h1.2 z9
        refine x_iconst (v := (1 : Int32)) C dX12_install_107 (by decide) ?_
        refine x_goto (tgt := 112) C dX12_install_108 (by decide) ?_
        refine x_keep (L' := [(0, xm_r (some h)), (1, xm_i x1), (2, xm_i x2), (4, xm_i x4)]) C [0, 1, 2, 4] rfl ?_
        exact kp_X12_install_112 h x1 x2 x4 (1 : Int32) x3 S C N hg hZ75 h1
theorem kp_X12_install_75 {K : xm_K} (h : Nat) (x1 : Int32) (x2 : Int32) (x3 : Int32) (x4 : Int32) (S : xm_S) {g : Int32 → xm_S → Prop} (C : xm_Cx K cX12_install RX12 5 (some (FieldType.int)) rm_X12_install) (N : xm_Nx K) (hg : ∀ v S, g v S → xm_q K (some (xm_i v)) S)  (h1 : wp_X12_install_75 h x1 x2 x3 x4 S g) : xm_W K 0 0 75 [(0, xm_r (some h)), (1, xm_i x1), (2, xm_i x2), (3, xm_i x3), (4, xm_i x4)] [] S :=
  h1 (fun x1 x2 x3 x4 S => xm_W K 0 0 75 [(0, xm_r (some h)), (1, xm_i x1), (2, xm_i x2), (3, xm_i x3), (4, xm_i x4)] [] S) (fun x1 x2 x3 x4 S hb => kp_X12_install_75B h x1 x2 x3 x4 S C N hg (fun x1 x2 x3 x4 S hz => hz) hb)
def wp_X12_install_69 (h : Nat) (x1 : Int32) (x2 : Int32) (x3 : Int32) (S : xm_S) (g : Int32 → xm_S → Prop) : Prop :=
  ∀ y25, y25 = (x3 + (1 : Int32)) → wp_X12_install_75 h x1 x2 y25 (0 : Int32) S g
set_option maxRecDepth 100000 in
set_option maxHeartbeats 4000000 in
theorem kp_X12_install_69 {K : xm_K} (h : Nat) (x1 : Int32) (x2 : Int32) (x3 : Int32) (S : xm_S) {g : Int32 → xm_S → Prop} (C : xm_Cx K cX12_install RX12 5 (some (FieldType.int)) rm_X12_install) (N : xm_Nx K) (hg : ∀ v S, g v S → xm_q K (some (xm_i v)) S)  (h1 : wp_X12_install_69 h x1 x2 x3 S g) : xm_W K 0 0 69 [(0, xm_r (some h)), (1, xm_i x1), (2, xm_i x2), (3, xm_i x3)] [] S := by
  unfold wp_X12_install_69 at h1
  obtain ⟨y25, e26⟩ : ∃ y25, y25 = (x3 + (1 : Int32)) := ⟨_, rfl⟩
  have h1 := h1 y25 e26
  refine x_iinc (v := y25) (L' := [(3, xm_i y25), (0, xm_r (some h)), (1, xm_i x1), (2, xm_i x2)]) C 3 dX12_install_69 rfl (by rw [e26]; rfl) (by decide) rfl ?_
  refine x_iconst (v := (0 : Int32)) C dX12_install_72 (by decide) ?_
  refine x_istore (L' := [(4, xm_i (0 : Int32)), (3, xm_i y25), (0, xm_r (some h)), (1, xm_i x1), (2, xm_i x2)]) C dX12_install_73 (by decide) rfl ?_
  refine x_keep (L' := [(0, xm_r (some h)), (1, xm_i x1), (2, xm_i x2), (3, xm_i y25), (4, xm_i (0 : Int32))]) C [2, 3, 4, 1, 0] rfl ?_
  exact kp_X12_install_75 h x1 x2 y25 (0 : Int32) S C N hg  h1
def wp_X12_install_27 (h : Nat) (x1 : Int32) (x2 : Int32) (s0 : Int32) (s1 : Option Nat) (S : xm_S) (g : Int32 → xm_S → Prop) : Prop :=
  ∃ n27, s1 = some n27 ∧ st_t S n27 = some (12, 0) ∧ wp_X12_may n27 s0 S (fun r31 S30 => (¬ r31 = 0 → st_t S30 h = some (12, 0) ∧ wp_X12_laysFiles h x1 S30 (fun r34 S33 => (¬ r34 = (-1 : Int32) → st_t S33 h = some (12, 0) ∧ (¬ (st_i S33 h 56) = (nI 6) → wp_X12_install_69 h x1 x2 r34 S33 g) ∧ ((st_i S33 h 56) = (nI 6) → wp_X12_goner h S33 (fun r37 S36 => (¬ r37 = (-1 : Int32) → wp_X12_install_69 h x1 x2 r34 S36 g) ∧ (r37 = (-1 : Int32) → g (-3 : Int32) S36)))) ∧ (r34 = (-1 : Int32) → g (-2 : Int32) S33))) ∧ (r31 = 0 → g (0 : Int32) S30))
set_option maxRecDepth 100000 in
set_option maxHeartbeats 4000000 in
theorem kp_X12_install_27 {K : xm_K} (h : Nat) (x1 : Int32) (x2 : Int32) (s0 : Int32) (s1 : Option Nat) (S : xm_S) {g : Int32 → xm_S → Prop} (C : xm_Cx K cX12_install RX12 5 (some (FieldType.int)) rm_X12_install) (N : xm_Nx K) (hg : ∀ v S, g v S → xm_q K (some (xm_i v)) S)  (h1 : wp_X12_install_27 h x1 x2 s0 s1 S g) : xm_W K 0 0 27 [(0, xm_r (some h)), (1, xm_i x1), (2, xm_i x2)] [xm_i s0, xm_r s1] S := by
  unfold wp_X12_install_27 at h1
  obtain ⟨n27, hr28, h1⟩ := h1
  obtain ⟨ht29, h1⟩ := h1
  refine x_callV (rm' := rm_X12_may) (n := n27) C (kp_X12_may_met h1) lk_95 gw_572 gw_573 xv_12 rfl hr28 ht29 rfl (Nat.le_of_ble_eq_true rfl) ⟨Nat.le_of_ble_eq_true rfl, Nat.le_of_ble_eq_true rfl, (Nat.le_of_ble_eq_true rfl), (Nat.le_of_ble_eq_true rfl)⟩ dX12_install_27 xm_kx (xm_ki (fun r31 S30 h1 => ?_))
  refine x_if_ne (tgt := 35) C dX12_install_30 (by decide) (fun z9 => ?_) (fun z9 => ?_)
  · have h1 := h1.1 z9
    refine x_aload_n C 0 dX12_install_35 rfl rfl ?_
    refine x_iload_n C 1 dX12_install_36 rfl rfl ?_
    obtain ⟨ht32, h1⟩ := h1
    refine x_callV (rm' := rm_X12_laysFiles) (n := h) C (kp_X12_laysFiles_met h1) lk_128 gw_759 gw_760 xv_12 rfl rfl ht32 rfl (Nat.le_of_ble_eq_true rfl) ⟨Nat.le_of_ble_eq_true rfl, Nat.le_of_ble_eq_true rfl, (Nat.le_of_ble_eq_true rfl), (Nat.le_of_ble_eq_true rfl)⟩ dX12_install_37 xm_kx (xm_ki (fun r34 S33 h1 => ?_))
    refine x_istore_n (L' := [(3, xm_i r34), (0, xm_r (some h)), (1, xm_i x1), (2, xm_i x2)]) C dX12_install_40 rfl (by decide) rfl ?_
    refine x_iload_n C 0 dX12_install_41 rfl rfl ?_
    refine x_iconst (v := (-1 : Int32)) C dX12_install_42 (by decide) ?_
    refine x_icmp_ne (tgt := 49) C dX12_install_43 (by decide) (fun z9 => ?_) (fun z9 => ?_)
    · have h1 := h1.1 z9
      refine x_aload_n C 1 dX12_install_49 rfl rfl ?_
      obtain ⟨ht35, h1⟩ := h1
      refine x_getf_i (n := h) C rfl ht35 fd_197 (by decide) dX12_install_50 ?_
      refine x_bipush (v := (nI 6)) C dX12_install_53 (by decide) ?_
      refine x_icmp_ne (tgt := 69) C dX12_install_55 (by decide) (fun z9 => ?_) (fun z9 => ?_)
      · have h1 := h1.1 z9
        refine x_keep (L' := [(0, xm_r (some h)), (1, xm_i x1), (2, xm_i x2), (3, xm_i r34)]) C [1, 2, 3, 0] rfl ?_
        exact kp_X12_install_69 h x1 x2 r34 S33 C N hg  h1
      · have h1 := h1.2 z9
        refine x_aload_n C 1 dX12_install_58 rfl rfl ?_
        refine x_callV (rm' := rm_X12_goner) (n := h) C (kp_X12_goner_met h1) lk_126 gw_750 gw_751 xv_12 rfl rfl ht35 rfl (Nat.le_of_ble_eq_true rfl) ⟨Nat.le_of_ble_eq_true rfl, Nat.le_of_ble_eq_true rfl, (Nat.le_of_ble_eq_true rfl), (Nat.le_of_ble_eq_true rfl)⟩ dX12_install_59 xm_kx (xm_ki (fun r37 S36 h1 => ?_))
        refine x_iconst (v := (-1 : Int32)) C dX12_install_62 (by decide) ?_
        refine x_icmp_ne (tgt := 69) C dX12_install_63 (by decide) (fun z9 => ?_) (fun z9 => ?_)
        · have h1 := h1.1 z9
          refine x_keep (L' := [(0, xm_r (some h)), (1, xm_i x1), (2, xm_i x2), (3, xm_i r34)]) C [1, 2, 3, 0] rfl ?_
          exact kp_X12_install_69 h x1 x2 r34 S36 C N hg  h1
        · have h1 := h1.2 z9
          refine x_bipush (v := (-3 : Int32)) C dX12_install_66 (by decide) ?_
          exact x_iret C (Nat.le_of_ble_eq_true rfl) (Nat.le_of_ble_eq_true rfl) rfl dX12_install_68 (hg _ _ h1)
    · have h1 := h1.2 z9
      refine x_bipush (v := (-2 : Int32)) C dX12_install_46 (by decide) ?_
      exact x_iret C (Nat.le_of_ble_eq_true rfl) (Nat.le_of_ble_eq_true rfl) rfl dX12_install_48 (hg _ _ h1)
  · have h1 := h1.2 z9
    refine x_iconst (v := (0 : Int32)) C dX12_install_33 (by decide) ?_
    exact x_iret C (Nat.le_of_ble_eq_true rfl) (Nat.le_of_ble_eq_true rfl) rfl dX12_install_34 (hg _ _ h1)
def wp_X12_install (h : Nat) (x1 : Int32) (x2 : Int32) (S : xm_S) (g : Int32 → xm_S → Prop) : Prop :=
  wp_X12_isPlatform x1 S (fun r39 S38 => (¬ r39 = 0 → wp_X12_in x2 (0 : Int32) (nI 99) S38 (fun r41 S40 => (r41 = 0 → wp_X12_install_27 h x1 x2 (nI 2) (some h) S40 g) ∧ (¬ r41 = 0 → wp_X12_install_27 h x1 x2 (0 : Int32) (some h) S40 g))) ∧ (r39 = 0 → wp_X12_install_27 h x1 x2 (1 : Int32) (some h) S38 g))
set_option maxRecDepth 100000 in
set_option maxHeartbeats 4000000 in
theorem kp_X12_install {K : xm_K} (h : Nat) (x1 : Int32) (x2 : Int32) (S : xm_S) {g : Int32 → xm_S → Prop} (C : xm_Cx K cX12_install RX12 5 (some (FieldType.int)) rm_X12_install) (N : xm_Nx K) (hg : ∀ v S, g v S → xm_q K (some (xm_i v)) S)  (h1 : wp_X12_install h x1 x2 S g) : xm_W K 0 0 0 [(0, xm_r (some h)), (1, xm_i x1), (2, xm_i x2)] [] S := by
  unfold wp_X12_install at h1
  refine x_aload_n C 0 dX12_install_0 rfl rfl ?_
  refine x_iload_n C 1 dX12_install_1 rfl rfl ?_
  refine x_callS (rm' := rm_X12_isPlatform) C (kp_X12_isPlatform_met h1) lk_104 gw_611 rfl (Nat.le_of_ble_eq_true rfl) ⟨Nat.le_of_ble_eq_true rfl, Nat.le_of_ble_eq_true rfl, (Nat.le_of_ble_eq_true rfl), (Nat.le_of_ble_eq_true rfl)⟩ dX12_install_2 xm_kx (xm_ki (fun r39 S38 h1 => ?_))
  refine x_if_ne (tgt := 12) C dX12_install_5 (by decide) (fun z9 => ?_) (fun z9 => ?_)
  · have h1 := h1.1 z9
    refine x_iload_n C 2 dX12_install_12 rfl rfl ?_
    refine x_iconst (v := (0 : Int32)) C dX12_install_13 (by decide) ?_
    refine x_bipush (v := (nI 99)) C dX12_install_14 (by decide) ?_
    refine x_callS (rm' := rm_X12_in) C (kp_X12_in_met h1) lk_87 gw_533 rfl (Nat.le_of_ble_eq_true rfl) ⟨Nat.le_of_ble_eq_true rfl, Nat.le_of_ble_eq_true rfl, (Nat.le_of_ble_eq_true rfl), (Nat.le_of_ble_eq_true rfl)⟩ dX12_install_16 xm_kx (xm_ki (fun r41 S40 h1 => ?_))
    refine x_if_eq (tgt := 26) C dX12_install_19 (by decide) (fun z9 => ?_) (fun z9 => ?_)
    · have h1 := h1.1 z9
      refine x_iconst (v := (nI 2)) C dX12_install_26 (by decide) ?_
      exact kp_X12_install_27 h x1 x2 (nI 2) (some h) S40 C N hg  h1
    · have h1 := h1.2 z9
      refine x_iconst (v := (0 : Int32)) C dX12_install_22 (by decide) ?_
      refine x_goto (tgt := 27) C dX12_install_23 (by decide) ?_
      exact kp_X12_install_27 h x1 x2 (0 : Int32) (some h) S40 C N hg  h1
  · have h1 := h1.2 z9
    refine x_iconst (v := (1 : Int32)) C dX12_install_8 (by decide) ?_
    refine x_goto (tgt := 27) C dX12_install_9 (by decide) ?_
    exact kp_X12_install_27 h x1 x2 (1 : Int32) (some h) S38 C N hg  h1
theorem kp_X12_install_met {h : Nat} {x1 : Int32} {x2 : Int32} {S : xm_S} {g : Int32 → xm_S → Prop}  (h1 : wp_X12_install h x1 x2 S g) : xm_Met yX12_install cX12_install 5 (some (FieldType.int)) rm_X12_install [xm_r (some h), xm_i x1, xm_i x2] S (xm_qi g) xm_nox :=
  xm_ofW RX12 (by decide +kernel) rfl (Nat.le_of_ble_eq_true rfl) (fun K C N hq hx hi => kp_X12_install h x1 x2 S C N (fun v S h => by rw [hq]; exact ⟨v, rfl, h⟩)  h1)
def rm_X12_installed : Room := { frames := 3, cells := 0, slots := 0, locals := 62 }
theorem dX12_installed_0 : decode cX12_installed 0 = .ok (.aload_n 0, 1) := by decide +kernel
theorem dX12_installed_1 : decode cX12_installed 1 = .ok (.iload_n 1, 1) := by decide +kernel
theorem dX12_installed_2 : decode cX12_installed 2 = .ok (.invokestatic 176, 3) := by decide +kernel
theorem dX12_installed_5 : decode cX12_installed 5 = .ok (.ifCond .eq 7, 3) := by decide +kernel
theorem dX12_installed_8 : decode cX12_installed 8 = .ok (.iconst 0, 1) := by decide +kernel
theorem dX12_installed_9 : decode cX12_installed 9 = .ok (.goto 4, 3) := by decide +kernel
theorem dX12_installed_12 : decode cX12_installed 12 = .ok (.iconst 1, 1) := by decide +kernel
theorem dX12_installed_13 : decode cX12_installed 13 = .ok (.invokevirtual 182, 3) := by decide +kernel
theorem dX12_installed_16 : decode cX12_installed 16 = .ok (.ifCond .eq 12, 3) := by decide +kernel
theorem dX12_installed_19 : decode cX12_installed 19 = .ok (.aload_n 0, 1) := by decide +kernel
theorem dX12_installed_20 : decode cX12_installed 20 = .ok (.getfield 148, 3) := by decide +kernel
theorem dX12_installed_23 : decode cX12_installed 23 = .ok (.iload_n 1, 1) := by decide +kernel
theorem dX12_installed_24 : decode cX12_installed 24 = .ok (.iaload, 1) := by decide +kernel
theorem dX12_installed_25 : decode cX12_installed 25 = .ok (.goto 4, 3) := by decide +kernel
theorem dX12_installed_28 : decode cX12_installed 28 = .ok (.iconst 0, 1) := by decide +kernel
theorem dX12_installed_29 : decode cX12_installed 29 = .ok (.ireturn, 1) := by decide +kernel
def wp_X12_installed_29 (h : Nat) (s0 : Int32) (S : xm_S) (g : Int32 → xm_S → Prop) : Prop :=
  g s0 S
set_option maxRecDepth 100000 in
set_option maxHeartbeats 4000000 in
theorem kp_X12_installed_29 {K : xm_K} (h : Nat) (s0 : Int32) (S : xm_S) {g : Int32 → xm_S → Prop} (C : xm_Cx K cX12_installed RX12 2 (some (FieldType.int)) rm_X12_installed) (N : xm_Nx K) (hg : ∀ v S, g v S → xm_q K (some (xm_i v)) S)  (h1 : wp_X12_installed_29 h s0 S g) : xm_W K 0 0 29 [] [xm_i s0] S := by
  unfold wp_X12_installed_29 at h1
  exact x_iret C (Nat.le_of_ble_eq_true rfl) (Nat.le_of_ble_eq_true rfl) rfl dX12_installed_29 (hg _ _ h1)
def wp_X12_installed_13 (h : Nat) (x1 : Int32) (s0 : Int32) (s1 : Option Nat) (S : xm_S) (g : Int32 → xm_S → Prop) : Prop :=
  ∃ n1, s1 = some n1 ∧ st_t S n1 = some (12, 0) ∧ wp_X12_may n1 s0 S (fun r5 S4 => (r5 = 0 → wp_X12_installed_29 h (0 : Int32) S4 g) ∧ (¬ r5 = 0 → st_t S4 h = some (12, 0) ∧ ∃ n7, (st_r S4 h 50) = some n7 ∧ ∃ z10, st_t S4 n7 = some (100, z10) ∧ vp_in x1 z10 ∧ wp_X12_installed_29 h (st_i S4 n7 (x1).toNatClampNeg) S4 g))
set_option maxRecDepth 100000 in
set_option maxHeartbeats 4000000 in
theorem kp_X12_installed_13 {K : xm_K} (h : Nat) (x1 : Int32) (s0 : Int32) (s1 : Option Nat) (S : xm_S) {g : Int32 → xm_S → Prop} (C : xm_Cx K cX12_installed RX12 2 (some (FieldType.int)) rm_X12_installed) (N : xm_Nx K) (hg : ∀ v S, g v S → xm_q K (some (xm_i v)) S)  (h1 : wp_X12_installed_13 h x1 s0 s1 S g) : xm_W K 0 0 13 [(0, xm_r (some h)), (1, xm_i x1)] [xm_i s0, xm_r s1] S := by
  unfold wp_X12_installed_13 at h1
  obtain ⟨n1, hr2, h1⟩ := h1
  obtain ⟨ht3, h1⟩ := h1
  refine x_callV (rm' := rm_X12_may) (n := n1) C (kp_X12_may_met h1) lk_95 gw_572 gw_573 xv_12 rfl hr2 ht3 rfl (Nat.le_of_ble_eq_true rfl) ⟨Nat.le_of_ble_eq_true rfl, Nat.le_of_ble_eq_true rfl, (Nat.le_of_ble_eq_true rfl), (Nat.le_of_ble_eq_true rfl)⟩ dX12_installed_13 xm_kx (xm_ki (fun r5 S4 h1 => ?_))
  refine x_if_eq (tgt := 28) C dX12_installed_16 (by decide) (fun z9 => ?_) (fun z9 => ?_)
  · have h1 := h1.1 z9
    refine x_iconst (v := (0 : Int32)) C dX12_installed_28 (by decide) ?_
    refine x_keep (L' := []) C [] rfl ?_
    exact kp_X12_installed_29 h (0 : Int32) S4 C N hg  h1
  · have h1 := h1.2 z9
    refine x_aload_n C 0 dX12_installed_19 rfl rfl ?_
    obtain ⟨ht6, h1⟩ := h1
    refine x_getf_r (n := h) C rfl ht6 fd_203 (by decide) dX12_installed_20 ?_
    refine x_iload_n C 1 dX12_installed_23 rfl rfl ?_
    obtain ⟨n7, hr8, h1⟩ := h1
    obtain ⟨z10, ht9, h1⟩ := h1
    obtain ⟨hi11, h1⟩ := h1
    refine x_iald (n := n7) C hr8 ht9 hi11 dX12_installed_24 ?_
    refine x_goto (tgt := 29) C dX12_installed_25 (by decide) ?_
    refine x_keep (L' := []) C [] rfl ?_
    exact kp_X12_installed_29 h (st_i S4 n7 (x1).toNatClampNeg) S4 C N hg  h1
def wp_X12_installed (h : Nat) (x1 : Int32) (S : xm_S) (g : Int32 → xm_S → Prop) : Prop :=
  wp_X12_isPack x1 S (fun r13 S12 => (r13 = 0 → wp_X12_installed_13 h x1 (1 : Int32) (some h) S12 g) ∧ (¬ r13 = 0 → wp_X12_installed_13 h x1 (0 : Int32) (some h) S12 g))
set_option maxRecDepth 100000 in
set_option maxHeartbeats 4000000 in
theorem kp_X12_installed {K : xm_K} (h : Nat) (x1 : Int32) (S : xm_S) {g : Int32 → xm_S → Prop} (C : xm_Cx K cX12_installed RX12 2 (some (FieldType.int)) rm_X12_installed) (N : xm_Nx K) (hg : ∀ v S, g v S → xm_q K (some (xm_i v)) S)  (h1 : wp_X12_installed h x1 S g) : xm_W K 0 0 0 [(0, xm_r (some h)), (1, xm_i x1)] [] S := by
  unfold wp_X12_installed at h1
  refine x_aload_n C 0 dX12_installed_0 rfl rfl ?_
  refine x_iload_n C 1 dX12_installed_1 rfl rfl ?_
  refine x_callS (rm' := rm_X12_isPack) C (kp_X12_isPack_met h1) lk_97 gw_583 rfl (Nat.le_of_ble_eq_true rfl) ⟨Nat.le_of_ble_eq_true rfl, Nat.le_of_ble_eq_true rfl, (Nat.le_of_ble_eq_true rfl), (Nat.le_of_ble_eq_true rfl)⟩ dX12_installed_2 xm_kx (xm_ki (fun r13 S12 h1 => ?_))
  refine x_if_eq (tgt := 12) C dX12_installed_5 (by decide) (fun z9 => ?_) (fun z9 => ?_)
  · have h1 := h1.1 z9
    refine x_iconst (v := (1 : Int32)) C dX12_installed_12 (by decide) ?_
    exact kp_X12_installed_13 h x1 (1 : Int32) (some h) S12 C N hg  h1
  · have h1 := h1.2 z9
    refine x_iconst (v := (0 : Int32)) C dX12_installed_8 (by decide) ?_
    refine x_goto (tgt := 13) C dX12_installed_9 (by decide) ?_
    exact kp_X12_installed_13 h x1 (0 : Int32) (some h) S12 C N hg  h1
theorem kp_X12_installed_met {h : Nat} {x1 : Int32} {S : xm_S} {g : Int32 → xm_S → Prop}  (h1 : wp_X12_installed h x1 S g) : xm_Met yX12_installed cX12_installed 2 (some (FieldType.int)) rm_X12_installed [xm_r (some h), xm_i x1] S (xm_qi g) xm_nox :=
  xm_ofW RX12 (by decide +kernel) rfl (Nat.le_of_ble_eq_true rfl) (fun K C N hq hx hi => kp_X12_installed h x1 S C N (fun v S h => by rw [hq]; exact ⟨v, rfl, h⟩)  h1)
def rm_X12_isMirror : Room := { frames := 2, cells := 0, slots := 0, locals := 42 }
theorem dX12_isMirror_0 : decode cX12_isMirror 0 = .ok (.iload_n 0, 1) := by decide +kernel
theorem dX12_isMirror_1 : decode cX12_isMirror 1 = .ok (.iconst 0, 1) := by decide +kernel
theorem dX12_isMirror_2 : decode cX12_isMirror 2 = .ok (.iconst 2, 1) := by decide +kernel
theorem dX12_isMirror_3 : decode cX12_isMirror 3 = .ok (.invokestatic 172, 3) := by decide +kernel
theorem dX12_isMirror_6 : decode cX12_isMirror 6 = .ok (.ireturn, 1) := by decide +kernel
def wp_X12_isMirror (x0 : Int32) (S : xm_S) (g : Int32 → xm_S → Prop) : Prop :=
  wp_X12_in x0 (0 : Int32) (nI 2) S (fun r2 S1 => (r2 = 0 ∨ r2 = 1) ∧ g r2 S1)
set_option maxRecDepth 100000 in
set_option maxHeartbeats 4000000 in
theorem kp_X12_isMirror {K : xm_K} (x0 : Int32) (S : xm_S) {g : Int32 → xm_S → Prop} (C : xm_Cx K cX12_isMirror RX12 1 (some (FieldType.boolean)) rm_X12_isMirror) (N : xm_Nx K) (hg : ∀ v S, g v S → xm_q K (some (xm_i v)) S)  (h1 : wp_X12_isMirror x0 S g) : xm_W K 0 0 0 [(0, xm_i x0)] [] S := by
  unfold wp_X12_isMirror at h1
  refine x_iload_n C 0 dX12_isMirror_0 rfl rfl ?_
  refine x_iconst (v := (0 : Int32)) C dX12_isMirror_1 (by decide) ?_
  refine x_iconst (v := (nI 2)) C dX12_isMirror_2 (by decide) ?_
  refine x_callS (rm' := rm_X12_in) C (kp_X12_in_met h1) lk_87 gw_533 rfl (Nat.le_of_ble_eq_true rfl) ⟨Nat.le_of_ble_eq_true rfl, Nat.le_of_ble_eq_true rfl, (Nat.le_of_ble_eq_true rfl), (Nat.le_of_ble_eq_true rfl)⟩ dX12_isMirror_3 xm_kx (xm_ki (fun r2 S1 h1 => ?_))
  exact x_zret C (Nat.le_of_ble_eq_true rfl) (Nat.le_of_ble_eq_true rfl) rfl h1.1 dX12_isMirror_6 (hg _ _ h1.2)
theorem kp_X12_isMirror_met {x0 : Int32} {S : xm_S} {g : Int32 → xm_S → Prop}  (h1 : wp_X12_isMirror x0 S g) : xm_Met yX12_isMirror cX12_isMirror 1 (some (FieldType.boolean)) rm_X12_isMirror [xm_i x0] S (xm_qi g) xm_nox :=
  xm_ofW RX12 (by decide +kernel) rfl (Nat.le_of_ble_eq_true rfl) (fun K C N hq hx hi => kp_X12_isMirror x0 S C N (fun v S h => by rw [hq]; exact ⟨v, rfl, h⟩)  h1)
def rm_X12_lies : Room := { frames := 3, cells := 0, slots := 0, locals := 62 }
theorem dX12_lies_0 : decode cX12_lies 0 = .ok (.aload_n 0, 1) := by decide +kernel
theorem dX12_lies_1 : decode cX12_lies 1 = .ok (.iload_n 1, 1) := by decide +kernel
theorem dX12_lies_2 : decode cX12_lies 2 = .ok (.invokestatic 328, 3) := by decide +kernel
theorem dX12_lies_5 : decode cX12_lies 5 = .ok (.ifCond .eq 7, 3) := by decide +kernel
theorem dX12_lies_8 : decode cX12_lies 8 = .ok (.iconst 0, 1) := by decide +kernel
theorem dX12_lies_9 : decode cX12_lies 9 = .ok (.goto 4, 3) := by decide +kernel
theorem dX12_lies_12 : decode cX12_lies 12 = .ok (.iconst 1, 1) := by decide +kernel
theorem dX12_lies_13 : decode cX12_lies 13 = .ok (.invokevirtual 182, 3) := by decide +kernel
theorem dX12_lies_16 : decode cX12_lies 16 = .ok (.ifCond .eq 12, 3) := by decide +kernel
theorem dX12_lies_19 : decode cX12_lies 19 = .ok (.aload_n 0, 1) := by decide +kernel
theorem dX12_lies_20 : decode cX12_lies 20 = .ok (.getfield 127, 3) := by decide +kernel
theorem dX12_lies_23 : decode cX12_lies 23 = .ok (.iload_n 1, 1) := by decide +kernel
theorem dX12_lies_24 : decode cX12_lies 24 = .ok (.iaload, 1) := by decide +kernel
theorem dX12_lies_25 : decode cX12_lies 25 = .ok (.goto 4, 3) := by decide +kernel
theorem dX12_lies_28 : decode cX12_lies 28 = .ok (.iconst 0, 1) := by decide +kernel
theorem dX12_lies_29 : decode cX12_lies 29 = .ok (.ireturn, 1) := by decide +kernel
def wp_X12_lies_29 (h : Nat) (s0 : Int32) (S : xm_S) (g : Int32 → xm_S → Prop) : Prop :=
  g s0 S
set_option maxRecDepth 100000 in
set_option maxHeartbeats 4000000 in
theorem kp_X12_lies_29 {K : xm_K} (h : Nat) (s0 : Int32) (S : xm_S) {g : Int32 → xm_S → Prop} (C : xm_Cx K cX12_lies RX12 2 (some (FieldType.int)) rm_X12_lies) (N : xm_Nx K) (hg : ∀ v S, g v S → xm_q K (some (xm_i v)) S)  (h1 : wp_X12_lies_29 h s0 S g) : xm_W K 0 0 29 [] [xm_i s0] S := by
  unfold wp_X12_lies_29 at h1
  exact x_iret C (Nat.le_of_ble_eq_true rfl) (Nat.le_of_ble_eq_true rfl) rfl dX12_lies_29 (hg _ _ h1)
def wp_X12_lies_13 (h : Nat) (x1 : Int32) (s0 : Int32) (s1 : Option Nat) (S : xm_S) (g : Int32 → xm_S → Prop) : Prop :=
  ∃ n1, s1 = some n1 ∧ st_t S n1 = some (12, 0) ∧ wp_X12_may n1 s0 S (fun r5 S4 => (r5 = 0 → wp_X12_lies_29 h (0 : Int32) S4 g) ∧ (¬ r5 = 0 → st_t S4 h = some (12, 0) ∧ ∃ n7, (st_r S4 h 43) = some n7 ∧ ∃ z10, st_t S4 n7 = some (100, z10) ∧ vp_in x1 z10 ∧ wp_X12_lies_29 h (st_i S4 n7 (x1).toNatClampNeg) S4 g))
set_option maxRecDepth 100000 in
set_option maxHeartbeats 4000000 in
theorem kp_X12_lies_13 {K : xm_K} (h : Nat) (x1 : Int32) (s0 : Int32) (s1 : Option Nat) (S : xm_S) {g : Int32 → xm_S → Prop} (C : xm_Cx K cX12_lies RX12 2 (some (FieldType.int)) rm_X12_lies) (N : xm_Nx K) (hg : ∀ v S, g v S → xm_q K (some (xm_i v)) S)  (h1 : wp_X12_lies_13 h x1 s0 s1 S g) : xm_W K 0 0 13 [(0, xm_r (some h)), (1, xm_i x1)] [xm_i s0, xm_r s1] S := by
  unfold wp_X12_lies_13 at h1
  obtain ⟨n1, hr2, h1⟩ := h1
  obtain ⟨ht3, h1⟩ := h1
  refine x_callV (rm' := rm_X12_may) (n := n1) C (kp_X12_may_met h1) lk_95 gw_572 gw_573 xv_12 rfl hr2 ht3 rfl (Nat.le_of_ble_eq_true rfl) ⟨Nat.le_of_ble_eq_true rfl, Nat.le_of_ble_eq_true rfl, (Nat.le_of_ble_eq_true rfl), (Nat.le_of_ble_eq_true rfl)⟩ dX12_lies_13 xm_kx (xm_ki (fun r5 S4 h1 => ?_))
  refine x_if_eq (tgt := 28) C dX12_lies_16 (by decide) (fun z9 => ?_) (fun z9 => ?_)
  · have h1 := h1.1 z9
    refine x_iconst (v := (0 : Int32)) C dX12_lies_28 (by decide) ?_
    refine x_keep (L' := []) C [] rfl ?_
    exact kp_X12_lies_29 h (0 : Int32) S4 C N hg  h1
  · have h1 := h1.2 z9
    refine x_aload_n C 0 dX12_lies_19 rfl rfl ?_
    obtain ⟨ht6, h1⟩ := h1
    refine x_getf_r (n := h) C rfl ht6 fd_207 (by decide) dX12_lies_20 ?_
    refine x_iload_n C 1 dX12_lies_23 rfl rfl ?_
    obtain ⟨n7, hr8, h1⟩ := h1
    obtain ⟨z10, ht9, h1⟩ := h1
    obtain ⟨hi11, h1⟩ := h1
    refine x_iald (n := n7) C hr8 ht9 hi11 dX12_lies_24 ?_
    refine x_goto (tgt := 29) C dX12_lies_25 (by decide) ?_
    refine x_keep (L' := []) C [] rfl ?_
    exact kp_X12_lies_29 h (st_i S4 n7 (x1).toNatClampNeg) S4 C N hg  h1
def wp_X12_lies (h : Nat) (x1 : Int32) (S : xm_S) (g : Int32 → xm_S → Prop) : Prop :=
  wp_X12_isMirror x1 S (fun r13 S12 => (r13 = 0 → wp_X12_lies_13 h x1 (1 : Int32) (some h) S12 g) ∧ (¬ r13 = 0 → wp_X12_lies_13 h x1 (0 : Int32) (some h) S12 g))
set_option maxRecDepth 100000 in
set_option maxHeartbeats 4000000 in
theorem kp_X12_lies {K : xm_K} (h : Nat) (x1 : Int32) (S : xm_S) {g : Int32 → xm_S → Prop} (C : xm_Cx K cX12_lies RX12 2 (some (FieldType.int)) rm_X12_lies) (N : xm_Nx K) (hg : ∀ v S, g v S → xm_q K (some (xm_i v)) S)  (h1 : wp_X12_lies h x1 S g) : xm_W K 0 0 0 [(0, xm_r (some h)), (1, xm_i x1)] [] S := by
  unfold wp_X12_lies at h1
  refine x_aload_n C 0 dX12_lies_0 rfl rfl ?_
  refine x_iload_n C 1 dX12_lies_1 rfl rfl ?_
  refine x_callS (rm' := rm_X12_isMirror) C (kp_X12_isMirror_met h1) lk_129 gw_763 rfl (Nat.le_of_ble_eq_true rfl) ⟨Nat.le_of_ble_eq_true rfl, Nat.le_of_ble_eq_true rfl, (Nat.le_of_ble_eq_true rfl), (Nat.le_of_ble_eq_true rfl)⟩ dX12_lies_2 xm_kx (xm_ki (fun r13 S12 h1 => ?_))
  refine x_if_eq (tgt := 12) C dX12_lies_5 (by decide) (fun z9 => ?_) (fun z9 => ?_)
  · have h1 := h1.1 z9
    refine x_iconst (v := (1 : Int32)) C dX12_lies_12 (by decide) ?_
    exact kp_X12_lies_13 h x1 (1 : Int32) (some h) S12 C N hg  h1
  · have h1 := h1.2 z9
    refine x_iconst (v := (0 : Int32)) C dX12_lies_8 (by decide) ?_
    refine x_goto (tgt := 13) C dX12_lies_9 (by decide) ?_
    exact kp_X12_lies_13 h x1 (0 : Int32) (some h) S12 C N hg  h1
theorem kp_X12_lies_met {h : Nat} {x1 : Int32} {S : xm_S} {g : Int32 → xm_S → Prop}  (h1 : wp_X12_lies h x1 S g) : xm_Met yX12_lies cX12_lies 2 (some (FieldType.int)) rm_X12_lies [xm_r (some h), xm_i x1] S (xm_qi g) xm_nox :=
  xm_ofW RX12 (by decide +kernel) rfl (Nat.le_of_ble_eq_true rfl) (fun K C N hq hx hi => kp_X12_lies h x1 S C N (fun v S h => by rw [hq]; exact ⟨v, rfl, h⟩)  h1)
def rm_X12_lock : Room := { frames := 3, cells := 0, slots := 0, locals := 62 }
theorem dX12_lock_0 : decode cX12_lock 0 = .ok (.iload_n 1, 1) := by decide +kernel
theorem dX12_lock_1 : decode cX12_lock 1 = .ok (.invokestatic 302, 3) := by decide +kernel
theorem dX12_lock_4 : decode cX12_lock 4 = .ok (.istore_n 2, 1) := by decide +kernel
theorem dX12_lock_5 : decode cX12_lock 5 = .ok (.aload_n 0, 1) := by decide +kernel
theorem dX12_lock_6 : decode cX12_lock 6 = .ok (.iload_n 2, 1) := by decide +kernel
theorem dX12_lock_7 : decode cX12_lock 7 = .ok (.ifCond .ne 7, 3) := by decide +kernel
theorem dX12_lock_10 : decode cX12_lock 10 = .ok (.iconst 1, 1) := by decide +kernel
theorem dX12_lock_11 : decode cX12_lock 11 = .ok (.goto 17, 3) := by decide +kernel
theorem dX12_lock_14 : decode cX12_lock 14 = .ok (.aload_n 0, 1) := by decide +kernel
theorem dX12_lock_15 : decode cX12_lock 15 = .ok (.getfield 87, 3) := by decide +kernel
theorem dX12_lock_18 : decode cX12_lock 18 = .ok (.iload_n 1, 1) := by decide +kernel
theorem dX12_lock_19 : decode cX12_lock 19 = .ok (.baload, 1) := by decide +kernel
theorem dX12_lock_20 : decode cX12_lock 20 = .ok (.ifCond .eq 7, 3) := by decide +kernel
theorem dX12_lock_23 : decode cX12_lock 23 = .ok (.iconst 0, 1) := by decide +kernel
theorem dX12_lock_24 : decode cX12_lock 24 = .ok (.goto 4, 3) := by decide +kernel
theorem dX12_lock_27 : decode cX12_lock 27 = .ok (.iconst 2, 1) := by decide +kernel
theorem dX12_lock_28 : decode cX12_lock 28 = .ok (.invokevirtual 182, 3) := by decide +kernel
theorem dX12_lock_31 : decode cX12_lock 31 = .ok (.ifCond .ne 5, 3) := by decide +kernel
theorem dX12_lock_34 : decode cX12_lock 34 = .ok (.iconst 0, 1) := by decide +kernel
theorem dX12_lock_35 : decode cX12_lock 35 = .ok (.ireturn, 1) := by decide +kernel
theorem dX12_lock_36 : decode cX12_lock 36 = .ok (.iconst 0, 1) := by decide +kernel
theorem dX12_lock_37 : decode cX12_lock 37 = .ok (.istore_n 3, 1) := by decide +kernel
theorem dX12_lock_38 : decode cX12_lock 38 = .ok (.bipush 6, 2) := by decide +kernel
theorem dX12_lock_40 : decode cX12_lock 40 = .ok (.iload_n 1, 1) := by decide +kernel
theorem dX12_lock_41 : decode cX12_lock 41 = .ok (.imul, 1) := by decide +kernel
theorem dX12_lock_42 : decode cX12_lock 42 = .ok (.istore 4, 2) := by decide +kernel
theorem dX12_lock_44 : decode cX12_lock 44 = .ok (.iload 4, 2) := by decide +kernel
theorem dX12_lock_46 : decode cX12_lock 46 = .ok (.bipush 6, 2) := by decide +kernel
theorem dX12_lock_48 : decode cX12_lock 48 = .ok (.iload_n 1, 1) := by decide +kernel
theorem dX12_lock_49 : decode cX12_lock 49 = .ok (.imul, 1) := by decide +kernel
theorem dX12_lock_50 : decode cX12_lock 50 = .ok (.bipush 6, 2) := by decide +kernel
theorem dX12_lock_52 : decode cX12_lock 52 = .ok (.iadd, 1) := by decide +kernel
theorem dX12_lock_53 : decode cX12_lock 53 = .ok (.if_icmp .ge 42, 3) := by decide +kernel
theorem dX12_lock_56 : decode cX12_lock 56 = .ok (.aload_n 0, 1) := by decide +kernel
theorem dX12_lock_57 : decode cX12_lock 57 = .ok (.getfield 90, 3) := by decide +kernel
theorem dX12_lock_60 : decode cX12_lock 60 = .ok (.iload 4, 2) := by decide +kernel
theorem dX12_lock_62 : decode cX12_lock 62 = .ok (.aload_n 0, 1) := by decide +kernel
theorem dX12_lock_63 : decode cX12_lock 63 = .ok (.getfield 84, 3) := by decide +kernel
theorem dX12_lock_66 : decode cX12_lock 66 = .ok (.iload 4, 2) := by decide +kernel
theorem dX12_lock_68 : decode cX12_lock 68 = .ok (.iaload, 1) := by decide +kernel
theorem dX12_lock_69 : decode cX12_lock 69 = .ok (.iastore, 1) := by decide +kernel
theorem dX12_lock_70 : decode cX12_lock 70 = .ok (.iload_n 3, 1) := by decide +kernel
theorem dX12_lock_71 : decode cX12_lock 71 = .ok (.aload_n 0, 1) := by decide +kernel
theorem dX12_lock_72 : decode cX12_lock 72 = .ok (.getfield 90, 3) := by decide +kernel
theorem dX12_lock_75 : decode cX12_lock 75 = .ok (.iload 4, 2) := by decide +kernel
theorem dX12_lock_77 : decode cX12_lock 77 = .ok (.iaload, 1) := by decide +kernel
theorem dX12_lock_78 : decode cX12_lock 78 = .ok (.iconst (-1), 1) := by decide +kernel
theorem dX12_lock_79 : decode cX12_lock 79 = .ok (.if_icmp .ne 7, 3) := by decide +kernel
theorem dX12_lock_82 : decode cX12_lock 82 = .ok (.iconst 0, 1) := by decide +kernel
theorem dX12_lock_83 : decode cX12_lock 83 = .ok (.goto 4, 3) := by decide +kernel
theorem dX12_lock_86 : decode cX12_lock 86 = .ok (.iconst 1, 1) := by decide +kernel
theorem dX12_lock_87 : decode cX12_lock 87 = .ok (.iadd, 1) := by decide +kernel
theorem dX12_lock_88 : decode cX12_lock 88 = .ok (.istore_n 3, 1) := by decide +kernel
theorem dX12_lock_89 : decode cX12_lock 89 = .ok (.iinc 4 1, 3) := by decide +kernel
theorem dX12_lock_92 : decode cX12_lock 92 = .ok (.goto (-48), 3) := by decide +kernel
theorem dX12_lock_95 : decode cX12_lock 95 = .ok (.iload_n 3, 1) := by decide +kernel
theorem dX12_lock_96 : decode cX12_lock 96 = .ok (.ireturn, 1) := by decide +kernel
def wp_X12_lock_87 (h : Nat) (x1 : Int32) (x4 : Int32) (s0 : Int32) (s1 : Int32) (S : xm_S) (g : Int32 → xm_S → Prop) (Z44 : Int32 → Int32 → Int32 → xm_S → Prop) : Prop :=
  ∀ y1, y1 = (s1 + s0) → ∀ y3, y3 = (x4 + (1 : Int32)) → Z44 x1 y1 y3 S
set_option maxRecDepth 100000 in
set_option maxHeartbeats 4000000 in
theorem kp_X12_lock_87 {K : xm_K} (h : Nat) (x1 : Int32) (x4 : Int32) (s0 : Int32) (s1 : Int32) (S : xm_S) {g : Int32 → xm_S → Prop} {Z44 : Int32 → Int32 → Int32 → xm_S → Prop} (C : xm_Cx K cX12_lock RX12 5 (some (FieldType.int)) rm_X12_lock) (N : xm_Nx K) (hg : ∀ v S, g v S → xm_q K (some (xm_i v)) S) (hZ44 : ∀ x1 x3 x4 S, Z44 x1 x3 x4 S → xm_W K 0 0 44 [(0, xm_r (some h)), (1, xm_i x1), (3, xm_i x3), (4, xm_i x4)] [] S) (h1 : wp_X12_lock_87 h x1 x4 s0 s1 S g Z44) : xm_W K 0 0 87 [(0, xm_r (some h)), (1, xm_i x1), (4, xm_i x4)] [xm_i s0, xm_i s1] S := by
  unfold wp_X12_lock_87 at h1
  refine x_iadd C dX12_lock_87 ?_
  refine x_topi (fun y1 e2 => ?_)
  have h1 := h1 y1 e2
  refine x_istore_n (L' := [(3, xm_i y1), (0, xm_r (some h)), (1, xm_i x1), (4, xm_i x4)]) C dX12_lock_88 rfl (by decide) rfl ?_
  obtain ⟨y3, e4⟩ : ∃ y3, y3 = (x4 + (1 : Int32)) := ⟨_, rfl⟩
  have h1 := h1 y3 e4
  refine x_iinc (v := y3) (L' := [(4, xm_i y3), (3, xm_i y1), (0, xm_r (some h)), (1, xm_i x1)]) C 3 dX12_lock_89 rfl (by rw [e4]; rfl) (by decide) rfl ?_
  refine x_goto (tgt := 44) C dX12_lock_92 (by decide) ?_
  refine x_keep (L' := [(0, xm_r (some h)), (1, xm_i x1), (3, xm_i y1), (4, xm_i y3)]) C [2, 3, 1, 0] rfl ?_
  exact hZ44 x1 y1 y3 S h1
def wp_X12_lock_44B (h : Nat) (x1 : Int32) (x3 : Int32) (x4 : Int32) (S : xm_S) (g : Int32 → xm_S → Prop) (Z44 : Int32 → Int32 → Int32 → xm_S → Prop) : Prop :=
  ((((nI 6) * x1) + (nI 6)) ≤ x4 → g x3 S) ∧ (¬ (((nI 6) * x1) + (nI 6)) ≤ x4 → st_t S h = some (12, 0) ∧ ∃ n6, (st_r S h 27) = some n6 ∧ ∃ z9, st_t S n6 = some (100, z9) ∧ vp_in x4 z9 ∧ ∃ n11, (st_r S h 29) = some n11 ∧ ∃ z14, st_t S n11 = some (100, z14) ∧ vp_in x4 z14 ∧ ∀ S16, S16 = st_pi S n11 (x4).toNatClampNeg (st_i S n6 (x4).toNatClampNeg) → ∃ n18, (st_r S16 h 29) = some n18 ∧ ∃ z21, st_t S16 n18 = some (100, z21) ∧ vp_in x4 z21 ∧ (¬ (st_i S16 n18 (x4).toNatClampNeg) = (-1 : Int32) → wp_X12_lock_87 h x1 x4 (1 : Int32) x3 S16 g Z44) ∧ ((st_i S16 n18 (x4).toNatClampNeg) = (-1 : Int32) → wp_X12_lock_87 h x1 x4 (0 : Int32) x3 S16 g Z44))
def wp_X12_lock_44 (h : Nat) (x1 : Int32) (x3 : Int32) (x4 : Int32) (S : xm_S) (g : Int32 → xm_S → Prop) : Prop :=
  ∀ Z44 : Int32 → Int32 → Int32 → xm_S → Prop, (∀ x1 x3 x4 S, wp_X12_lock_44B h x1 x3 x4 S g Z44 → Z44 x1 x3 x4 S) → Z44 x1 x3 x4 S
set_option maxRecDepth 100000 in
set_option maxHeartbeats 4000000 in
theorem kp_X12_lock_44B {K : xm_K} (h : Nat) (x1 : Int32) (x3 : Int32) (x4 : Int32) (S : xm_S) {g : Int32 → xm_S → Prop} {Z44 : Int32 → Int32 → Int32 → xm_S → Prop} (C : xm_Cx K cX12_lock RX12 5 (some (FieldType.int)) rm_X12_lock) (N : xm_Nx K) (hg : ∀ v S, g v S → xm_q K (some (xm_i v)) S) (hZ44 : ∀ x1 x3 x4 S, Z44 x1 x3 x4 S → xm_W K 0 0 44 [(0, xm_r (some h)), (1, xm_i x1), (3, xm_i x3), (4, xm_i x4)] [] S) (h1 : wp_X12_lock_44B h x1 x3 x4 S g Z44) : xm_W K 0 0 44 [(0, xm_r (some h)), (1, xm_i x1), (3, xm_i x3), (4, xm_i x4)] [] S := by
  unfold wp_X12_lock_44B at h1
  refine x_iload C 3 dX12_lock_44 rfl ?_
  refine x_bipush (v := (nI 6)) C dX12_lock_46 (by decide) ?_
  refine x_iload_n C 1 dX12_lock_48 rfl rfl ?_
  refine x_imul C dX12_lock_49 ?_
  refine x_bipush (v := (nI 6)) C dX12_lock_50 (by decide) ?_
  refine x_iadd C dX12_lock_52 ?_
  refine x_icmp_ge (tgt := 95) C dX12_lock_53 (by decide) (fun z9 => ?_) (fun z9 => ?_)
  · have h1 := h1.1 z9
    refine x_iload_n C 2 dX12_lock_95 rfl rfl ?_
    exact x_iret C (Nat.le_of_ble_eq_true rfl) (Nat.le_of_ble_eq_true rfl) rfl dX12_lock_96 (hg _ _ h1)
  · have h1 := h1.2 z9
    refine x_aload_n C 0 dX12_lock_56 rfl rfl ?_
    obtain ⟨ht5, h1⟩ := h1
    refine x_getf_r (n := h) C rfl ht5 fd_169 (by decide) dX12_lock_57 ?_
    refine x_iload C 3 dX12_lock_60 rfl ?_
    refine x_aload_n C 0 dX12_lock_62 rfl rfl ?_
    refine x_getf_r (n := h) C rfl ht5 fd_217 (by decide) dX12_lock_63 ?_
    refine x_iload C 3 dX12_lock_66 rfl ?_
    obtain ⟨n6, hr7, h1⟩ := h1
    obtain ⟨z9, ht8, h1⟩ := h1
    obtain ⟨hi10, h1⟩ := h1
    refine x_iald (n := n6) C hr7 ht8 hi10 dX12_lock_68 ?_
    obtain ⟨n11, hr12, h1⟩ := h1
    obtain ⟨z14, ht13, h1⟩ := h1
    obtain ⟨hi15, h1⟩ := h1
    refine x_iast (n := n11) C hr12 ht13 hi15 dX12_lock_69 ?_
    refine x_topS (fun S16 e17 => ?_)
    have h1 := h1 S16 e17
    refine x_iload_n C 2 dX12_lock_70 rfl rfl ?_
    refine x_aload_n C 0 dX12_lock_71 rfl rfl ?_
    refine x_getf_r (n := h) C rfl (tk_p e17 ht5) fd_169 (by decide) dX12_lock_72 ?_
    refine x_iload C 3 dX12_lock_75 rfl ?_
    obtain ⟨n18, hr19, h1⟩ := h1
    obtain ⟨z21, ht20, h1⟩ := h1
    obtain ⟨hi22, h1⟩ := h1
    refine x_iald (n := n18) C hr19 ht20 hi22 dX12_lock_77 ?_
    refine x_iconst (v := (-1 : Int32)) C dX12_lock_78 (by decide) ?_
    refine x_icmp_ne (tgt := 86) C dX12_lock_79 (by decide) (fun z9 => ?_) (fun z9 => ?_)
    · have h1 := h1.1 z9
      refine x_iconst (v := (1 : Int32)) C dX12_lock_86 (by decide) ?_
      refine x_keep (L' := [(0, xm_r (some h)), (1, xm_i x1), (4, xm_i x4)]) C [0, 1, 3] rfl ?_
      exact kp_X12_lock_87 h x1 x4 (1 : Int32) x3 S16 C N hg hZ44 h1
    · have h1 := h1.2 z9
      refine x_iconst (v := (0 : Int32)) C dX12_lock_82 (by decide) ?_
      refine x_goto (tgt := 87) C dX12_lock_83 (by decide) ?_
      refine x_keep (L' := [(0, xm_r (some h)), (1, xm_i x1), (4, xm_i x4)]) C [0, 1, 3] rfl ?_
      exact kp_X12_lock_87 h x1 x4 (0 : Int32) x3 S16 C N hg hZ44 h1
theorem kp_X12_lock_44 {K : xm_K} (h : Nat) (x1 : Int32) (x3 : Int32) (x4 : Int32) (S : xm_S) {g : Int32 → xm_S → Prop} (C : xm_Cx K cX12_lock RX12 5 (some (FieldType.int)) rm_X12_lock) (N : xm_Nx K) (hg : ∀ v S, g v S → xm_q K (some (xm_i v)) S)  (h1 : wp_X12_lock_44 h x1 x3 x4 S g) : xm_W K 0 0 44 [(0, xm_r (some h)), (1, xm_i x1), (3, xm_i x3), (4, xm_i x4)] [] S :=
  h1 (fun x1 x3 x4 S => xm_W K 0 0 44 [(0, xm_r (some h)), (1, xm_i x1), (3, xm_i x3), (4, xm_i x4)] [] S) (fun x1 x3 x4 S hb => kp_X12_lock_44B h x1 x3 x4 S C N hg (fun x1 x3 x4 S hz => hz) hb)
def wp_X12_lock_28 (h : Nat) (x1 : Int32) (s0 : Int32) (s1 : Option Nat) (S : xm_S) (g : Int32 → xm_S → Prop) : Prop :=
  ∃ n23, s1 = some n23 ∧ st_t S n23 = some (12, 0) ∧ wp_X12_may n23 s0 S (fun r27 S26 => (¬ r27 = 0 → ∀ y28, y28 = ((nI 6) * x1) → wp_X12_lock_44 h x1 (0 : Int32) y28 S26 g) ∧ (r27 = 0 → g (0 : Int32) S26))
set_option maxRecDepth 100000 in
set_option maxHeartbeats 4000000 in
theorem kp_X12_lock_28 {K : xm_K} (h : Nat) (x1 : Int32) (s0 : Int32) (s1 : Option Nat) (S : xm_S) {g : Int32 → xm_S → Prop} (C : xm_Cx K cX12_lock RX12 5 (some (FieldType.int)) rm_X12_lock) (N : xm_Nx K) (hg : ∀ v S, g v S → xm_q K (some (xm_i v)) S)  (h1 : wp_X12_lock_28 h x1 s0 s1 S g) : xm_W K 0 0 28 [(0, xm_r (some h)), (1, xm_i x1)] [xm_i s0, xm_r s1] S := by
  unfold wp_X12_lock_28 at h1
  obtain ⟨n23, hr24, h1⟩ := h1
  obtain ⟨ht25, h1⟩ := h1
  refine x_callV (rm' := rm_X12_may) (n := n23) C (kp_X12_may_met h1) lk_95 gw_572 gw_573 xv_12 rfl hr24 ht25 rfl (Nat.le_of_ble_eq_true rfl) ⟨Nat.le_of_ble_eq_true rfl, Nat.le_of_ble_eq_true rfl, (Nat.le_of_ble_eq_true rfl), (Nat.le_of_ble_eq_true rfl)⟩ dX12_lock_28 xm_kx (xm_ki (fun r27 S26 h1 => ?_))
  refine x_if_ne (tgt := 36) C dX12_lock_31 (by decide) (fun z9 => ?_) (fun z9 => ?_)
  · have h1 := h1.1 z9
    refine x_iconst (v := (0 : Int32)) C dX12_lock_36 (by decide) ?_
    refine x_istore_n (L' := [(3, xm_i (0 : Int32)), (0, xm_r (some h)), (1, xm_i x1)]) C dX12_lock_37 rfl (by decide) rfl ?_
    refine x_bipush (v := (nI 6)) C dX12_lock_38 (by decide) ?_
    refine x_iload_n C 2 dX12_lock_40 rfl rfl ?_
    refine x_imul C dX12_lock_41 ?_
    refine x_topi (fun y28 e29 => ?_)
    have h1 := h1 y28 e29
    refine x_istore (L' := [(4, xm_i y28), (3, xm_i (0 : Int32)), (0, xm_r (some h)), (1, xm_i x1)]) C dX12_lock_42 (by decide) rfl ?_
    refine x_keep (L' := [(0, xm_r (some h)), (1, xm_i x1), (3, xm_i (0 : Int32)), (4, xm_i y28)]) C [2, 3, 1, 0] rfl ?_
    exact kp_X12_lock_44 h x1 (0 : Int32) y28 S26 C N hg  h1
  · have h1 := h1.2 z9
    refine x_iconst (v := (0 : Int32)) C dX12_lock_34 (by decide) ?_
    exact x_iret C (Nat.le_of_ble_eq_true rfl) (Nat.le_of_ble_eq_true rfl) rfl dX12_lock_35 (hg _ _ h1)
def wp_X12_lock (h : Nat) (x1 : Int32) (S : xm_S) (g : Int32 → xm_S → Prop) : Prop :=
  wp_X12_isPlatform x1 S (fun r31 S30 => (¬ r31 = 0 → st_t S30 h = some (12, 0) ∧ ∃ n33, (st_r S30 h 28) = some n33 ∧ ∃ z36, st_t S30 n33 = some (101, z36) ∧ vp_in x1 z36 ∧ ((st_i S30 n33 (x1).toNatClampNeg) = 0 → wp_X12_lock_28 h x1 (nI 2) (some h) S30 g) ∧ (¬ (st_i S30 n33 (x1).toNatClampNeg) = 0 → wp_X12_lock_28 h x1 (0 : Int32) (some h) S30 g)) ∧ (r31 = 0 → wp_X12_lock_28 h x1 (1 : Int32) (some h) S30 g))
set_option maxRecDepth 100000 in
set_option maxHeartbeats 4000000 in
theorem kp_X12_lock {K : xm_K} (h : Nat) (x1 : Int32) (S : xm_S) {g : Int32 → xm_S → Prop} (C : xm_Cx K cX12_lock RX12 5 (some (FieldType.int)) rm_X12_lock) (N : xm_Nx K) (hg : ∀ v S, g v S → xm_q K (some (xm_i v)) S)  (h1 : wp_X12_lock h x1 S g) : xm_W K 0 0 0 [(0, xm_r (some h)), (1, xm_i x1)] [] S := by
  unfold wp_X12_lock at h1
  refine x_iload_n C 1 dX12_lock_0 rfl rfl ?_
  refine x_callS (rm' := rm_X12_isPlatform) C (kp_X12_isPlatform_met h1) lk_104 gw_611 rfl (Nat.le_of_ble_eq_true rfl) ⟨Nat.le_of_ble_eq_true rfl, Nat.le_of_ble_eq_true rfl, (Nat.le_of_ble_eq_true rfl), (Nat.le_of_ble_eq_true rfl)⟩ dX12_lock_1 xm_kx (xm_ki (fun r31 S30 h1 => ?_))
  refine x_istore_n (L' := [(2, xm_i r31), (0, xm_r (some h)), (1, xm_i x1)]) C dX12_lock_4 rfl (by decide) rfl ?_
  refine x_aload_n C 1 dX12_lock_5 rfl rfl ?_
  refine x_iload_n C 0 dX12_lock_6 rfl rfl ?_
  refine x_if_ne (tgt := 14) C dX12_lock_7 (by decide) (fun z9 => ?_) (fun z9 => ?_)
  · have h1 := h1.1 z9
    refine x_aload_n C 1 dX12_lock_14 rfl rfl ?_
    obtain ⟨ht32, h1⟩ := h1
    refine x_getf_r (n := h) C rfl ht32 fd_218 (by decide) dX12_lock_15 ?_
    refine x_iload_n C 2 dX12_lock_18 rfl rfl ?_
    obtain ⟨n33, hr34, h1⟩ := h1
    obtain ⟨z36, ht35, h1⟩ := h1
    obtain ⟨hi37, h1⟩ := h1
    refine x_zald (n := n33) C hr34 ht35 hi37 dX12_lock_19 ?_
    refine x_if_eq (tgt := 27) C dX12_lock_20 (by decide) (fun z9 => ?_) (fun z9 => ?_)
    · have h1 := h1.1 z9
      refine x_iconst (v := (nI 2)) C dX12_lock_27 (by decide) ?_
      refine x_keep (L' := [(0, xm_r (some h)), (1, xm_i x1)]) C [1, 2] rfl ?_
      exact kp_X12_lock_28 h x1 (nI 2) (some h) S30 C N hg  h1
    · have h1 := h1.2 z9
      refine x_iconst (v := (0 : Int32)) C dX12_lock_23 (by decide) ?_
      refine x_goto (tgt := 28) C dX12_lock_24 (by decide) ?_
      refine x_keep (L' := [(0, xm_r (some h)), (1, xm_i x1)]) C [1, 2] rfl ?_
      exact kp_X12_lock_28 h x1 (0 : Int32) (some h) S30 C N hg  h1
  · have h1 := h1.2 z9
    refine x_iconst (v := (1 : Int32)) C dX12_lock_10 (by decide) ?_
    refine x_goto (tgt := 28) C dX12_lock_11 (by decide) ?_
    refine x_keep (L' := [(0, xm_r (some h)), (1, xm_i x1)]) C [1, 2] rfl ?_
    exact kp_X12_lock_28 h x1 (1 : Int32) (some h) S30 C N hg  h1
theorem kp_X12_lock_met {h : Nat} {x1 : Int32} {S : xm_S} {g : Int32 → xm_S → Prop}  (h1 : wp_X12_lock h x1 S g) : xm_Met yX12_lock cX12_lock 5 (some (FieldType.int)) rm_X12_lock [xm_r (some h), xm_i x1] S (xm_qi g) xm_nox :=
  xm_ofW RX12 (by decide +kernel) rfl (Nat.le_of_ble_eq_true rfl) (fun K C N hq hx hi => kp_X12_lock h x1 S C N (fun v S h => by rw [hq]; exact ⟨v, rfl, h⟩)  h1)
def rm_X12_locked : Room := { frames := 3, cells := 0, slots := 0, locals := 62 }
theorem dX12_locked_0 : decode cX12_locked 0 = .ok (.aload_n 0, 1) := by decide +kernel
theorem dX12_locked_1 : decode cX12_locked 1 = .ok (.iload_n 1, 1) := by decide +kernel
theorem dX12_locked_2 : decode cX12_locked 2 = .ok (.invokestatic 302, 3) := by decide +kernel
theorem dX12_locked_5 : decode cX12_locked 5 = .ok (.ifCond .eq 14, 3) := by decide +kernel
theorem dX12_locked_8 : decode cX12_locked 8 = .ok (.iload_n 2, 1) := by decide +kernel
theorem dX12_locked_9 : decode cX12_locked 9 = .ok (.invokestatic 176, 3) := by decide +kernel
theorem dX12_locked_12 : decode cX12_locked 12 = .ok (.ifCond .eq 7, 3) := by decide +kernel
theorem dX12_locked_15 : decode cX12_locked 15 = .ok (.iconst 0, 1) := by decide +kernel
theorem dX12_locked_16 : decode cX12_locked 16 = .ok (.goto 4, 3) := by decide +kernel
theorem dX12_locked_19 : decode cX12_locked 19 = .ok (.iconst 1, 1) := by decide +kernel
theorem dX12_locked_20 : decode cX12_locked 20 = .ok (.invokevirtual 182, 3) := by decide +kernel
theorem dX12_locked_23 : decode cX12_locked 23 = .ok (.ifCond .eq 17, 3) := by decide +kernel
theorem dX12_locked_26 : decode cX12_locked 26 = .ok (.aload_n 0, 1) := by decide +kernel
theorem dX12_locked_27 : decode cX12_locked 27 = .ok (.getfield 90, 3) := by decide +kernel
theorem dX12_locked_30 : decode cX12_locked 30 = .ok (.bipush 6, 2) := by decide +kernel
theorem dX12_locked_32 : decode cX12_locked 32 = .ok (.iload_n 1, 1) := by decide +kernel
theorem dX12_locked_33 : decode cX12_locked 33 = .ok (.imul, 1) := by decide +kernel
theorem dX12_locked_34 : decode cX12_locked 34 = .ok (.iload_n 2, 1) := by decide +kernel
theorem dX12_locked_35 : decode cX12_locked 35 = .ok (.iadd, 1) := by decide +kernel
theorem dX12_locked_36 : decode cX12_locked 36 = .ok (.iaload, 1) := by decide +kernel
theorem dX12_locked_37 : decode cX12_locked 37 = .ok (.goto 4, 3) := by decide +kernel
theorem dX12_locked_40 : decode cX12_locked 40 = .ok (.iconst 0, 1) := by decide +kernel
theorem dX12_locked_41 : decode cX12_locked 41 = .ok (.ireturn, 1) := by decide +kernel
def wp_X12_locked_41 (h : Nat) (s0 : Int32) (S : xm_S) (g : Int32 → xm_S → Prop) : Prop :=
  g s0 S
set_option maxRecDepth 100000 in
set_option maxHeartbeats 4000000 in
theorem kp_X12_locked_41 {K : xm_K} (h : Nat) (s0 : Int32) (S : xm_S) {g : Int32 → xm_S → Prop} (C : xm_Cx K cX12_locked RX12 3 (some (FieldType.int)) rm_X12_locked) (N : xm_Nx K) (hg : ∀ v S, g v S → xm_q K (some (xm_i v)) S)  (h1 : wp_X12_locked_41 h s0 S g) : xm_W K 0 0 41 [] [xm_i s0] S := by
  unfold wp_X12_locked_41 at h1
  exact x_iret C (Nat.le_of_ble_eq_true rfl) (Nat.le_of_ble_eq_true rfl) rfl dX12_locked_41 (hg _ _ h1)
def wp_X12_locked_20 (h : Nat) (x1 : Int32) (x2 : Int32) (s0 : Int32) (s1 : Option Nat) (S : xm_S) (g : Int32 → xm_S → Prop) : Prop :=
  ∃ n1, s1 = some n1 ∧ st_t S n1 = some (12, 0) ∧ wp_X12_may n1 s0 S (fun r5 S4 => (r5 = 0 → wp_X12_locked_41 h (0 : Int32) S4 g) ∧ (¬ r5 = 0 → st_t S4 h = some (12, 0) ∧ ∃ n7, (st_r S4 h 29) = some n7 ∧ ∃ z10, st_t S4 n7 = some (100, z10) ∧ vp_in (((nI 6) * x1) + x2) z10 ∧ wp_X12_locked_41 h (st_i S4 n7 ((((nI 6) * x1) + x2)).toNatClampNeg) S4 g))
set_option maxRecDepth 100000 in
set_option maxHeartbeats 4000000 in
theorem kp_X12_locked_20 {K : xm_K} (h : Nat) (x1 : Int32) (x2 : Int32) (s0 : Int32) (s1 : Option Nat) (S : xm_S) {g : Int32 → xm_S → Prop} (C : xm_Cx K cX12_locked RX12 3 (some (FieldType.int)) rm_X12_locked) (N : xm_Nx K) (hg : ∀ v S, g v S → xm_q K (some (xm_i v)) S)  (h1 : wp_X12_locked_20 h x1 x2 s0 s1 S g) : xm_W K 0 0 20 [(0, xm_r (some h)), (1, xm_i x1), (2, xm_i x2)] [xm_i s0, xm_r s1] S := by
  unfold wp_X12_locked_20 at h1
  obtain ⟨n1, hr2, h1⟩ := h1
  obtain ⟨ht3, h1⟩ := h1
  refine x_callV (rm' := rm_X12_may) (n := n1) C (kp_X12_may_met h1) lk_95 gw_572 gw_573 xv_12 rfl hr2 ht3 rfl (Nat.le_of_ble_eq_true rfl) ⟨Nat.le_of_ble_eq_true rfl, Nat.le_of_ble_eq_true rfl, (Nat.le_of_ble_eq_true rfl), (Nat.le_of_ble_eq_true rfl)⟩ dX12_locked_20 xm_kx (xm_ki (fun r5 S4 h1 => ?_))
  refine x_if_eq (tgt := 40) C dX12_locked_23 (by decide) (fun z9 => ?_) (fun z9 => ?_)
  · have h1 := h1.1 z9
    refine x_iconst (v := (0 : Int32)) C dX12_locked_40 (by decide) ?_
    refine x_keep (L' := []) C [] rfl ?_
    exact kp_X12_locked_41 h (0 : Int32) S4 C N hg  h1
  · have h1 := h1.2 z9
    refine x_aload_n C 0 dX12_locked_26 rfl rfl ?_
    obtain ⟨ht6, h1⟩ := h1
    refine x_getf_r (n := h) C rfl ht6 fd_169 (by decide) dX12_locked_27 ?_
    refine x_bipush (v := (nI 6)) C dX12_locked_30 (by decide) ?_
    refine x_iload_n C 1 dX12_locked_32 rfl rfl ?_
    refine x_imul C dX12_locked_33 ?_
    refine x_iload_n C 2 dX12_locked_34 rfl rfl ?_
    refine x_iadd C dX12_locked_35 ?_
    obtain ⟨n7, hr8, h1⟩ := h1
    obtain ⟨z10, ht9, h1⟩ := h1
    obtain ⟨hi11, h1⟩ := h1
    refine x_iald (n := n7) C hr8 ht9 hi11 dX12_locked_36 ?_
    refine x_goto (tgt := 41) C dX12_locked_37 (by decide) ?_
    refine x_keep (L' := []) C [] rfl ?_
    exact kp_X12_locked_41 h (st_i S4 n7 ((((nI 6) * x1) + x2)).toNatClampNeg) S4 C N hg  h1
def wp_X12_locked_19 (h : Nat) (x1 : Int32) (x2 : Int32) (s0 : Option Nat) (S : xm_S) (g : Int32 → xm_S → Prop) : Prop :=
  wp_X12_locked_20 h x1 x2 (1 : Int32) s0 S g
set_option maxRecDepth 100000 in
set_option maxHeartbeats 4000000 in
theorem kp_X12_locked_19 {K : xm_K} (h : Nat) (x1 : Int32) (x2 : Int32) (s0 : Option Nat) (S : xm_S) {g : Int32 → xm_S → Prop} (C : xm_Cx K cX12_locked RX12 3 (some (FieldType.int)) rm_X12_locked) (N : xm_Nx K) (hg : ∀ v S, g v S → xm_q K (some (xm_i v)) S)  (h1 : wp_X12_locked_19 h x1 x2 s0 S g) : xm_W K 0 0 19 [(0, xm_r (some h)), (1, xm_i x1), (2, xm_i x2)] [xm_r s0] S := by
  unfold wp_X12_locked_19 at h1
  refine x_iconst (v := (1 : Int32)) C dX12_locked_19 (by decide) ?_
  exact kp_X12_locked_20 h x1 x2 (1 : Int32) s0 S C N hg  h1
def wp_X12_locked (h : Nat) (x1 : Int32) (x2 : Int32) (S : xm_S) (g : Int32 → xm_S → Prop) : Prop :=
  wp_X12_isPlatform x1 S (fun r13 S12 => (r13 = 0 → wp_X12_locked_19 h x1 x2 (some h) S12 g) ∧ (¬ r13 = 0 → wp_X12_isPack x2 S12 (fun r15 S14 => (r15 = 0 → wp_X12_locked_19 h x1 x2 (some h) S14 g) ∧ (¬ r15 = 0 → wp_X12_locked_20 h x1 x2 (0 : Int32) (some h) S14 g))))
set_option maxRecDepth 100000 in
set_option maxHeartbeats 4000000 in
theorem kp_X12_locked {K : xm_K} (h : Nat) (x1 : Int32) (x2 : Int32) (S : xm_S) {g : Int32 → xm_S → Prop} (C : xm_Cx K cX12_locked RX12 3 (some (FieldType.int)) rm_X12_locked) (N : xm_Nx K) (hg : ∀ v S, g v S → xm_q K (some (xm_i v)) S)  (h1 : wp_X12_locked h x1 x2 S g) : xm_W K 0 0 0 [(0, xm_r (some h)), (1, xm_i x1), (2, xm_i x2)] [] S := by
  unfold wp_X12_locked at h1
  refine x_aload_n C 0 dX12_locked_0 rfl rfl ?_
  refine x_iload_n C 1 dX12_locked_1 rfl rfl ?_
  refine x_callS (rm' := rm_X12_isPlatform) C (kp_X12_isPlatform_met h1) lk_104 gw_611 rfl (Nat.le_of_ble_eq_true rfl) ⟨Nat.le_of_ble_eq_true rfl, Nat.le_of_ble_eq_true rfl, (Nat.le_of_ble_eq_true rfl), (Nat.le_of_ble_eq_true rfl)⟩ dX12_locked_2 xm_kx (xm_ki (fun r13 S12 h1 => ?_))
  refine x_if_eq (tgt := 19) C dX12_locked_5 (by decide) (fun z9 => ?_) (fun z9 => ?_)
  · have h1 := h1.1 z9
    exact kp_X12_locked_19 h x1 x2 (some h) S12 C N hg  h1
  · have h1 := h1.2 z9
    refine x_iload_n C 2 dX12_locked_8 rfl rfl ?_
    refine x_callS (rm' := rm_X12_isPack) C (kp_X12_isPack_met h1) lk_97 gw_583 rfl (Nat.le_of_ble_eq_true rfl) ⟨Nat.le_of_ble_eq_true rfl, Nat.le_of_ble_eq_true rfl, (Nat.le_of_ble_eq_true rfl), (Nat.le_of_ble_eq_true rfl)⟩ dX12_locked_9 xm_kx (xm_ki (fun r15 S14 h1 => ?_))
    refine x_if_eq (tgt := 19) C dX12_locked_12 (by decide) (fun z9 => ?_) (fun z9 => ?_)
    · have h1 := h1.1 z9
      exact kp_X12_locked_19 h x1 x2 (some h) S14 C N hg  h1
    · have h1 := h1.2 z9
      refine x_iconst (v := (0 : Int32)) C dX12_locked_15 (by decide) ?_
      refine x_goto (tgt := 20) C dX12_locked_16 (by decide) ?_
      exact kp_X12_locked_20 h x1 x2 (0 : Int32) (some h) S14 C N hg  h1
theorem kp_X12_locked_met {h : Nat} {x1 : Int32} {x2 : Int32} {S : xm_S} {g : Int32 → xm_S → Prop}  (h1 : wp_X12_locked h x1 x2 S g) : xm_Met yX12_locked cX12_locked 3 (some (FieldType.int)) rm_X12_locked [xm_r (some h), xm_i x1, xm_i x2] S (xm_qi g) xm_nox :=
  xm_ofW RX12 (by decide +kernel) rfl (Nat.le_of_ble_eq_true rfl) (fun K C N hq hx hi => kp_X12_locked h x1 x2 S C N (fun v S h => by rw [hq]; exact ⟨v, rfl, h⟩)  h1)
def rm_X12_mirror : Room := { frames := 4, cells := 0, slots := 0, locals := 84 }
theorem dX12_mirror_0 : decode cX12_mirror 0 = .ok (.iload_n 1, 1) := by decide +kernel
theorem dX12_mirror_1 : decode cX12_mirror 1 = .ok (.invokestatic 328, 3) := by decide +kernel
theorem dX12_mirror_4 : decode cX12_mirror 4 = .ok (.ifCond .eq 16, 3) := by decide +kernel
theorem dX12_mirror_7 : decode cX12_mirror 7 = .ok (.aload_n 0, 1) := by decide +kernel
theorem dX12_mirror_8 : decode cX12_mirror 8 = .ok (.iload_n 2, 1) := by decide +kernel
theorem dX12_mirror_9 : decode cX12_mirror 9 = .ok (.iload_n 3, 1) := by decide +kernel
theorem dX12_mirror_10 : decode cX12_mirror 10 = .ok (.invokevirtual 237, 3) := by decide +kernel
theorem dX12_mirror_13 : decode cX12_mirror 13 = .ok (.ifCond .eq 7, 3) := by decide +kernel
theorem dX12_mirror_16 : decode cX12_mirror 16 = .ok (.iconst 1, 1) := by decide +kernel
theorem dX12_mirror_17 : decode cX12_mirror 17 = .ok (.goto 4, 3) := by decide +kernel
theorem dX12_mirror_20 : decode cX12_mirror 20 = .ok (.iconst 0, 1) := by decide +kernel
theorem dX12_mirror_21 : decode cX12_mirror 21 = .ok (.istore 5, 2) := by decide +kernel
theorem dX12_mirror_23 : decode cX12_mirror 23 = .ok (.aload_n 0, 1) := by decide +kernel
theorem dX12_mirror_24 : decode cX12_mirror 24 = .ok (.iload 5, 2) := by decide +kernel
theorem dX12_mirror_26 : decode cX12_mirror 26 = .ok (.ifCond .ne 7, 3) := by decide +kernel
theorem dX12_mirror_29 : decode cX12_mirror 29 = .ok (.iconst 1, 1) := by decide +kernel
theorem dX12_mirror_30 : decode cX12_mirror 30 = .ok (.goto 20, 3) := by decide +kernel
theorem dX12_mirror_33 : decode cX12_mirror 33 = .ok (.iload 4, 2) := by decide +kernel
theorem dX12_mirror_35 : decode cX12_mirror 35 = .ok (.iconst (-1), 1) := by decide +kernel
theorem dX12_mirror_36 : decode cX12_mirror 36 = .ok (.sipush 999, 3) := by decide +kernel
theorem dX12_mirror_39 : decode cX12_mirror 39 = .ok (.invokestatic 172, 3) := by decide +kernel
theorem dX12_mirror_42 : decode cX12_mirror 42 = .ok (.ifCond .eq 7, 3) := by decide +kernel
theorem dX12_mirror_45 : decode cX12_mirror 45 = .ok (.iconst 0, 1) := by decide +kernel
theorem dX12_mirror_46 : decode cX12_mirror 46 = .ok (.goto 4, 3) := by decide +kernel
theorem dX12_mirror_49 : decode cX12_mirror 49 = .ok (.iconst 2, 1) := by decide +kernel
theorem dX12_mirror_50 : decode cX12_mirror 50 = .ok (.invokevirtual 182, 3) := by decide +kernel
theorem dX12_mirror_53 : decode cX12_mirror 53 = .ok (.ifCond .ne 5, 3) := by decide +kernel
theorem dX12_mirror_56 : decode cX12_mirror 56 = .ok (.iconst 0, 1) := by decide +kernel
theorem dX12_mirror_57 : decode cX12_mirror 57 = .ok (.ireturn, 1) := by decide +kernel
theorem dX12_mirror_58 : decode cX12_mirror 58 = .ok (.aload_n 0, 1) := by decide +kernel
theorem dX12_mirror_59 : decode cX12_mirror 59 = .ok (.iload_n 1, 1) := by decide +kernel
theorem dX12_mirror_60 : decode cX12_mirror 60 = .ok (.iconst 4, 1) := by decide +kernel
theorem dX12_mirror_61 : decode cX12_mirror 61 = .ok (.iload_n 2, 1) := by decide +kernel
theorem dX12_mirror_62 : decode cX12_mirror 62 = .ok (.imul, 1) := by decide +kernel
theorem dX12_mirror_63 : decode cX12_mirror 63 = .ok (.iload_n 3, 1) := by decide +kernel
theorem dX12_mirror_64 : decode cX12_mirror 64 = .ok (.iadd, 1) := by decide +kernel
theorem dX12_mirror_65 : decode cX12_mirror 65 = .ok (.invokevirtual 331, 3) := by decide +kernel
theorem dX12_mirror_68 : decode cX12_mirror 68 = .ok (.istore 6, 2) := by decide +kernel
theorem dX12_mirror_70 : decode cX12_mirror 70 = .ok (.aload_n 0, 1) := by decide +kernel
theorem dX12_mirror_71 : decode cX12_mirror 71 = .ok (.getfield 118, 3) := by decide +kernel
theorem dX12_mirror_74 : decode cX12_mirror 74 = .ok (.bipush 24, 2) := by decide +kernel
theorem dX12_mirror_76 : decode cX12_mirror 76 = .ok (.iload_n 1, 1) := by decide +kernel
theorem dX12_mirror_77 : decode cX12_mirror 77 = .ok (.imul, 1) := by decide +kernel
theorem dX12_mirror_78 : decode cX12_mirror 78 = .ok (.iconst 4, 1) := by decide +kernel
theorem dX12_mirror_79 : decode cX12_mirror 79 = .ok (.iload_n 2, 1) := by decide +kernel
theorem dX12_mirror_80 : decode cX12_mirror 80 = .ok (.imul, 1) := by decide +kernel
theorem dX12_mirror_81 : decode cX12_mirror 81 = .ok (.iadd, 1) := by decide +kernel
theorem dX12_mirror_82 : decode cX12_mirror 82 = .ok (.iload_n 3, 1) := by decide +kernel
theorem dX12_mirror_83 : decode cX12_mirror 83 = .ok (.iadd, 1) := by decide +kernel
theorem dX12_mirror_84 : decode cX12_mirror 84 = .ok (.iload 4, 2) := by decide +kernel
theorem dX12_mirror_86 : decode cX12_mirror 86 = .ok (.iastore, 1) := by decide +kernel
theorem dX12_mirror_87 : decode cX12_mirror 87 = .ok (.iload 6, 2) := by decide +kernel
theorem dX12_mirror_89 : decode cX12_mirror 89 = .ok (.ireturn, 1) := by decide +kernel
def wp_X12_mirror_50 (h : Nat) (x1 : Int32) (x2 : Int32) (x3 : Int32) (x4 : Int32) (s0 : Int32) (s1 : Option Nat) (S : xm_S) (g : Int32 → xm_S → Prop) : Prop :=
  ∃ n1, s1 = some n1 ∧ st_t S n1 = some (12, 0) ∧ wp_X12_may n1 s0 S (fun r5 S4 => (¬ r5 = 0 → st_t S4 h = some (12, 0) ∧ wp_X12_gives h x1 (((nI 4) * x2) + x3) S4 (fun r8 S7 => st_t S7 h = some (12, 0) ∧ ∃ n10, (st_r S7 h 40) = some n10 ∧ ∃ z13, st_t S7 n10 = some (100, z13) ∧ vp_in ((((nI 24) * x1) + ((nI 4) * x2)) + x3) z13 ∧ ∀ S15, S15 = st_pi S7 n10 (((((nI 24) * x1) + ((nI 4) * x2)) + x3)).toNatClampNeg x4 → g r8 S15)) ∧ (r5 = 0 → g (0 : Int32) S4))
set_option maxRecDepth 100000 in
set_option maxHeartbeats 4000000 in
theorem kp_X12_mirror_50 {K : xm_K} (h : Nat) (x1 : Int32) (x2 : Int32) (x3 : Int32) (x4 : Int32) (s0 : Int32) (s1 : Option Nat) (S : xm_S) {g : Int32 → xm_S → Prop} (C : xm_Cx K cX12_mirror RX12 7 (some (FieldType.int)) rm_X12_mirror) (N : xm_Nx K) (hg : ∀ v S, g v S → xm_q K (some (xm_i v)) S)  (h1 : wp_X12_mirror_50 h x1 x2 x3 x4 s0 s1 S g) : xm_W K 0 0 50 [(0, xm_r (some h)), (1, xm_i x1), (2, xm_i x2), (3, xm_i x3), (4, xm_i x4)] [xm_i s0, xm_r s1] S := by
  unfold wp_X12_mirror_50 at h1
  obtain ⟨n1, hr2, h1⟩ := h1
  obtain ⟨ht3, h1⟩ := h1
  refine x_callV (rm' := rm_X12_may) (n := n1) C (kp_X12_may_met h1) lk_95 gw_572 gw_573 xv_12 rfl hr2 ht3 rfl (Nat.le_of_ble_eq_true rfl) ⟨Nat.le_of_ble_eq_true rfl, Nat.le_of_ble_eq_true rfl, (Nat.le_of_ble_eq_true rfl), (Nat.le_of_ble_eq_true rfl)⟩ dX12_mirror_50 xm_kx (xm_ki (fun r5 S4 h1 => ?_))
  refine x_if_ne (tgt := 58) C dX12_mirror_53 (by decide) (fun z9 => ?_) (fun z9 => ?_)
  · have h1 := h1.1 z9
    refine x_aload_n C 0 dX12_mirror_58 rfl rfl ?_
    refine x_iload_n C 1 dX12_mirror_59 rfl rfl ?_
    refine x_iconst (v := (nI 4)) C dX12_mirror_60 (by decide) ?_
    refine x_iload_n C 2 dX12_mirror_61 rfl rfl ?_
    refine x_imul C dX12_mirror_62 ?_
    refine x_iload_n C 3 dX12_mirror_63 rfl rfl ?_
    refine x_iadd C dX12_mirror_64 ?_
    obtain ⟨ht6, h1⟩ := h1
    refine x_callV (rm' := rm_X12_gives) (n := h) C (kp_X12_gives_met h1) lk_120 gw_709 gw_710 xv_12 rfl rfl ht6 rfl (Nat.le_of_ble_eq_true rfl) ⟨Nat.le_of_ble_eq_true rfl, Nat.le_of_ble_eq_true rfl, (Nat.le_of_ble_eq_true rfl), (Nat.le_of_ble_eq_true rfl)⟩ dX12_mirror_65 xm_kx (xm_ki (fun r8 S7 h1 => ?_))
    refine x_istore (L' := [(6, xm_i r8), (0, xm_r (some h)), (1, xm_i x1), (2, xm_i x2), (3, xm_i x3), (4, xm_i x4)]) C dX12_mirror_68 (by decide) rfl ?_
    refine x_aload_n C 1 dX12_mirror_70 rfl rfl ?_
    obtain ⟨ht9, h1⟩ := h1
    refine x_getf_r (n := h) C rfl ht9 fd_204 (by decide) dX12_mirror_71 ?_
    refine x_bipush (v := (nI 24)) C dX12_mirror_74 (by decide) ?_
    refine x_iload_n C 2 dX12_mirror_76 rfl rfl ?_
    refine x_imul C dX12_mirror_77 ?_
    refine x_iconst (v := (nI 4)) C dX12_mirror_78 (by decide) ?_
    refine x_iload_n C 3 dX12_mirror_79 rfl rfl ?_
    refine x_imul C dX12_mirror_80 ?_
    refine x_iadd C dX12_mirror_81 ?_
    refine x_iload_n C 4 dX12_mirror_82 rfl rfl ?_
    refine x_iadd C dX12_mirror_83 ?_
    refine x_iload C 5 dX12_mirror_84 rfl ?_
    obtain ⟨n10, hr11, h1⟩ := h1
    obtain ⟨z13, ht12, h1⟩ := h1
    obtain ⟨hi14, h1⟩ := h1
    refine x_iast (n := n10) C hr11 ht12 hi14 dX12_mirror_86 ?_
    refine x_topS (fun S15 e16 => ?_)
    have h1 := h1 S15 e16
    refine x_iload C 0 dX12_mirror_87 rfl ?_
    exact x_iret C (Nat.le_of_ble_eq_true rfl) (Nat.le_of_ble_eq_true rfl) rfl dX12_mirror_89 (hg _ _ h1)
  · have h1 := h1.2 z9
    refine x_iconst (v := (0 : Int32)) C dX12_mirror_56 (by decide) ?_
    exact x_iret C (Nat.le_of_ble_eq_true rfl) (Nat.le_of_ble_eq_true rfl) rfl dX12_mirror_57 (hg _ _ h1)
def wp_X12_mirror_21 (h : Nat) (x1 : Int32) (x2 : Int32) (x3 : Int32) (x4 : Int32) (s0 : Int32) (S : xm_S) (g : Int32 → xm_S → Prop) : Prop :=
  (¬ s0 = 0 → wp_X12_in x4 (-1 : Int32) (nI 999) S (fun r18 S17 => (r18 = 0 → wp_X12_mirror_50 h x1 x2 x3 x4 (nI 2) (some h) S17 g) ∧ (¬ r18 = 0 → wp_X12_mirror_50 h x1 x2 x3 x4 (0 : Int32) (some h) S17 g))) ∧ (s0 = 0 → wp_X12_mirror_50 h x1 x2 x3 x4 (1 : Int32) (some h) S g)
set_option maxRecDepth 100000 in
set_option maxHeartbeats 4000000 in
theorem kp_X12_mirror_21 {K : xm_K} (h : Nat) (x1 : Int32) (x2 : Int32) (x3 : Int32) (x4 : Int32) (s0 : Int32) (S : xm_S) {g : Int32 → xm_S → Prop} (C : xm_Cx K cX12_mirror RX12 7 (some (FieldType.int)) rm_X12_mirror) (N : xm_Nx K) (hg : ∀ v S, g v S → xm_q K (some (xm_i v)) S)  (h1 : wp_X12_mirror_21 h x1 x2 x3 x4 s0 S g) : xm_W K 0 0 21 [(0, xm_r (some h)), (1, xm_i x1), (2, xm_i x2), (3, xm_i x3), (4, xm_i x4)] [xm_i s0] S := by
  unfold wp_X12_mirror_21 at h1
  refine x_istore (L' := [(5, xm_i s0), (0, xm_r (some h)), (1, xm_i x1), (2, xm_i x2), (3, xm_i x3), (4, xm_i x4)]) C dX12_mirror_21 (by decide) rfl ?_
  refine x_aload_n C 1 dX12_mirror_23 rfl rfl ?_
  refine x_iload C 0 dX12_mirror_24 rfl ?_
  refine x_if_ne (tgt := 33) C dX12_mirror_26 (by decide) (fun z9 => ?_) (fun z9 => ?_)
  · have h1 := h1.1 z9
    refine x_iload C 5 dX12_mirror_33 rfl ?_
    refine x_iconst (v := (-1 : Int32)) C dX12_mirror_35 (by decide) ?_
    refine x_sipush (v := (nI 999)) C dX12_mirror_36 (by decide) ?_
    refine x_callS (rm' := rm_X12_in) C (kp_X12_in_met h1) lk_87 gw_533 rfl (Nat.le_of_ble_eq_true rfl) ⟨Nat.le_of_ble_eq_true rfl, Nat.le_of_ble_eq_true rfl, (Nat.le_of_ble_eq_true rfl), (Nat.le_of_ble_eq_true rfl)⟩ dX12_mirror_39 xm_kx (xm_ki (fun r18 S17 h1 => ?_))
    refine x_if_eq (tgt := 49) C dX12_mirror_42 (by decide) (fun z9 => ?_) (fun z9 => ?_)
    · have h1 := h1.1 z9
      refine x_iconst (v := (nI 2)) C dX12_mirror_49 (by decide) ?_
      refine x_keep (L' := [(0, xm_r (some h)), (1, xm_i x1), (2, xm_i x2), (3, xm_i x3), (4, xm_i x4)]) C [1, 2, 3, 4, 5] rfl ?_
      exact kp_X12_mirror_50 h x1 x2 x3 x4 (nI 2) (some h) S17 C N hg  h1
    · have h1 := h1.2 z9
      refine x_iconst (v := (0 : Int32)) C dX12_mirror_45 (by decide) ?_
      refine x_goto (tgt := 50) C dX12_mirror_46 (by decide) ?_
      refine x_keep (L' := [(0, xm_r (some h)), (1, xm_i x1), (2, xm_i x2), (3, xm_i x3), (4, xm_i x4)]) C [1, 2, 3, 4, 5] rfl ?_
      exact kp_X12_mirror_50 h x1 x2 x3 x4 (0 : Int32) (some h) S17 C N hg  h1
  · have h1 := h1.2 z9
    refine x_iconst (v := (1 : Int32)) C dX12_mirror_29 (by decide) ?_
    refine x_goto (tgt := 50) C dX12_mirror_30 (by decide) ?_
    refine x_keep (L' := [(0, xm_r (some h)), (1, xm_i x1), (2, xm_i x2), (3, xm_i x3), (4, xm_i x4)]) C [1, 2, 3, 4, 5] rfl ?_
    exact kp_X12_mirror_50 h x1 x2 x3 x4 (1 : Int32) (some h) S C N hg  h1
def wp_X12_mirror_20 (h : Nat) (x1 : Int32) (x2 : Int32) (x3 : Int32) (x4 : Int32) (S : xm_S) (g : Int32 → xm_S → Prop) : Prop :=
  wp_X12_mirror_21 h x1 x2 x3 x4 (0 : Int32) S g
set_option maxRecDepth 100000 in
set_option maxHeartbeats 4000000 in
theorem kp_X12_mirror_20 {K : xm_K} (h : Nat) (x1 : Int32) (x2 : Int32) (x3 : Int32) (x4 : Int32) (S : xm_S) {g : Int32 → xm_S → Prop} (C : xm_Cx K cX12_mirror RX12 7 (some (FieldType.int)) rm_X12_mirror) (N : xm_Nx K) (hg : ∀ v S, g v S → xm_q K (some (xm_i v)) S)  (h1 : wp_X12_mirror_20 h x1 x2 x3 x4 S g) : xm_W K 0 0 20 [(0, xm_r (some h)), (1, xm_i x1), (2, xm_i x2), (3, xm_i x3), (4, xm_i x4)] [] S := by
  unfold wp_X12_mirror_20 at h1
  refine x_iconst (v := (0 : Int32)) C dX12_mirror_20 (by decide) ?_
  exact kp_X12_mirror_21 h x1 x2 x3 x4 (0 : Int32) S C N hg  h1
def wp_X12_mirror (h : Nat) (x1 : Int32) (x2 : Int32) (x3 : Int32) (x4 : Int32) (S : xm_S) (g : Int32 → xm_S → Prop) : Prop :=
  wp_X12_isMirror x1 S (fun r20 S19 => (r20 = 0 → wp_X12_mirror_20 h x1 x2 x3 x4 S19 g) ∧ (¬ r20 = 0 → st_t S19 h = some (12, 0) ∧ wp_X12_isVersion h x2 x3 S19 (fun r23 S22 => (r23 = 0 → wp_X12_mirror_20 h x1 x2 x3 x4 S22 g) ∧ (¬ r23 = 0 → wp_X12_mirror_21 h x1 x2 x3 x4 (1 : Int32) S22 g))))
set_option maxRecDepth 100000 in
set_option maxHeartbeats 4000000 in
theorem kp_X12_mirror {K : xm_K} (h : Nat) (x1 : Int32) (x2 : Int32) (x3 : Int32) (x4 : Int32) (S : xm_S) {g : Int32 → xm_S → Prop} (C : xm_Cx K cX12_mirror RX12 7 (some (FieldType.int)) rm_X12_mirror) (N : xm_Nx K) (hg : ∀ v S, g v S → xm_q K (some (xm_i v)) S)  (h1 : wp_X12_mirror h x1 x2 x3 x4 S g) : xm_W K 0 0 0 [(0, xm_r (some h)), (1, xm_i x1), (2, xm_i x2), (3, xm_i x3), (4, xm_i x4)] [] S := by
  unfold wp_X12_mirror at h1
  refine x_iload_n C 1 dX12_mirror_0 rfl rfl ?_
  refine x_callS (rm' := rm_X12_isMirror) C (kp_X12_isMirror_met h1) lk_129 gw_763 rfl (Nat.le_of_ble_eq_true rfl) ⟨Nat.le_of_ble_eq_true rfl, Nat.le_of_ble_eq_true rfl, (Nat.le_of_ble_eq_true rfl), (Nat.le_of_ble_eq_true rfl)⟩ dX12_mirror_1 xm_kx (xm_ki (fun r20 S19 h1 => ?_))
  refine x_if_eq (tgt := 20) C dX12_mirror_4 (by decide) (fun z9 => ?_) (fun z9 => ?_)
  · have h1 := h1.1 z9
    exact kp_X12_mirror_20 h x1 x2 x3 x4 S19 C N hg  h1
  · have h1 := h1.2 z9
    refine x_aload_n C 0 dX12_mirror_7 rfl rfl ?_
    refine x_iload_n C 2 dX12_mirror_8 rfl rfl ?_
    refine x_iload_n C 3 dX12_mirror_9 rfl rfl ?_
    obtain ⟨ht21, h1⟩ := h1
    refine x_callV (rm' := rm_X12_isVersion) (n := h) C (kp_X12_isVersion_met h1) lk_119 gw_699 gw_700 xv_12 rfl rfl ht21 rfl (Nat.le_of_ble_eq_true rfl) ⟨Nat.le_of_ble_eq_true rfl, Nat.le_of_ble_eq_true rfl, (Nat.le_of_ble_eq_true rfl), (Nat.le_of_ble_eq_true rfl)⟩ dX12_mirror_10 xm_kx (xm_ki (fun r23 S22 h1 => ?_))
    refine x_if_eq (tgt := 20) C dX12_mirror_13 (by decide) (fun z9 => ?_) (fun z9 => ?_)
    · have h1 := h1.1 z9
      exact kp_X12_mirror_20 h x1 x2 x3 x4 S22 C N hg  h1
    · have h1 := h1.2 z9
      refine x_iconst (v := (1 : Int32)) C dX12_mirror_16 (by decide) ?_
      refine x_goto (tgt := 21) C dX12_mirror_17 (by decide) ?_
      exact kp_X12_mirror_21 h x1 x2 x3 x4 (1 : Int32) S22 C N hg  h1
theorem kp_X12_mirror_met {h : Nat} {x1 : Int32} {x2 : Int32} {x3 : Int32} {x4 : Int32} {S : xm_S} {g : Int32 → xm_S → Prop}  (h1 : wp_X12_mirror h x1 x2 x3 x4 S g) : xm_Met yX12_mirror cX12_mirror 7 (some (FieldType.int)) rm_X12_mirror [xm_r (some h), xm_i x1, xm_i x2, xm_i x3, xm_i x4] S (xm_qi g) xm_nox :=
  xm_ofW RX12 (by decide +kernel) rfl (Nat.le_of_ble_eq_true rfl) (fun K C N hq hx hi => kp_X12_mirror h x1 x2 x3 x4 S C N (fun v S h => by rw [hq]; exact ⟨v, rfl, h⟩)  h1)
def rm_X12_need : Room := { frames := 8, cells := 0, slots := 0, locals := 168 }
theorem dX12_need_0 : decode cX12_need 0 = .ok (.aload_n 0, 1) := by decide +kernel
theorem dX12_need_1 : decode cX12_need 1 = .ok (.iload_n 1, 1) := by decide +kernel
theorem dX12_need_2 : decode cX12_need 2 = .ok (.iload_n 2, 1) := by decide +kernel
theorem dX12_need_3 : decode cX12_need 3 = .ok (.invokevirtual 237, 3) := by decide +kernel
theorem dX12_need_6 : decode cX12_need 6 = .ok (.ifCond .eq 14, 3) := by decide +kernel
theorem dX12_need_9 : decode cX12_need 9 = .ok (.iload_n 3, 1) := by decide +kernel
theorem dX12_need_10 : decode cX12_need 10 = .ok (.invokestatic 176, 3) := by decide +kernel
theorem dX12_need_13 : decode cX12_need 13 = .ok (.ifCond .eq 7, 3) := by decide +kernel
theorem dX12_need_16 : decode cX12_need 16 = .ok (.iconst 1, 1) := by decide +kernel
theorem dX12_need_17 : decode cX12_need 17 = .ok (.goto 4, 3) := by decide +kernel
theorem dX12_need_20 : decode cX12_need 20 = .ok (.iconst 0, 1) := by decide +kernel
theorem dX12_need_21 : decode cX12_need 21 = .ok (.istore 7, 2) := by decide +kernel
theorem dX12_need_23 : decode cX12_need 23 = .ok (.iload 7, 2) := by decide +kernel
theorem dX12_need_25 : decode cX12_need 25 = .ok (.ifCond .eq 72, 3) := by decide +kernel
theorem dX12_need_28 : decode cX12_need 28 = .ok (.iload 4, 2) := by decide +kernel
theorem dX12_need_30 : decode cX12_need 30 = .ok (.iconst 0, 1) := by decide +kernel
theorem dX12_need_31 : decode cX12_need 31 = .ok (.bipush 15, 2) := by decide +kernel
theorem dX12_need_33 : decode cX12_need 33 = .ok (.invokestatic 172, 3) := by decide +kernel
theorem dX12_need_36 : decode cX12_need 36 = .ok (.ifCond .eq 61, 3) := by decide +kernel
theorem dX12_need_39 : decode cX12_need 39 = .ok (.iload 5, 2) := by decide +kernel
theorem dX12_need_41 : decode cX12_need 41 = .ok (.iconst 1, 1) := by decide +kernel
theorem dX12_need_42 : decode cX12_need 42 = .ok (.bipush 7, 2) := by decide +kernel
theorem dX12_need_44 : decode cX12_need 44 = .ok (.invokestatic 172, 3) := by decide +kernel
theorem dX12_need_47 : decode cX12_need 47 = .ok (.ifCond .eq 50, 3) := by decide +kernel
theorem dX12_need_50 : decode cX12_need 50 = .ok (.iload 6, 2) := by decide +kernel
theorem dX12_need_52 : decode cX12_need 52 = .ok (.iconst (-1), 1) := by decide +kernel
theorem dX12_need_53 : decode cX12_need 53 = .ok (.if_icmp .eq 28, 3) := by decide +kernel
theorem dX12_need_56 : decode cX12_need 56 = .ok (.iload 6, 2) := by decide +kernel
theorem dX12_need_58 : decode cX12_need 58 = .ok (.iconst 1, 1) := by decide +kernel
theorem dX12_need_59 : decode cX12_need 59 = .ok (.if_icmp .eq 22, 3) := by decide +kernel
theorem dX12_need_62 : decode cX12_need 62 = .ok (.iload 6, 2) := by decide +kernel
theorem dX12_need_64 : decode cX12_need 64 = .ok (.iconst 2, 1) := by decide +kernel
theorem dX12_need_65 : decode cX12_need 65 = .ok (.if_icmp .eq 16, 3) := by decide +kernel
theorem dX12_need_68 : decode cX12_need 68 = .ok (.iload 6, 2) := by decide +kernel
theorem dX12_need_70 : decode cX12_need 70 = .ok (.iconst 4, 1) := by decide +kernel
theorem dX12_need_71 : decode cX12_need 71 = .ok (.if_icmp .eq 10, 3) := by decide +kernel
theorem dX12_need_74 : decode cX12_need 74 = .ok (.iload 6, 2) := by decide +kernel
theorem dX12_need_76 : decode cX12_need 76 = .ok (.bipush 8, 2) := by decide +kernel
theorem dX12_need_78 : decode cX12_need 78 = .ok (.if_icmp .ne 19, 3) := by decide +kernel
theorem dX12_need_81 : decode cX12_need 81 = .ok (.iload_n 3, 1) := by decide +kernel
theorem dX12_need_82 : decode cX12_need 82 = .ok (.iload_n 1, 1) := by decide +kernel
theorem dX12_need_83 : decode cX12_need 83 = .ok (.if_icmp .eq 14, 3) := by decide +kernel
theorem dX12_need_86 : decode cX12_need 86 = .ok (.aload_n 0, 1) := by decide +kernel
theorem dX12_need_87 : decode cX12_need 87 = .ok (.invokevirtual 240, 3) := by decide +kernel
theorem dX12_need_90 : decode cX12_need 90 = .ok (.ifCond .eq 7, 3) := by decide +kernel
theorem dX12_need_93 : decode cX12_need 93 = .ok (.iconst 1, 1) := by decide +kernel
theorem dX12_need_94 : decode cX12_need 94 = .ok (.goto 4, 3) := by decide +kernel
theorem dX12_need_97 : decode cX12_need 97 = .ok (.iconst 0, 1) := by decide +kernel
theorem dX12_need_98 : decode cX12_need 98 = .ok (.istore 8, 2) := by decide +kernel
theorem dX12_need_100 : decode cX12_need 100 = .ok (.iload 7, 2) := by decide +kernel
theorem dX12_need_102 : decode cX12_need 102 = .ok (.ifCond .eq 11, 3) := by decide +kernel
theorem dX12_need_105 : decode cX12_need 105 = .ok (.iconst 4, 1) := by decide +kernel
theorem dX12_need_106 : decode cX12_need 106 = .ok (.iload_n 1, 1) := by decide +kernel
theorem dX12_need_107 : decode cX12_need 107 = .ok (.imul, 1) := by decide +kernel
theorem dX12_need_108 : decode cX12_need 108 = .ok (.iload_n 2, 1) := by decide +kernel
theorem dX12_need_109 : decode cX12_need 109 = .ok (.iadd, 1) := by decide +kernel
theorem dX12_need_110 : decode cX12_need 110 = .ok (.goto 4, 3) := by decide +kernel
theorem dX12_need_113 : decode cX12_need 113 = .ok (.iconst 0, 1) := by decide +kernel
theorem dX12_need_114 : decode cX12_need 114 = .ok (.istore 9, 2) := by decide +kernel
theorem dX12_need_116 : decode cX12_need 116 = .ok (.aload_n 0, 1) := by decide +kernel
theorem dX12_need_117 : decode cX12_need 117 = .ok (.iload 7, 2) := by decide +kernel
theorem dX12_need_119 : decode cX12_need 119 = .ok (.ifCond .ne 7, 3) := by decide +kernel
theorem dX12_need_122 : decode cX12_need 122 = .ok (.iconst 1, 1) := by decide +kernel
theorem dX12_need_123 : decode cX12_need 123 = .ok (.goto 28, 3) := by decide +kernel
theorem dX12_need_126 : decode cX12_need 126 = .ok (.iload 8, 2) := by decide +kernel
theorem dX12_need_128 : decode cX12_need 128 = .ok (.ifCond .ne 7, 3) := by decide +kernel
theorem dX12_need_131 : decode cX12_need 131 = .ok (.iconst 2, 1) := by decide +kernel
theorem dX12_need_132 : decode cX12_need 132 = .ok (.goto 19, 3) := by decide +kernel
theorem dX12_need_135 : decode cX12_need 135 = .ok (.aload_n 0, 1) := by decide +kernel
theorem dX12_need_136 : decode cX12_need 136 = .ok (.getfield 32, 3) := by decide +kernel
theorem dX12_need_139 : decode cX12_need 139 = .ok (.iload 9, 2) := by decide +kernel
theorem dX12_need_141 : decode cX12_need 141 = .ok (.iaload, 1) := by decide +kernel
theorem dX12_need_142 : decode cX12_need 142 = .ok (.iconst 4, 1) := by decide +kernel
theorem dX12_need_143 : decode cX12_need 143 = .ok (.if_icmp .ne 7, 3) := by decide +kernel
theorem dX12_need_146 : decode cX12_need 146 = .ok (.iconst 3, 1) := by decide +kernel
theorem dX12_need_147 : decode cX12_need 147 = .ok (.goto 4, 3) := by decide +kernel
theorem dX12_need_150 : decode cX12_need 150 = .ok (.iconst 0, 1) := by decide +kernel
theorem dX12_need_151 : decode cX12_need 151 = .ok (.invokevirtual 182, 3) := by decide +kernel
theorem dX12_need_154 : decode cX12_need 154 = .ok (.ifCond .ne 5, 3) := by decide +kernel
theorem dX12_need_157 : decode cX12_need 157 = .ok (.iconst 0, 1) := by decide +kernel
theorem dX12_need_158 : decode cX12_need 158 = .ok (.ireturn, 1) := by decide +kernel
theorem dX12_need_159 : decode cX12_need 159 = .ok (.iconst 4, 1) := by decide +kernel
theorem dX12_need_160 : decode cX12_need 160 = .ok (.iload 9, 2) := by decide +kernel
theorem dX12_need_162 : decode cX12_need 162 = .ok (.imul, 1) := by decide +kernel
theorem dX12_need_163 : decode cX12_need 163 = .ok (.aload_n 0, 1) := by decide +kernel
theorem dX12_need_164 : decode cX12_need 164 = .ok (.getfield 32, 3) := by decide +kernel
theorem dX12_need_167 : decode cX12_need 167 = .ok (.iload 9, 2) := by decide +kernel
theorem dX12_need_169 : decode cX12_need 169 = .ok (.iaload, 1) := by decide +kernel
theorem dX12_need_170 : decode cX12_need 170 = .ok (.iadd, 1) := by decide +kernel
theorem dX12_need_171 : decode cX12_need 171 = .ok (.istore 10, 2) := by decide +kernel
theorem dX12_need_173 : decode cX12_need 173 = .ok (.aload_n 0, 1) := by decide +kernel
theorem dX12_need_174 : decode cX12_need 174 = .ok (.getfield 35, 3) := by decide +kernel
theorem dX12_need_177 : decode cX12_need 177 = .ok (.iload 10, 2) := by decide +kernel
theorem dX12_need_179 : decode cX12_need 179 = .ok (.iload_n 3, 1) := by decide +kernel
theorem dX12_need_180 : decode cX12_need 180 = .ok (.iastore, 1) := by decide +kernel
theorem dX12_need_181 : decode cX12_need 181 = .ok (.aload_n 0, 1) := by decide +kernel
theorem dX12_need_182 : decode cX12_need 182 = .ok (.getfield 38, 3) := by decide +kernel
theorem dX12_need_185 : decode cX12_need 185 = .ok (.iload 10, 2) := by decide +kernel
theorem dX12_need_187 : decode cX12_need 187 = .ok (.iload 4, 2) := by decide +kernel
theorem dX12_need_189 : decode cX12_need 189 = .ok (.iastore, 1) := by decide +kernel
theorem dX12_need_190 : decode cX12_need 190 = .ok (.aload_n 0, 1) := by decide +kernel
theorem dX12_need_191 : decode cX12_need 191 = .ok (.getfield 41, 3) := by decide +kernel
theorem dX12_need_194 : decode cX12_need 194 = .ok (.iload 10, 2) := by decide +kernel
theorem dX12_need_196 : decode cX12_need 196 = .ok (.iload 5, 2) := by decide +kernel
theorem dX12_need_198 : decode cX12_need 198 = .ok (.iastore, 1) := by decide +kernel
theorem dX12_need_199 : decode cX12_need 199 = .ok (.aload_n 0, 1) := by decide +kernel
theorem dX12_need_200 : decode cX12_need 200 = .ok (.getfield 44, 3) := by decide +kernel
theorem dX12_need_203 : decode cX12_need 203 = .ok (.iload 10, 2) := by decide +kernel
theorem dX12_need_205 : decode cX12_need 205 = .ok (.iload 6, 2) := by decide +kernel
theorem dX12_need_207 : decode cX12_need 207 = .ok (.iastore, 1) := by decide +kernel
theorem dX12_need_208 : decode cX12_need 208 = .ok (.aload_n 0, 1) := by decide +kernel
theorem dX12_need_209 : decode cX12_need 209 = .ok (.iload 10, 2) := by decide +kernel
theorem dX12_need_211 : decode cX12_need 211 = .ok (.invokevirtual 243, 3) := by decide +kernel
theorem dX12_need_214 : decode cX12_need 214 = .ok (.aload_n 0, 1) := by decide +kernel
theorem dX12_need_215 : decode cX12_need 215 = .ok (.getfield 32, 3) := by decide +kernel
theorem dX12_need_218 : decode cX12_need 218 = .ok (.iload 9, 2) := by decide +kernel
theorem dX12_need_220 : decode cX12_need 220 = .ok (.dup2, 1) := by decide +kernel
theorem dX12_need_221 : decode cX12_need 221 = .ok (.iaload, 1) := by decide +kernel
theorem dX12_need_222 : decode cX12_need 222 = .ok (.iconst 1, 1) := by decide +kernel
theorem dX12_need_223 : decode cX12_need 223 = .ok (.iadd, 1) := by decide +kernel
theorem dX12_need_224 : decode cX12_need 224 = .ok (.iastore, 1) := by decide +kernel
theorem dX12_need_225 : decode cX12_need 225 = .ok (.aload_n 0, 1) := by decide +kernel
theorem dX12_need_226 : decode cX12_need 226 = .ok (.getfield 32, 3) := by decide +kernel
theorem dX12_need_229 : decode cX12_need 229 = .ok (.iload 9, 2) := by decide +kernel
theorem dX12_need_231 : decode cX12_need 231 = .ok (.iaload, 1) := by decide +kernel
theorem dX12_need_232 : decode cX12_need 232 = .ok (.ireturn, 1) := by decide +kernel
def wp_X12_need_151 (h : Nat) (x3 : Int32) (x4 : Int32) (x5 : Int32) (x6 : Int32) (x9 : Int32) (s0 : Int32) (s1 : Option Nat) (S : xm_S) (g : Int32 → xm_S → Prop) : Prop :=
  ∃ n1, s1 = some n1 ∧ st_t S n1 = some (12, 0) ∧ wp_X12_may n1 s0 S (fun r5 S4 => (¬ r5 = 0 → st_t S4 h = some (12, 0) ∧ ∃ n7, (st_r S4 h 8) = some n7 ∧ ∃ z10, st_t S4 n7 = some (100, z10) ∧ vp_in x9 z10 ∧ ∀ y12, y12 = (((nI 4) * x9) + (st_i S4 n7 (x9).toNatClampNeg)) → ∃ n14, (st_r S4 h 9) = some n14 ∧ ∃ z17, st_t S4 n14 = some (100, z17) ∧ vp_in y12 z17 ∧ ∀ S19, S19 = st_pi S4 n14 (y12).toNatClampNeg x3 → ∃ n21, (st_r S19 h 10) = some n21 ∧ ∃ z24, st_t S19 n21 = some (100, z24) ∧ vp_in y12 z24 ∧ ∀ S26, S26 = st_pi S19 n21 (y12).toNatClampNeg x4 → ∃ n28, (st_r S26 h 11) = some n28 ∧ ∃ z31, st_t S26 n28 = some (100, z31) ∧ vp_in y12 z31 ∧ ∀ S33, S33 = st_pi S26 n28 (y12).toNatClampNeg x5 → ∃ n35, (st_r S33 h 12) = some n35 ∧ ∃ z38, st_t S33 n35 = some (100, z38) ∧ vp_in y12 z38 ∧ ∀ S40, S40 = st_pi S33 n35 (y12).toNatClampNeg x6 → wp_X12_keeps h y12 S40 (fun S42 => st_t S42 h = some (12, 0) ∧ ∃ n45, (st_r S42 h 8) = some n45 ∧ ∃ z48, st_t S42 n45 = some (100, z48) ∧ vp_in x9 z48 ∧ ∃ n50, (st_r S42 h 8) = some n50 ∧ ∃ z53, st_t S42 n50 = some (100, z53) ∧ vp_in x9 z53 ∧ ∀ S55, S55 = st_pi S42 n50 (x9).toNatClampNeg ((st_i S42 n45 (x9).toNatClampNeg) + (1 : Int32)) → ∃ n57, (st_r S55 h 8) = some n57 ∧ ∃ z60, st_t S55 n57 = some (100, z60) ∧ vp_in x9 z60 ∧ g (st_i S55 n57 (x9).toNatClampNeg) S55)) ∧ (r5 = 0 → g (0 : Int32) S4))
set_option maxRecDepth 100000 in
set_option maxHeartbeats 4000000 in
theorem kp_X12_need_151 {K : xm_K} (h : Nat) (x3 : Int32) (x4 : Int32) (x5 : Int32) (x6 : Int32) (x9 : Int32) (s0 : Int32) (s1 : Option Nat) (S : xm_S) {g : Int32 → xm_S → Prop} (C : xm_Cx K cX12_need RX12 11 (some (FieldType.int)) rm_X12_need) (N : xm_Nx K) (hg : ∀ v S, g v S → xm_q K (some (xm_i v)) S)  (h1 : wp_X12_need_151 h x3 x4 x5 x6 x9 s0 s1 S g) : xm_W K 0 0 151 [(0, xm_r (some h)), (3, xm_i x3), (4, xm_i x4), (5, xm_i x5), (6, xm_i x6), (9, xm_i x9)] [xm_i s0, xm_r s1] S := by
  unfold wp_X12_need_151 at h1
  obtain ⟨n1, hr2, h1⟩ := h1
  obtain ⟨ht3, h1⟩ := h1
  refine x_callV (rm' := rm_X12_may) (n := n1) C (kp_X12_may_met h1) lk_95 gw_572 gw_573 xv_12 rfl hr2 ht3 rfl (Nat.le_of_ble_eq_true rfl) ⟨Nat.le_of_ble_eq_true rfl, Nat.le_of_ble_eq_true rfl, (Nat.le_of_ble_eq_true rfl), (Nat.le_of_ble_eq_true rfl)⟩ dX12_need_151 xm_kx (xm_ki (fun r5 S4 h1 => ?_))
  refine x_if_ne (tgt := 159) C dX12_need_154 (by decide) (fun z9 => ?_) (fun z9 => ?_)
  · have h1 := h1.1 z9
    refine x_iconst (v := (nI 4)) C dX12_need_159 (by decide) ?_
    refine x_iload C 5 dX12_need_160 rfl ?_
    refine x_imul C dX12_need_162 ?_
    refine x_aload_n C 0 dX12_need_163 rfl rfl ?_
    obtain ⟨ht6, h1⟩ := h1
    refine x_getf_r (n := h) C rfl ht6 fd_184 (by decide) dX12_need_164 ?_
    refine x_iload C 5 dX12_need_167 rfl ?_
    obtain ⟨n7, hr8, h1⟩ := h1
    obtain ⟨z10, ht9, h1⟩ := h1
    obtain ⟨hi11, h1⟩ := h1
    refine x_iald (n := n7) C hr8 ht9 hi11 dX12_need_169 ?_
    refine x_iadd C dX12_need_170 ?_
    refine x_topi (fun y12 e13 => ?_)
    have h1 := h1 y12 e13
    refine x_istore (L' := [(10, xm_i y12), (0, xm_r (some h)), (3, xm_i x3), (4, xm_i x4), (5, xm_i x5), (6, xm_i x6), (9, xm_i x9)]) C dX12_need_171 (by decide) rfl ?_
    refine x_aload_n C 1 dX12_need_173 rfl rfl ?_
    refine x_getf_r (n := h) C rfl ht6 fd_185 (by decide) dX12_need_174 ?_
    refine x_iload C 0 dX12_need_177 rfl ?_
    refine x_iload_n C 2 dX12_need_179 rfl rfl ?_
    obtain ⟨n14, hr15, h1⟩ := h1
    obtain ⟨z17, ht16, h1⟩ := h1
    obtain ⟨hi18, h1⟩ := h1
    refine x_iast (n := n14) C hr15 ht16 hi18 dX12_need_180 ?_
    refine x_topS (fun S19 e20 => ?_)
    have h1 := h1 S19 e20
    refine x_aload_n C 1 dX12_need_181 rfl rfl ?_
    refine x_getf_r (n := h) C rfl (tk_p e20 ht6) fd_186 (by decide) dX12_need_182 ?_
    refine x_iload C 0 dX12_need_185 rfl ?_
    refine x_iload C 3 dX12_need_187 rfl ?_
    obtain ⟨n21, hr22, h1⟩ := h1
    obtain ⟨z24, ht23, h1⟩ := h1
    obtain ⟨hi25, h1⟩ := h1
    refine x_iast (n := n21) C hr22 ht23 hi25 dX12_need_189 ?_
    refine x_topS (fun S26 e27 => ?_)
    have h1 := h1 S26 e27
    refine x_aload_n C 1 dX12_need_190 rfl rfl ?_
    refine x_getf_r (n := h) C rfl (tk_p e27 (tk_p e20 ht6)) fd_181 (by decide) dX12_need_191 ?_
    refine x_iload C 0 dX12_need_194 rfl ?_
    refine x_iload C 4 dX12_need_196 rfl ?_
    obtain ⟨n28, hr29, h1⟩ := h1
    obtain ⟨z31, ht30, h1⟩ := h1
    obtain ⟨hi32, h1⟩ := h1
    refine x_iast (n := n28) C hr29 ht30 hi32 dX12_need_198 ?_
    refine x_topS (fun S33 e34 => ?_)
    have h1 := h1 S33 e34
    refine x_aload_n C 1 dX12_need_199 rfl rfl ?_
    refine x_getf_r (n := h) C rfl (tk_p e34 (tk_p e27 (tk_p e20 ht6))) fd_182 (by decide) dX12_need_200 ?_
    refine x_iload C 0 dX12_need_203 rfl ?_
    refine x_iload C 5 dX12_need_205 rfl ?_
    obtain ⟨n35, hr36, h1⟩ := h1
    obtain ⟨z38, ht37, h1⟩ := h1
    obtain ⟨hi39, h1⟩ := h1
    refine x_iast (n := n35) C hr36 ht37 hi39 dX12_need_207 ?_
    refine x_topS (fun S40 e41 => ?_)
    have h1 := h1 S40 e41
    refine x_aload_n C 1 dX12_need_208 rfl rfl ?_
    refine x_iload C 0 dX12_need_209 rfl ?_
    refine x_callV (rm' := rm_X12_keeps) (n := h) C (kp_X12_keeps_met h1) lk_96 gw_579 gw_580 xv_12 rfl rfl (tk_p e41 (tk_p e34 (tk_p e27 (tk_p e20 ht6)))) rfl (Nat.le_of_ble_eq_true rfl) ⟨Nat.le_of_ble_eq_true rfl, Nat.le_of_ble_eq_true rfl, (Nat.le_of_ble_eq_true rfl), (Nat.le_of_ble_eq_true rfl)⟩ dX12_need_211 xm_kx (xm_kv (fun S42 h1 => ?_))
    refine x_aload_n C 1 dX12_need_214 rfl rfl ?_
    obtain ⟨ht44, h1⟩ := h1
    refine x_getf_r (n := h) C rfl ht44 fd_184 (by decide) dX12_need_215 ?_
    refine x_iload C 6 dX12_need_218 rfl ?_
    refine x_dup2_ir C dX12_need_220 ?_
    obtain ⟨n45, hr46, h1⟩ := h1
    obtain ⟨z48, ht47, h1⟩ := h1
    obtain ⟨hi49, h1⟩ := h1
    refine x_iald (n := n45) C hr46 ht47 hi49 dX12_need_221 ?_
    refine x_iconst (v := (1 : Int32)) C dX12_need_222 (by decide) ?_
    refine x_iadd C dX12_need_223 ?_
    obtain ⟨n50, hr51, h1⟩ := h1
    obtain ⟨z53, ht52, h1⟩ := h1
    obtain ⟨hi54, h1⟩ := h1
    refine x_iast (n := n50) C hr51 ht52 hi54 dX12_need_224 ?_
    refine x_topS (fun S55 e56 => ?_)
    have h1 := h1 S55 e56
    refine x_aload_n C 1 dX12_need_225 rfl rfl ?_
    refine x_getf_r (n := h) C rfl (tk_p e56 ht44) fd_184 (by decide) dX12_need_226 ?_
    refine x_iload C 6 dX12_need_229 rfl ?_
    obtain ⟨n57, hr58, h1⟩ := h1
    obtain ⟨z60, ht59, h1⟩ := h1
    obtain ⟨hi61, h1⟩ := h1
    refine x_iald (n := n57) C hr58 ht59 hi61 dX12_need_231 ?_
    exact x_iret C (Nat.le_of_ble_eq_true rfl) (Nat.le_of_ble_eq_true rfl) rfl dX12_need_232 (hg _ _ h1)
  · have h1 := h1.2 z9
    refine x_iconst (v := (0 : Int32)) C dX12_need_157 (by decide) ?_
    exact x_iret C (Nat.le_of_ble_eq_true rfl) (Nat.le_of_ble_eq_true rfl) rfl dX12_need_158 (hg _ _ h1)
def wp_X12_need_114 (h : Nat) (x3 : Int32) (x4 : Int32) (x5 : Int32) (x6 : Int32) (x7 : Int32) (x8 : Int32) (s0 : Int32) (S : xm_S) (g : Int32 → xm_S → Prop) : Prop :=
  (¬ x7 = 0 → (¬ x8 = 0 → st_t S h = some (12, 0) ∧ ∃ n63, (st_r S h 8) = some n63 ∧ ∃ z66, st_t S n63 = some (100, z66) ∧ vp_in s0 z66 ∧ (¬ (st_i S n63 (s0).toNatClampNeg) = (nI 4) → wp_X12_need_151 h x3 x4 x5 x6 s0 (0 : Int32) (some h) S g) ∧ ((st_i S n63 (s0).toNatClampNeg) = (nI 4) → wp_X12_need_151 h x3 x4 x5 x6 s0 (nI 3) (some h) S g)) ∧ (x8 = 0 → wp_X12_need_151 h x3 x4 x5 x6 s0 (nI 2) (some h) S g)) ∧ (x7 = 0 → wp_X12_need_151 h x3 x4 x5 x6 s0 (1 : Int32) (some h) S g)
set_option maxRecDepth 100000 in
set_option maxHeartbeats 4000000 in
theorem kp_X12_need_114 {K : xm_K} (h : Nat) (x3 : Int32) (x4 : Int32) (x5 : Int32) (x6 : Int32) (x7 : Int32) (x8 : Int32) (s0 : Int32) (S : xm_S) {g : Int32 → xm_S → Prop} (C : xm_Cx K cX12_need RX12 11 (some (FieldType.int)) rm_X12_need) (N : xm_Nx K) (hg : ∀ v S, g v S → xm_q K (some (xm_i v)) S)  (h1 : wp_X12_need_114 h x3 x4 x5 x6 x7 x8 s0 S g) : xm_W K 0 0 114 [(0, xm_r (some h)), (3, xm_i x3), (4, xm_i x4), (5, xm_i x5), (6, xm_i x6), (7, xm_i x7), (8, xm_i x8)] [xm_i s0] S := by
  unfold wp_X12_need_114 at h1
  refine x_istore (L' := [(9, xm_i s0), (0, xm_r (some h)), (3, xm_i x3), (4, xm_i x4), (5, xm_i x5), (6, xm_i x6), (7, xm_i x7), (8, xm_i x8)]) C dX12_need_114 (by decide) rfl ?_
  refine x_aload_n C 1 dX12_need_116 rfl rfl ?_
  refine x_iload C 6 dX12_need_117 rfl ?_
  refine x_if_ne (tgt := 126) C dX12_need_119 (by decide) (fun z9 => ?_) (fun z9 => ?_)
  · have h1 := h1.1 z9
    refine x_iload C 7 dX12_need_126 rfl ?_
    refine x_if_ne (tgt := 135) C dX12_need_128 (by decide) (fun z9 => ?_) (fun z9 => ?_)
    · have h1 := h1.1 z9
      refine x_aload_n C 1 dX12_need_135 rfl rfl ?_
      obtain ⟨ht62, h1⟩ := h1
      refine x_getf_r (n := h) C rfl ht62 fd_184 (by decide) dX12_need_136 ?_
      refine x_iload C 0 dX12_need_139 rfl ?_
      obtain ⟨n63, hr64, h1⟩ := h1
      obtain ⟨z66, ht65, h1⟩ := h1
      obtain ⟨hi67, h1⟩ := h1
      refine x_iald (n := n63) C hr64 ht65 hi67 dX12_need_141 ?_
      refine x_iconst (v := (nI 4)) C dX12_need_142 (by decide) ?_
      refine x_icmp_ne (tgt := 150) C dX12_need_143 (by decide) (fun z9 => ?_) (fun z9 => ?_)
      · have h1 := h1.1 z9
        refine x_iconst (v := (0 : Int32)) C dX12_need_150 (by decide) ?_
        refine x_keep (L' := [(0, xm_r (some h)), (3, xm_i x3), (4, xm_i x4), (5, xm_i x5), (6, xm_i x6), (9, xm_i s0)]) C [1, 2, 3, 4, 5, 0] rfl ?_
        exact kp_X12_need_151 h x3 x4 x5 x6 s0 (0 : Int32) (some h) S C N hg  h1
      · have h1 := h1.2 z9
        refine x_iconst (v := (nI 3)) C dX12_need_146 (by decide) ?_
        refine x_goto (tgt := 151) C dX12_need_147 (by decide) ?_
        refine x_keep (L' := [(0, xm_r (some h)), (3, xm_i x3), (4, xm_i x4), (5, xm_i x5), (6, xm_i x6), (9, xm_i s0)]) C [1, 2, 3, 4, 5, 0] rfl ?_
        exact kp_X12_need_151 h x3 x4 x5 x6 s0 (nI 3) (some h) S C N hg  h1
    · have h1 := h1.2 z9
      refine x_iconst (v := (nI 2)) C dX12_need_131 (by decide) ?_
      refine x_goto (tgt := 151) C dX12_need_132 (by decide) ?_
      refine x_keep (L' := [(0, xm_r (some h)), (3, xm_i x3), (4, xm_i x4), (5, xm_i x5), (6, xm_i x6), (9, xm_i s0)]) C [1, 2, 3, 4, 5, 0] rfl ?_
      exact kp_X12_need_151 h x3 x4 x5 x6 s0 (nI 2) (some h) S C N hg  h1
  · have h1 := h1.2 z9
    refine x_iconst (v := (1 : Int32)) C dX12_need_122 (by decide) ?_
    refine x_goto (tgt := 151) C dX12_need_123 (by decide) ?_
    refine x_keep (L' := [(0, xm_r (some h)), (3, xm_i x3), (4, xm_i x4), (5, xm_i x5), (6, xm_i x6), (9, xm_i s0)]) C [1, 2, 3, 4, 5, 0] rfl ?_
    exact kp_X12_need_151 h x3 x4 x5 x6 s0 (1 : Int32) (some h) S C N hg  h1
def wp_X12_need_98 (h : Nat) (x1 : Int32) (x2 : Int32) (x3 : Int32) (x4 : Int32) (x5 : Int32) (x6 : Int32) (x7 : Int32) (s0 : Int32) (S : xm_S) (g : Int32 → xm_S → Prop) : Prop :=
  (x7 = 0 → wp_X12_need_114 h x3 x4 x5 x6 x7 s0 (0 : Int32) S g) ∧ (¬ x7 = 0 → wp_X12_need_114 h x3 x4 x5 x6 x7 s0 (((nI 4) * x1) + x2) S g)
set_option maxRecDepth 100000 in
set_option maxHeartbeats 4000000 in
theorem kp_X12_need_98 {K : xm_K} (h : Nat) (x1 : Int32) (x2 : Int32) (x3 : Int32) (x4 : Int32) (x5 : Int32) (x6 : Int32) (x7 : Int32) (s0 : Int32) (S : xm_S) {g : Int32 → xm_S → Prop} (C : xm_Cx K cX12_need RX12 11 (some (FieldType.int)) rm_X12_need) (N : xm_Nx K) (hg : ∀ v S, g v S → xm_q K (some (xm_i v)) S)  (h1 : wp_X12_need_98 h x1 x2 x3 x4 x5 x6 x7 s0 S g) : xm_W K 0 0 98 [(0, xm_r (some h)), (1, xm_i x1), (2, xm_i x2), (3, xm_i x3), (4, xm_i x4), (5, xm_i x5), (6, xm_i x6), (7, xm_i x7)] [xm_i s0] S := by
  unfold wp_X12_need_98 at h1
  refine x_istore (L' := [(8, xm_i s0), (0, xm_r (some h)), (1, xm_i x1), (2, xm_i x2), (3, xm_i x3), (4, xm_i x4), (5, xm_i x5), (6, xm_i x6), (7, xm_i x7)]) C dX12_need_98 (by decide) rfl ?_
  refine x_iload C 8 dX12_need_100 rfl ?_
  refine x_if_eq (tgt := 113) C dX12_need_102 (by decide) (fun z9 => ?_) (fun z9 => ?_)
  · have h1 := h1.1 z9
    refine x_iconst (v := (0 : Int32)) C dX12_need_113 (by decide) ?_
    refine x_keep (L' := [(0, xm_r (some h)), (3, xm_i x3), (4, xm_i x4), (5, xm_i x5), (6, xm_i x6), (7, xm_i x7), (8, xm_i s0)]) C [1, 4, 5, 6, 7, 8, 0] rfl ?_
    exact kp_X12_need_114 h x3 x4 x5 x6 x7 s0 (0 : Int32) S C N hg  h1
  · have h1 := h1.2 z9
    refine x_iconst (v := (nI 4)) C dX12_need_105 (by decide) ?_
    refine x_iload_n C 2 dX12_need_106 rfl rfl ?_
    refine x_imul C dX12_need_107 ?_
    refine x_iload_n C 3 dX12_need_108 rfl rfl ?_
    refine x_iadd C dX12_need_109 ?_
    refine x_goto (tgt := 114) C dX12_need_110 (by decide) ?_
    refine x_keep (L' := [(0, xm_r (some h)), (3, xm_i x3), (4, xm_i x4), (5, xm_i x5), (6, xm_i x6), (7, xm_i x7), (8, xm_i s0)]) C [1, 4, 5, 6, 7, 8, 0] rfl ?_
    exact kp_X12_need_114 h x3 x4 x5 x6 x7 s0 (((nI 4) * x1) + x2) S C N hg  h1
def wp_X12_need_97 (h : Nat) (x1 : Int32) (x2 : Int32) (x3 : Int32) (x4 : Int32) (x5 : Int32) (x6 : Int32) (x7 : Int32) (S : xm_S) (g : Int32 → xm_S → Prop) : Prop :=
  wp_X12_need_98 h x1 x2 x3 x4 x5 x6 x7 (0 : Int32) S g
set_option maxRecDepth 100000 in
set_option maxHeartbeats 4000000 in
theorem kp_X12_need_97 {K : xm_K} (h : Nat) (x1 : Int32) (x2 : Int32) (x3 : Int32) (x4 : Int32) (x5 : Int32) (x6 : Int32) (x7 : Int32) (S : xm_S) {g : Int32 → xm_S → Prop} (C : xm_Cx K cX12_need RX12 11 (some (FieldType.int)) rm_X12_need) (N : xm_Nx K) (hg : ∀ v S, g v S → xm_q K (some (xm_i v)) S)  (h1 : wp_X12_need_97 h x1 x2 x3 x4 x5 x6 x7 S g) : xm_W K 0 0 97 [(0, xm_r (some h)), (1, xm_i x1), (2, xm_i x2), (3, xm_i x3), (4, xm_i x4), (5, xm_i x5), (6, xm_i x6), (7, xm_i x7)] [] S := by
  unfold wp_X12_need_97 at h1
  refine x_iconst (v := (0 : Int32)) C dX12_need_97 (by decide) ?_
  exact kp_X12_need_98 h x1 x2 x3 x4 x5 x6 x7 (0 : Int32) S C N hg  h1
def wp_X12_need_81 (h : Nat) (x1 : Int32) (x2 : Int32) (x3 : Int32) (x4 : Int32) (x5 : Int32) (x6 : Int32) (x7 : Int32) (S : xm_S) (g : Int32 → xm_S → Prop) : Prop :=
  (x3 = x1 → wp_X12_need_97 h x1 x2 x3 x4 x5 x6 x7 S g) ∧ (¬ x3 = x1 → st_t S h = some (12, 0) ∧ wp_X12_isTyped h S (fun r70 S69 => (r70 = 0 → wp_X12_need_97 h x1 x2 x3 x4 x5 x6 x7 S69 g) ∧ (¬ r70 = 0 → wp_X12_need_98 h x1 x2 x3 x4 x5 x6 x7 (1 : Int32) S69 g)))
set_option maxRecDepth 100000 in
set_option maxHeartbeats 4000000 in
theorem kp_X12_need_81 {K : xm_K} (h : Nat) (x1 : Int32) (x2 : Int32) (x3 : Int32) (x4 : Int32) (x5 : Int32) (x6 : Int32) (x7 : Int32) (S : xm_S) {g : Int32 → xm_S → Prop} (C : xm_Cx K cX12_need RX12 11 (some (FieldType.int)) rm_X12_need) (N : xm_Nx K) (hg : ∀ v S, g v S → xm_q K (some (xm_i v)) S)  (h1 : wp_X12_need_81 h x1 x2 x3 x4 x5 x6 x7 S g) : xm_W K 0 0 81 [(0, xm_r (some h)), (1, xm_i x1), (2, xm_i x2), (3, xm_i x3), (4, xm_i x4), (5, xm_i x5), (6, xm_i x6), (7, xm_i x7)] [] S := by
  unfold wp_X12_need_81 at h1
  refine x_iload_n C 3 dX12_need_81 rfl rfl ?_
  refine x_iload_n C 1 dX12_need_82 rfl rfl ?_
  refine x_icmp_eq (tgt := 97) C dX12_need_83 (by decide) (fun z9 => ?_) (fun z9 => ?_)
  · have h1 := h1.1 z9
    exact kp_X12_need_97 h x1 x2 x3 x4 x5 x6 x7 S C N hg  h1
  · have h1 := h1.2 z9
    refine x_aload_n C 0 dX12_need_86 rfl rfl ?_
    obtain ⟨ht68, h1⟩ := h1
    refine x_callV (rm' := rm_X12_isTyped) (n := h) C (kp_X12_isTyped_met h1) lk_98 gw_586 gw_587 xv_12 rfl rfl ht68 rfl (Nat.le_of_ble_eq_true rfl) ⟨Nat.le_of_ble_eq_true rfl, Nat.le_of_ble_eq_true rfl, (Nat.le_of_ble_eq_true rfl), (Nat.le_of_ble_eq_true rfl)⟩ dX12_need_87 xm_kx (xm_ki (fun r70 S69 h1 => ?_))
    refine x_if_eq (tgt := 97) C dX12_need_90 (by decide) (fun z9 => ?_) (fun z9 => ?_)
    · have h1 := h1.1 z9
      exact kp_X12_need_97 h x1 x2 x3 x4 x5 x6 x7 S69 C N hg  h1
    · have h1 := h1.2 z9
      refine x_iconst (v := (1 : Int32)) C dX12_need_93 (by decide) ?_
      refine x_goto (tgt := 98) C dX12_need_94 (by decide) ?_
      exact kp_X12_need_98 h x1 x2 x3 x4 x5 x6 x7 (1 : Int32) S69 C N hg  h1
def wp_X12_need_21 (h : Nat) (x1 : Int32) (x2 : Int32) (x3 : Int32) (x4 : Int32) (x5 : Int32) (x6 : Int32) (s0 : Int32) (S : xm_S) (g : Int32 → xm_S → Prop) : Prop :=
  (s0 = 0 → wp_X12_need_97 h x1 x2 x3 x4 x5 x6 s0 S g) ∧ (¬ s0 = 0 → wp_X12_in x4 (0 : Int32) (nI 15) S (fun r72 S71 => (r72 = 0 → wp_X12_need_97 h x1 x2 x3 x4 x5 x6 s0 S71 g) ∧ (¬ r72 = 0 → wp_X12_in x5 (1 : Int32) (nI 7) S71 (fun r74 S73 => (r74 = 0 → wp_X12_need_97 h x1 x2 x3 x4 x5 x6 s0 S73 g) ∧ (¬ r74 = 0 → (x6 = (-1 : Int32) → wp_X12_need_81 h x1 x2 x3 x4 x5 x6 s0 S73 g) ∧ (¬ x6 = (-1 : Int32) → (x6 = (1 : Int32) → wp_X12_need_81 h x1 x2 x3 x4 x5 x6 s0 S73 g) ∧ (¬ x6 = (1 : Int32) → (x6 = (nI 2) → wp_X12_need_81 h x1 x2 x3 x4 x5 x6 s0 S73 g) ∧ (¬ x6 = (nI 2) → (x6 = (nI 4) → wp_X12_need_81 h x1 x2 x3 x4 x5 x6 s0 S73 g) ∧ (¬ x6 = (nI 4) → (¬ x6 = (nI 8) → wp_X12_need_97 h x1 x2 x3 x4 x5 x6 s0 S73 g) ∧ (x6 = (nI 8) → wp_X12_need_81 h x1 x2 x3 x4 x5 x6 s0 S73 g))))))))))
set_option maxRecDepth 100000 in
set_option maxHeartbeats 4000000 in
theorem kp_X12_need_21 {K : xm_K} (h : Nat) (x1 : Int32) (x2 : Int32) (x3 : Int32) (x4 : Int32) (x5 : Int32) (x6 : Int32) (s0 : Int32) (S : xm_S) {g : Int32 → xm_S → Prop} (C : xm_Cx K cX12_need RX12 11 (some (FieldType.int)) rm_X12_need) (N : xm_Nx K) (hg : ∀ v S, g v S → xm_q K (some (xm_i v)) S)  (h1 : wp_X12_need_21 h x1 x2 x3 x4 x5 x6 s0 S g) : xm_W K 0 0 21 [(0, xm_r (some h)), (1, xm_i x1), (2, xm_i x2), (3, xm_i x3), (4, xm_i x4), (5, xm_i x5), (6, xm_i x6)] [xm_i s0] S := by
  unfold wp_X12_need_21 at h1
  refine x_istore (L' := [(7, xm_i s0), (0, xm_r (some h)), (1, xm_i x1), (2, xm_i x2), (3, xm_i x3), (4, xm_i x4), (5, xm_i x5), (6, xm_i x6)]) C dX12_need_21 (by decide) rfl ?_
  refine x_iload C 0 dX12_need_23 rfl ?_
  refine x_if_eq (tgt := 97) C dX12_need_25 (by decide) (fun z9 => ?_) (fun z9 => ?_)
  · have h1 := h1.1 z9
    refine x_keep (L' := [(0, xm_r (some h)), (1, xm_i x1), (2, xm_i x2), (3, xm_i x3), (4, xm_i x4), (5, xm_i x5), (6, xm_i x6), (7, xm_i s0)]) C [1, 2, 3, 4, 5, 6, 7, 0] rfl ?_
    exact kp_X12_need_97 h x1 x2 x3 x4 x5 x6 s0 S C N hg  h1
  · have h1 := h1.2 z9
    refine x_iload C 5 dX12_need_28 rfl ?_
    refine x_iconst (v := (0 : Int32)) C dX12_need_30 (by decide) ?_
    refine x_bipush (v := (nI 15)) C dX12_need_31 (by decide) ?_
    refine x_callS (rm' := rm_X12_in) C (kp_X12_in_met h1) lk_87 gw_533 rfl (Nat.le_of_ble_eq_true rfl) ⟨Nat.le_of_ble_eq_true rfl, Nat.le_of_ble_eq_true rfl, (Nat.le_of_ble_eq_true rfl), (Nat.le_of_ble_eq_true rfl)⟩ dX12_need_33 xm_kx (xm_ki (fun r72 S71 h1 => ?_))
    refine x_if_eq (tgt := 97) C dX12_need_36 (by decide) (fun z9 => ?_) (fun z9 => ?_)
    · have h1 := h1.1 z9
      refine x_keep (L' := [(0, xm_r (some h)), (1, xm_i x1), (2, xm_i x2), (3, xm_i x3), (4, xm_i x4), (5, xm_i x5), (6, xm_i x6), (7, xm_i s0)]) C [1, 2, 3, 4, 5, 6, 7, 0] rfl ?_
      exact kp_X12_need_97 h x1 x2 x3 x4 x5 x6 s0 S71 C N hg  h1
    · have h1 := h1.2 z9
      refine x_iload C 6 dX12_need_39 rfl ?_
      refine x_iconst (v := (1 : Int32)) C dX12_need_41 (by decide) ?_
      refine x_bipush (v := (nI 7)) C dX12_need_42 (by decide) ?_
      refine x_callS (rm' := rm_X12_in) C (kp_X12_in_met h1) lk_87 gw_533 rfl (Nat.le_of_ble_eq_true rfl) ⟨Nat.le_of_ble_eq_true rfl, Nat.le_of_ble_eq_true rfl, (Nat.le_of_ble_eq_true rfl), (Nat.le_of_ble_eq_true rfl)⟩ dX12_need_44 xm_kx (xm_ki (fun r74 S73 h1 => ?_))
      refine x_if_eq (tgt := 97) C dX12_need_47 (by decide) (fun z9 => ?_) (fun z9 => ?_)
      · have h1 := h1.1 z9
        refine x_keep (L' := [(0, xm_r (some h)), (1, xm_i x1), (2, xm_i x2), (3, xm_i x3), (4, xm_i x4), (5, xm_i x5), (6, xm_i x6), (7, xm_i s0)]) C [1, 2, 3, 4, 5, 6, 7, 0] rfl ?_
        exact kp_X12_need_97 h x1 x2 x3 x4 x5 x6 s0 S73 C N hg  h1
      · have h1 := h1.2 z9
        refine x_iload C 7 dX12_need_50 rfl ?_
        refine x_iconst (v := (-1 : Int32)) C dX12_need_52 (by decide) ?_
        refine x_icmp_eq (tgt := 81) C dX12_need_53 (by decide) (fun z9 => ?_) (fun z9 => ?_)
        · have h1 := h1.1 z9
          refine x_keep (L' := [(0, xm_r (some h)), (1, xm_i x1), (2, xm_i x2), (3, xm_i x3), (4, xm_i x4), (5, xm_i x5), (6, xm_i x6), (7, xm_i s0)]) C [1, 2, 3, 4, 5, 6, 7, 0] rfl ?_
          exact kp_X12_need_81 h x1 x2 x3 x4 x5 x6 s0 S73 C N hg  h1
        · have h1 := h1.2 z9
          refine x_iload C 7 dX12_need_56 rfl ?_
          refine x_iconst (v := (1 : Int32)) C dX12_need_58 (by decide) ?_
          refine x_icmp_eq (tgt := 81) C dX12_need_59 (by decide) (fun z9 => ?_) (fun z9 => ?_)
          · have h1 := h1.1 z9
            refine x_keep (L' := [(0, xm_r (some h)), (1, xm_i x1), (2, xm_i x2), (3, xm_i x3), (4, xm_i x4), (5, xm_i x5), (6, xm_i x6), (7, xm_i s0)]) C [1, 2, 3, 4, 5, 6, 7, 0] rfl ?_
            exact kp_X12_need_81 h x1 x2 x3 x4 x5 x6 s0 S73 C N hg  h1
          · have h1 := h1.2 z9
            refine x_iload C 7 dX12_need_62 rfl ?_
            refine x_iconst (v := (nI 2)) C dX12_need_64 (by decide) ?_
            refine x_icmp_eq (tgt := 81) C dX12_need_65 (by decide) (fun z9 => ?_) (fun z9 => ?_)
            · have h1 := h1.1 z9
              refine x_keep (L' := [(0, xm_r (some h)), (1, xm_i x1), (2, xm_i x2), (3, xm_i x3), (4, xm_i x4), (5, xm_i x5), (6, xm_i x6), (7, xm_i s0)]) C [1, 2, 3, 4, 5, 6, 7, 0] rfl ?_
              exact kp_X12_need_81 h x1 x2 x3 x4 x5 x6 s0 S73 C N hg  h1
            · have h1 := h1.2 z9
              refine x_iload C 7 dX12_need_68 rfl ?_
              refine x_iconst (v := (nI 4)) C dX12_need_70 (by decide) ?_
              refine x_icmp_eq (tgt := 81) C dX12_need_71 (by decide) (fun z9 => ?_) (fun z9 => ?_)
              · have h1 := h1.1 z9
                refine x_keep (L' := [(0, xm_r (some h)), (1, xm_i x1), (2, xm_i x2), (3, xm_i x3), (4, xm_i x4), (5, xm_i x5), (6, xm_i x6), (7, xm_i s0)]) C [1, 2, 3, 4, 5, 6, 7, 0] rfl ?_
                exact kp_X12_need_81 h x1 x2 x3 x4 x5 x6 s0 S73 C N hg  h1
              · have h1 := h1.2 z9
                refine x_iload C 7 dX12_need_74 rfl ?_
                refine x_bipush (v := (nI 8)) C dX12_need_76 (by decide) ?_
                refine x_icmp_ne (tgt := 97) C dX12_need_78 (by decide) (fun z9 => ?_) (fun z9 => ?_)
                · have h1 := h1.1 z9
                  refine x_keep (L' := [(0, xm_r (some h)), (1, xm_i x1), (2, xm_i x2), (3, xm_i x3), (4, xm_i x4), (5, xm_i x5), (6, xm_i x6), (7, xm_i s0)]) C [1, 2, 3, 4, 5, 6, 7, 0] rfl ?_
                  exact kp_X12_need_97 h x1 x2 x3 x4 x5 x6 s0 S73 C N hg  h1
                · have h1 := h1.2 z9
                  refine x_keep (L' := [(0, xm_r (some h)), (1, xm_i x1), (2, xm_i x2), (3, xm_i x3), (4, xm_i x4), (5, xm_i x5), (6, xm_i x6), (7, xm_i s0)]) C [1, 2, 3, 4, 5, 6, 7, 0] rfl ?_
                  exact kp_X12_need_81 h x1 x2 x3 x4 x5 x6 s0 S73 C N hg  h1
def wp_X12_need_20 (h : Nat) (x1 : Int32) (x2 : Int32) (x3 : Int32) (x4 : Int32) (x5 : Int32) (x6 : Int32) (S : xm_S) (g : Int32 → xm_S → Prop) : Prop :=
  wp_X12_need_21 h x1 x2 x3 x4 x5 x6 (0 : Int32) S g
set_option maxRecDepth 100000 in
set_option maxHeartbeats 4000000 in
theorem kp_X12_need_20 {K : xm_K} (h : Nat) (x1 : Int32) (x2 : Int32) (x3 : Int32) (x4 : Int32) (x5 : Int32) (x6 : Int32) (S : xm_S) {g : Int32 → xm_S → Prop} (C : xm_Cx K cX12_need RX12 11 (some (FieldType.int)) rm_X12_need) (N : xm_Nx K) (hg : ∀ v S, g v S → xm_q K (some (xm_i v)) S)  (h1 : wp_X12_need_20 h x1 x2 x3 x4 x5 x6 S g) : xm_W K 0 0 20 [(0, xm_r (some h)), (1, xm_i x1), (2, xm_i x2), (3, xm_i x3), (4, xm_i x4), (5, xm_i x5), (6, xm_i x6)] [] S := by
  unfold wp_X12_need_20 at h1
  refine x_iconst (v := (0 : Int32)) C dX12_need_20 (by decide) ?_
  exact kp_X12_need_21 h x1 x2 x3 x4 x5 x6 (0 : Int32) S C N hg  h1
def wp_X12_need (h : Nat) (x1 : Int32) (x2 : Int32) (x3 : Int32) (x4 : Int32) (x5 : Int32) (x6 : Int32) (S : xm_S) (g : Int32 → xm_S → Prop) : Prop :=
  st_t S h = some (12, 0) ∧ wp_X12_isVersion h x1 x2 S (fun r77 S76 => (r77 = 0 → wp_X12_need_20 h x1 x2 x3 x4 x5 x6 S76 g) ∧ (¬ r77 = 0 → wp_X12_isPack x3 S76 (fun r79 S78 => (r79 = 0 → wp_X12_need_20 h x1 x2 x3 x4 x5 x6 S78 g) ∧ (¬ r79 = 0 → wp_X12_need_21 h x1 x2 x3 x4 x5 x6 (1 : Int32) S78 g))))
set_option maxRecDepth 100000 in
set_option maxHeartbeats 4000000 in
theorem kp_X12_need {K : xm_K} (h : Nat) (x1 : Int32) (x2 : Int32) (x3 : Int32) (x4 : Int32) (x5 : Int32) (x6 : Int32) (S : xm_S) {g : Int32 → xm_S → Prop} (C : xm_Cx K cX12_need RX12 11 (some (FieldType.int)) rm_X12_need) (N : xm_Nx K) (hg : ∀ v S, g v S → xm_q K (some (xm_i v)) S)  (h1 : wp_X12_need h x1 x2 x3 x4 x5 x6 S g) : xm_W K 0 0 0 [(0, xm_r (some h)), (1, xm_i x1), (2, xm_i x2), (3, xm_i x3), (4, xm_i x4), (5, xm_i x5), (6, xm_i x6)] [] S := by
  unfold wp_X12_need at h1
  refine x_aload_n C 0 dX12_need_0 rfl rfl ?_
  refine x_iload_n C 1 dX12_need_1 rfl rfl ?_
  refine x_iload_n C 2 dX12_need_2 rfl rfl ?_
  obtain ⟨ht75, h1⟩ := h1
  refine x_callV (rm' := rm_X12_isVersion) (n := h) C (kp_X12_isVersion_met h1) lk_119 gw_699 gw_700 xv_12 rfl rfl ht75 rfl (Nat.le_of_ble_eq_true rfl) ⟨Nat.le_of_ble_eq_true rfl, Nat.le_of_ble_eq_true rfl, (Nat.le_of_ble_eq_true rfl), (Nat.le_of_ble_eq_true rfl)⟩ dX12_need_3 xm_kx (xm_ki (fun r77 S76 h1 => ?_))
  refine x_if_eq (tgt := 20) C dX12_need_6 (by decide) (fun z9 => ?_) (fun z9 => ?_)
  · have h1 := h1.1 z9
    exact kp_X12_need_20 h x1 x2 x3 x4 x5 x6 S76 C N hg  h1
  · have h1 := h1.2 z9
    refine x_iload_n C 3 dX12_need_9 rfl rfl ?_
    refine x_callS (rm' := rm_X12_isPack) C (kp_X12_isPack_met h1) lk_97 gw_583 rfl (Nat.le_of_ble_eq_true rfl) ⟨Nat.le_of_ble_eq_true rfl, Nat.le_of_ble_eq_true rfl, (Nat.le_of_ble_eq_true rfl), (Nat.le_of_ble_eq_true rfl)⟩ dX12_need_10 xm_kx (xm_ki (fun r79 S78 h1 => ?_))
    refine x_if_eq (tgt := 20) C dX12_need_13 (by decide) (fun z9 => ?_) (fun z9 => ?_)
    · have h1 := h1.1 z9
      exact kp_X12_need_20 h x1 x2 x3 x4 x5 x6 S78 C N hg  h1
    · have h1 := h1.2 z9
      refine x_iconst (v := (1 : Int32)) C dX12_need_16 (by decide) ?_
      refine x_goto (tgt := 21) C dX12_need_17 (by decide) ?_
      exact kp_X12_need_21 h x1 x2 x3 x4 x5 x6 (1 : Int32) S78 C N hg  h1
theorem kp_X12_need_met {h : Nat} {x1 : Int32} {x2 : Int32} {x3 : Int32} {x4 : Int32} {x5 : Int32} {x6 : Int32} {S : xm_S} {g : Int32 → xm_S → Prop}  (h1 : wp_X12_need h x1 x2 x3 x4 x5 x6 S g) : xm_Met yX12_need cX12_need 11 (some (FieldType.int)) rm_X12_need [xm_r (some h), xm_i x1, xm_i x2, xm_i x3, xm_i x4, xm_i x5, xm_i x6] S (xm_qi g) xm_nox :=
  xm_ofW RX12 (by decide +kernel) rfl (Nat.le_of_ble_eq_true rfl) (fun K C N hq hx hi => kp_X12_need h x1 x2 x3 x4 x5 x6 S C N (fun v S h => by rw [hq]; exact ⟨v, rfl, h⟩)  h1)
def rm_X12_pass : Room := { frames := 2, cells := 0, slots := 0, locals := 42 }
theorem dX12_pass_0 : decode cX12_pass 0 = .ok (.aload_n 0, 1) := by decide +kernel
theorem dX12_pass_1 : decode cX12_pass 1 = .ok (.iload_n 1, 1) := by decide +kernel
theorem dX12_pass_2 : decode cX12_pass 2 = .ok (.iconst 0, 1) := by decide +kernel
theorem dX12_pass_3 : decode cX12_pass 3 = .ok (.sipush 1000, 3) := by decide +kernel
theorem dX12_pass_6 : decode cX12_pass 6 = .ok (.invokestatic 172, 3) := by decide +kernel
theorem dX12_pass_9 : decode cX12_pass 9 = .ok (.ifCond .ne 7, 3) := by decide +kernel
theorem dX12_pass_12 : decode cX12_pass 12 = .ok (.iconst 1, 1) := by decide +kernel
theorem dX12_pass_13 : decode cX12_pass 13 = .ok (.goto 20, 3) := by decide +kernel
theorem dX12_pass_16 : decode cX12_pass 16 = .ok (.aload_n 0, 1) := by decide +kernel
theorem dX12_pass_17 : decode cX12_pass 17 = .ok (.getfield 320, 3) := by decide +kernel
theorem dX12_pass_20 : decode cX12_pass 20 = .ok (.iload_n 1, 1) := by decide +kernel
theorem dX12_pass_21 : decode cX12_pass 21 = .ok (.iadd, 1) := by decide +kernel
theorem dX12_pass_22 : decode cX12_pass 22 = .ok (.ldc_w 323, 3) := by decide +kernel
theorem dX12_pass_25 : decode cX12_pass 25 = .ok (.if_icmp .le 7, 3) := by decide +kernel
theorem dX12_pass_28 : decode cX12_pass 28 = .ok (.iconst 2, 1) := by decide +kernel
theorem dX12_pass_29 : decode cX12_pass 29 = .ok (.goto 4, 3) := by decide +kernel
theorem dX12_pass_32 : decode cX12_pass 32 = .ok (.iconst 0, 1) := by decide +kernel
theorem dX12_pass_33 : decode cX12_pass 33 = .ok (.invokevirtual 182, 3) := by decide +kernel
theorem dX12_pass_36 : decode cX12_pass 36 = .ok (.ifCond .ne 5, 3) := by decide +kernel
theorem dX12_pass_39 : decode cX12_pass 39 = .ok (.iconst 0, 1) := by decide +kernel
theorem dX12_pass_40 : decode cX12_pass 40 = .ok (.ireturn, 1) := by decide +kernel
theorem dX12_pass_41 : decode cX12_pass 41 = .ok (.aload_n 0, 1) := by decide +kernel
theorem dX12_pass_42 : decode cX12_pass 42 = .ok (.dup, 1) := by decide +kernel
theorem dX12_pass_43 : decode cX12_pass 43 = .ok (.getfield 320, 3) := by decide +kernel
theorem dX12_pass_46 : decode cX12_pass 46 = .ok (.iload_n 1, 1) := by decide +kernel
theorem dX12_pass_47 : decode cX12_pass 47 = .ok (.iadd, 1) := by decide +kernel
theorem dX12_pass_48 : decode cX12_pass 48 = .ok (.putfield 320, 3) := by decide +kernel
theorem dX12_pass_51 : decode cX12_pass 51 = .ok (.aload_n 0, 1) := by decide +kernel
theorem dX12_pass_52 : decode cX12_pass 52 = .ok (.getfield 320, 3) := by decide +kernel
theorem dX12_pass_55 : decode cX12_pass 55 = .ok (.ireturn, 1) := by decide +kernel
def wp_X12_pass_33 (h : Nat) (x1 : Int32) (s0 : Int32) (s1 : Option Nat) (S : xm_S) (g : Int32 → xm_S → Prop) : Prop :=
  ∃ n1, s1 = some n1 ∧ st_t S n1 = some (12, 0) ∧ wp_X12_may n1 s0 S (fun r5 S4 => (¬ r5 = 0 → st_t S4 h = some (12, 0) ∧ ∀ S7, S7 = st_pi S4 h 36 ((st_i S4 h 36) + x1) → g (st_i S7 h 36) S7) ∧ (r5 = 0 → g (0 : Int32) S4))
set_option maxRecDepth 100000 in
set_option maxHeartbeats 4000000 in
theorem kp_X12_pass_33 {K : xm_K} (h : Nat) (x1 : Int32) (s0 : Int32) (s1 : Option Nat) (S : xm_S) {g : Int32 → xm_S → Prop} (C : xm_Cx K cX12_pass RX12 2 (some (FieldType.int)) rm_X12_pass) (N : xm_Nx K) (hg : ∀ v S, g v S → xm_q K (some (xm_i v)) S)  (h1 : wp_X12_pass_33 h x1 s0 s1 S g) : xm_W K 0 0 33 [(0, xm_r (some h)), (1, xm_i x1)] [xm_i s0, xm_r s1] S := by
  unfold wp_X12_pass_33 at h1
  obtain ⟨n1, hr2, h1⟩ := h1
  obtain ⟨ht3, h1⟩ := h1
  refine x_callV (rm' := rm_X12_may) (n := n1) C (kp_X12_may_met h1) lk_95 gw_572 gw_573 xv_12 rfl hr2 ht3 rfl (Nat.le_of_ble_eq_true rfl) ⟨Nat.le_of_ble_eq_true rfl, Nat.le_of_ble_eq_true rfl, (Nat.le_of_ble_eq_true rfl), (Nat.le_of_ble_eq_true rfl)⟩ dX12_pass_33 xm_kx (xm_ki (fun r5 S4 h1 => ?_))
  refine x_if_ne (tgt := 41) C dX12_pass_36 (by decide) (fun z9 => ?_) (fun z9 => ?_)
  · have h1 := h1.1 z9
    refine x_aload_n C 0 dX12_pass_41 rfl rfl ?_
    refine x_dup_r C dX12_pass_42 ?_
    obtain ⟨ht6, h1⟩ := h1
    refine x_getf_i (n := h) C rfl ht6 fd_216 (by decide) dX12_pass_43 ?_
    refine x_iload_n C 1 dX12_pass_46 rfl rfl ?_
    refine x_iadd C dX12_pass_47 ?_
    refine x_putf_i (n := h) C rfl ht6 fd_216 xc_12 (by decide) rfl ⟨rfl, rfl⟩ dX12_pass_48 ?_
    refine x_topS (fun S7 e8 => ?_)
    have h1 := h1 S7 e8
    refine x_aload_n C 0 dX12_pass_51 rfl rfl ?_
    refine x_getf_i (n := h) C rfl (tk_p e8 ht6) fd_216 (by decide) dX12_pass_52 ?_
    exact x_iret C (Nat.le_of_ble_eq_true rfl) (Nat.le_of_ble_eq_true rfl) rfl dX12_pass_55 (hg _ _ h1)
  · have h1 := h1.2 z9
    refine x_iconst (v := (0 : Int32)) C dX12_pass_39 (by decide) ?_
    exact x_iret C (Nat.le_of_ble_eq_true rfl) (Nat.le_of_ble_eq_true rfl) rfl dX12_pass_40 (hg _ _ h1)
def wp_X12_pass (h : Nat) (x1 : Int32) (S : xm_S) (g : Int32 → xm_S → Prop) : Prop :=
  wp_X12_in x1 (0 : Int32) (nI 1000) S (fun r10 S9 => (¬ r10 = 0 → st_t S9 h = some (12, 0) ∧ (((st_i S9 h 36) + x1) ≤ (nI 100000) → wp_X12_pass_33 h x1 (0 : Int32) (some h) S9 g) ∧ (¬ ((st_i S9 h 36) + x1) ≤ (nI 100000) → wp_X12_pass_33 h x1 (nI 2) (some h) S9 g)) ∧ (r10 = 0 → wp_X12_pass_33 h x1 (1 : Int32) (some h) S9 g))
set_option maxRecDepth 100000 in
set_option maxHeartbeats 4000000 in
theorem kp_X12_pass {K : xm_K} (h : Nat) (x1 : Int32) (S : xm_S) {g : Int32 → xm_S → Prop} (C : xm_Cx K cX12_pass RX12 2 (some (FieldType.int)) rm_X12_pass) (N : xm_Nx K) (hg : ∀ v S, g v S → xm_q K (some (xm_i v)) S)  (h1 : wp_X12_pass h x1 S g) : xm_W K 0 0 0 [(0, xm_r (some h)), (1, xm_i x1)] [] S := by
  unfold wp_X12_pass at h1
  refine x_aload_n C 0 dX12_pass_0 rfl rfl ?_
  refine x_iload_n C 1 dX12_pass_1 rfl rfl ?_
  refine x_iconst (v := (0 : Int32)) C dX12_pass_2 (by decide) ?_
  refine x_sipush (v := (nI 1000)) C dX12_pass_3 (by decide) ?_
  refine x_callS (rm' := rm_X12_in) C (kp_X12_in_met h1) lk_87 gw_533 rfl (Nat.le_of_ble_eq_true rfl) ⟨Nat.le_of_ble_eq_true rfl, Nat.le_of_ble_eq_true rfl, (Nat.le_of_ble_eq_true rfl), (Nat.le_of_ble_eq_true rfl)⟩ dX12_pass_6 xm_kx (xm_ki (fun r10 S9 h1 => ?_))
  refine x_if_ne (tgt := 16) C dX12_pass_9 (by decide) (fun z9 => ?_) (fun z9 => ?_)
  · have h1 := h1.1 z9
    refine x_aload_n C 0 dX12_pass_16 rfl rfl ?_
    obtain ⟨ht11, h1⟩ := h1
    refine x_getf_i (n := h) C rfl ht11 fd_216 (by decide) dX12_pass_17 ?_
    refine x_iload_n C 1 dX12_pass_20 rfl rfl ?_
    refine x_iadd C dX12_pass_21 ?_
    refine x_ldcw (v := nI 100000) C gw_764 dX12_pass_22 ?_
    refine x_icmp_le (tgt := 32) C dX12_pass_25 (by decide) (fun z9 => ?_) (fun z9 => ?_)
    · have h1 := h1.1 z9
      refine x_iconst (v := (0 : Int32)) C dX12_pass_32 (by decide) ?_
      exact kp_X12_pass_33 h x1 (0 : Int32) (some h) S9 C N hg  h1
    · have h1 := h1.2 z9
      refine x_iconst (v := (nI 2)) C dX12_pass_28 (by decide) ?_
      refine x_goto (tgt := 33) C dX12_pass_29 (by decide) ?_
      exact kp_X12_pass_33 h x1 (nI 2) (some h) S9 C N hg  h1
  · have h1 := h1.2 z9
    refine x_iconst (v := (1 : Int32)) C dX12_pass_12 (by decide) ?_
    refine x_goto (tgt := 33) C dX12_pass_13 (by decide) ?_
    exact kp_X12_pass_33 h x1 (1 : Int32) (some h) S9 C N hg  h1
theorem kp_X12_pass_met {h : Nat} {x1 : Int32} {S : xm_S} {g : Int32 → xm_S → Prop}  (h1 : wp_X12_pass h x1 S g) : xm_Met yX12_pass cX12_pass 2 (some (FieldType.int)) rm_X12_pass [xm_r (some h), xm_i x1] S (xm_qi g) xm_nox :=
  xm_ofW RX12 (by decide +kernel) rfl (Nat.le_of_ble_eq_true rfl) (fun K C N hq hx hi => kp_X12_pass h x1 S C N (fun v S h => by rw [hq]; exact ⟨v, rfl, h⟩)  h1)
def rm_X12_path : Room := { frames := 2, cells := 0, slots := 0, locals := 42 }
theorem dX12_path_0 : decode cX12_path 0 = .ok (.aload_n 0, 1) := by decide +kernel
theorem dX12_path_1 : decode cX12_path 1 = .ok (.iload_n 1, 1) := by decide +kernel
theorem dX12_path_2 : decode cX12_path 2 = .ok (.iconst 0, 1) := by decide +kernel
theorem dX12_path_3 : decode cX12_path 3 = .ok (.bipush 15, 2) := by decide +kernel
theorem dX12_path_5 : decode cX12_path 5 = .ok (.invokestatic 172, 3) := by decide +kernel
theorem dX12_path_8 : decode cX12_path 8 = .ok (.ifCond .eq 16, 3) := by decide +kernel
theorem dX12_path_11 : decode cX12_path 11 = .ok (.iload_n 2, 1) := by decide +kernel
theorem dX12_path_12 : decode cX12_path 12 = .ok (.iconst 0, 1) := by decide +kernel
theorem dX12_path_13 : decode cX12_path 13 = .ok (.iconst 2, 1) := by decide +kernel
theorem dX12_path_14 : decode cX12_path 14 = .ok (.invokestatic 172, 3) := by decide +kernel
theorem dX12_path_17 : decode cX12_path 17 = .ok (.ifCond .eq 7, 3) := by decide +kernel
theorem dX12_path_20 : decode cX12_path 20 = .ok (.iconst 0, 1) := by decide +kernel
theorem dX12_path_21 : decode cX12_path 21 = .ok (.goto 4, 3) := by decide +kernel
theorem dX12_path_24 : decode cX12_path 24 = .ok (.iconst 1, 1) := by decide +kernel
theorem dX12_path_25 : decode cX12_path 25 = .ok (.invokevirtual 182, 3) := by decide +kernel
theorem dX12_path_28 : decode cX12_path 28 = .ok (.ifCond .eq 20, 3) := by decide +kernel
theorem dX12_path_31 : decode cX12_path 31 = .ok (.aload_n 0, 1) := by decide +kernel
theorem dX12_path_32 : decode cX12_path 32 = .ok (.getfield 148, 3) := by decide +kernel
theorem dX12_path_35 : decode cX12_path 35 = .ok (.bipush 6, 2) := by decide +kernel
theorem dX12_path_37 : decode cX12_path 37 = .ok (.bipush 16, 2) := by decide +kernel
theorem dX12_path_39 : decode cX12_path 39 = .ok (.iload_n 2, 1) := by decide +kernel
theorem dX12_path_40 : decode cX12_path 40 = .ok (.imul, 1) := by decide +kernel
theorem dX12_path_41 : decode cX12_path 41 = .ok (.iadd, 1) := by decide +kernel
theorem dX12_path_42 : decode cX12_path 42 = .ok (.iload_n 1, 1) := by decide +kernel
theorem dX12_path_43 : decode cX12_path 43 = .ok (.iadd, 1) := by decide +kernel
theorem dX12_path_44 : decode cX12_path 44 = .ok (.iaload, 1) := by decide +kernel
theorem dX12_path_45 : decode cX12_path 45 = .ok (.goto 4, 3) := by decide +kernel
theorem dX12_path_48 : decode cX12_path 48 = .ok (.iconst 0, 1) := by decide +kernel
theorem dX12_path_49 : decode cX12_path 49 = .ok (.ireturn, 1) := by decide +kernel
def wp_X12_path_49 (h : Nat) (s0 : Int32) (S : xm_S) (g : Int32 → xm_S → Prop) : Prop :=
  g s0 S
set_option maxRecDepth 100000 in
set_option maxHeartbeats 4000000 in
theorem kp_X12_path_49 {K : xm_K} (h : Nat) (s0 : Int32) (S : xm_S) {g : Int32 → xm_S → Prop} (C : xm_Cx K cX12_path RX12 3 (some (FieldType.int)) rm_X12_path) (N : xm_Nx K) (hg : ∀ v S, g v S → xm_q K (some (xm_i v)) S)  (h1 : wp_X12_path_49 h s0 S g) : xm_W K 0 0 49 [] [xm_i s0] S := by
  unfold wp_X12_path_49 at h1
  exact x_iret C (Nat.le_of_ble_eq_true rfl) (Nat.le_of_ble_eq_true rfl) rfl dX12_path_49 (hg _ _ h1)
def wp_X12_path_25 (h : Nat) (x1 : Int32) (x2 : Int32) (s0 : Int32) (s1 : Option Nat) (S : xm_S) (g : Int32 → xm_S → Prop) : Prop :=
  ∃ n1, s1 = some n1 ∧ st_t S n1 = some (12, 0) ∧ wp_X12_may n1 s0 S (fun r5 S4 => (r5 = 0 → wp_X12_path_49 h (0 : Int32) S4 g) ∧ (¬ r5 = 0 → st_t S4 h = some (12, 0) ∧ ∃ n7, (st_r S4 h 50) = some n7 ∧ ∃ z10, st_t S4 n7 = some (100, z10) ∧ vp_in (((nI 6) + ((nI 16) * x2)) + x1) z10 ∧ wp_X12_path_49 h (st_i S4 n7 ((((nI 6) + ((nI 16) * x2)) + x1)).toNatClampNeg) S4 g))
set_option maxRecDepth 100000 in
set_option maxHeartbeats 4000000 in
theorem kp_X12_path_25 {K : xm_K} (h : Nat) (x1 : Int32) (x2 : Int32) (s0 : Int32) (s1 : Option Nat) (S : xm_S) {g : Int32 → xm_S → Prop} (C : xm_Cx K cX12_path RX12 3 (some (FieldType.int)) rm_X12_path) (N : xm_Nx K) (hg : ∀ v S, g v S → xm_q K (some (xm_i v)) S)  (h1 : wp_X12_path_25 h x1 x2 s0 s1 S g) : xm_W K 0 0 25 [(0, xm_r (some h)), (1, xm_i x1), (2, xm_i x2)] [xm_i s0, xm_r s1] S := by
  unfold wp_X12_path_25 at h1
  obtain ⟨n1, hr2, h1⟩ := h1
  obtain ⟨ht3, h1⟩ := h1
  refine x_callV (rm' := rm_X12_may) (n := n1) C (kp_X12_may_met h1) lk_95 gw_572 gw_573 xv_12 rfl hr2 ht3 rfl (Nat.le_of_ble_eq_true rfl) ⟨Nat.le_of_ble_eq_true rfl, Nat.le_of_ble_eq_true rfl, (Nat.le_of_ble_eq_true rfl), (Nat.le_of_ble_eq_true rfl)⟩ dX12_path_25 xm_kx (xm_ki (fun r5 S4 h1 => ?_))
  refine x_if_eq (tgt := 48) C dX12_path_28 (by decide) (fun z9 => ?_) (fun z9 => ?_)
  · have h1 := h1.1 z9
    refine x_iconst (v := (0 : Int32)) C dX12_path_48 (by decide) ?_
    refine x_keep (L' := []) C [] rfl ?_
    exact kp_X12_path_49 h (0 : Int32) S4 C N hg  h1
  · have h1 := h1.2 z9
    refine x_aload_n C 0 dX12_path_31 rfl rfl ?_
    obtain ⟨ht6, h1⟩ := h1
    refine x_getf_r (n := h) C rfl ht6 fd_203 (by decide) dX12_path_32 ?_
    refine x_bipush (v := (nI 6)) C dX12_path_35 (by decide) ?_
    refine x_bipush (v := (nI 16)) C dX12_path_37 (by decide) ?_
    refine x_iload_n C 2 dX12_path_39 rfl rfl ?_
    refine x_imul C dX12_path_40 ?_
    refine x_iadd C dX12_path_41 ?_
    refine x_iload_n C 1 dX12_path_42 rfl rfl ?_
    refine x_iadd C dX12_path_43 ?_
    obtain ⟨n7, hr8, h1⟩ := h1
    obtain ⟨z10, ht9, h1⟩ := h1
    obtain ⟨hi11, h1⟩ := h1
    refine x_iald (n := n7) C hr8 ht9 hi11 dX12_path_44 ?_
    refine x_goto (tgt := 49) C dX12_path_45 (by decide) ?_
    refine x_keep (L' := []) C [] rfl ?_
    exact kp_X12_path_49 h (st_i S4 n7 ((((nI 6) + ((nI 16) * x2)) + x1)).toNatClampNeg) S4 C N hg  h1
def wp_X12_path_24 (h : Nat) (x1 : Int32) (x2 : Int32) (s0 : Option Nat) (S : xm_S) (g : Int32 → xm_S → Prop) : Prop :=
  wp_X12_path_25 h x1 x2 (1 : Int32) s0 S g
set_option maxRecDepth 100000 in
set_option maxHeartbeats 4000000 in
theorem kp_X12_path_24 {K : xm_K} (h : Nat) (x1 : Int32) (x2 : Int32) (s0 : Option Nat) (S : xm_S) {g : Int32 → xm_S → Prop} (C : xm_Cx K cX12_path RX12 3 (some (FieldType.int)) rm_X12_path) (N : xm_Nx K) (hg : ∀ v S, g v S → xm_q K (some (xm_i v)) S)  (h1 : wp_X12_path_24 h x1 x2 s0 S g) : xm_W K 0 0 24 [(0, xm_r (some h)), (1, xm_i x1), (2, xm_i x2)] [xm_r s0] S := by
  unfold wp_X12_path_24 at h1
  refine x_iconst (v := (1 : Int32)) C dX12_path_24 (by decide) ?_
  exact kp_X12_path_25 h x1 x2 (1 : Int32) s0 S C N hg  h1
def wp_X12_path (h : Nat) (x1 : Int32) (x2 : Int32) (S : xm_S) (g : Int32 → xm_S → Prop) : Prop :=
  wp_X12_in x1 (0 : Int32) (nI 15) S (fun r13 S12 => (r13 = 0 → wp_X12_path_24 h x1 x2 (some h) S12 g) ∧ (¬ r13 = 0 → wp_X12_in x2 (0 : Int32) (nI 2) S12 (fun r15 S14 => (r15 = 0 → wp_X12_path_24 h x1 x2 (some h) S14 g) ∧ (¬ r15 = 0 → wp_X12_path_25 h x1 x2 (0 : Int32) (some h) S14 g))))
set_option maxRecDepth 100000 in
set_option maxHeartbeats 4000000 in
theorem kp_X12_path {K : xm_K} (h : Nat) (x1 : Int32) (x2 : Int32) (S : xm_S) {g : Int32 → xm_S → Prop} (C : xm_Cx K cX12_path RX12 3 (some (FieldType.int)) rm_X12_path) (N : xm_Nx K) (hg : ∀ v S, g v S → xm_q K (some (xm_i v)) S)  (h1 : wp_X12_path h x1 x2 S g) : xm_W K 0 0 0 [(0, xm_r (some h)), (1, xm_i x1), (2, xm_i x2)] [] S := by
  unfold wp_X12_path at h1
  refine x_aload_n C 0 dX12_path_0 rfl rfl ?_
  refine x_iload_n C 1 dX12_path_1 rfl rfl ?_
  refine x_iconst (v := (0 : Int32)) C dX12_path_2 (by decide) ?_
  refine x_bipush (v := (nI 15)) C dX12_path_3 (by decide) ?_
  refine x_callS (rm' := rm_X12_in) C (kp_X12_in_met h1) lk_87 gw_533 rfl (Nat.le_of_ble_eq_true rfl) ⟨Nat.le_of_ble_eq_true rfl, Nat.le_of_ble_eq_true rfl, (Nat.le_of_ble_eq_true rfl), (Nat.le_of_ble_eq_true rfl)⟩ dX12_path_5 xm_kx (xm_ki (fun r13 S12 h1 => ?_))
  refine x_if_eq (tgt := 24) C dX12_path_8 (by decide) (fun z9 => ?_) (fun z9 => ?_)
  · have h1 := h1.1 z9
    exact kp_X12_path_24 h x1 x2 (some h) S12 C N hg  h1
  · have h1 := h1.2 z9
    refine x_iload_n C 2 dX12_path_11 rfl rfl ?_
    refine x_iconst (v := (0 : Int32)) C dX12_path_12 (by decide) ?_
    refine x_iconst (v := (nI 2)) C dX12_path_13 (by decide) ?_
    refine x_callS (rm' := rm_X12_in) C (kp_X12_in_met h1) lk_87 gw_533 rfl (Nat.le_of_ble_eq_true rfl) ⟨Nat.le_of_ble_eq_true rfl, Nat.le_of_ble_eq_true rfl, (Nat.le_of_ble_eq_true rfl), (Nat.le_of_ble_eq_true rfl)⟩ dX12_path_14 xm_kx (xm_ki (fun r15 S14 h1 => ?_))
    refine x_if_eq (tgt := 24) C dX12_path_17 (by decide) (fun z9 => ?_) (fun z9 => ?_)
    · have h1 := h1.1 z9
      exact kp_X12_path_24 h x1 x2 (some h) S14 C N hg  h1
    · have h1 := h1.2 z9
      refine x_iconst (v := (0 : Int32)) C dX12_path_20 (by decide) ?_
      refine x_goto (tgt := 25) C dX12_path_21 (by decide) ?_
      exact kp_X12_path_25 h x1 x2 (0 : Int32) (some h) S14 C N hg  h1
theorem kp_X12_path_met {h : Nat} {x1 : Int32} {x2 : Int32} {S : xm_S} {g : Int32 → xm_S → Prop}  (h1 : wp_X12_path h x1 x2 S g) : xm_Met yX12_path cX12_path 3 (some (FieldType.int)) rm_X12_path [xm_r (some h), xm_i x1, xm_i x2] S (xm_qi g) xm_nox :=
  xm_ofW RX12 (by decide +kernel) rfl (Nat.le_of_ble_eq_true rfl) (fun K C N hq hx hi => kp_X12_path h x1 x2 S C N (fun v S h => by rw [hq]; exact ⟨v, rfl, h⟩)  h1)
def rm_X12_placeKept : Room := { frames := 1, cells := 0, slots := 0, locals := 20 }
theorem dX12_placeKept_0 : decode cX12_placeKept 0 = .ok (.iconst (-1), 1) := by decide +kernel
theorem dX12_placeKept_1 : decode cX12_placeKept 1 = .ok (.istore_n 2, 1) := by decide +kernel
theorem dX12_placeKept_2 : decode cX12_placeKept 2 = .ok (.iconst 0, 1) := by decide +kernel
theorem dX12_placeKept_3 : decode cX12_placeKept 3 = .ok (.istore_n 3, 1) := by decide +kernel
theorem dX12_placeKept_4 : decode cX12_placeKept 4 = .ok (.iload_n 3, 1) := by decide +kernel
theorem dX12_placeKept_5 : decode cX12_placeKept 5 = .ok (.aload_n 0, 1) := by decide +kernel
theorem dX12_placeKept_6 : decode cX12_placeKept 6 = .ok (.getfield 340, 3) := by decide +kernel
theorem dX12_placeKept_9 : decode cX12_placeKept 9 = .ok (.if_icmp .ge 25, 3) := by decide +kernel
theorem dX12_placeKept_12 : decode cX12_placeKept 12 = .ok (.aload_n 0, 1) := by decide +kernel
theorem dX12_placeKept_13 : decode cX12_placeKept 13 = .ok (.getfield 157, 3) := by decide +kernel
theorem dX12_placeKept_16 : decode cX12_placeKept 16 = .ok (.iload_n 3, 1) := by decide +kernel
theorem dX12_placeKept_17 : decode cX12_placeKept 17 = .ok (.iaload, 1) := by decide +kernel
theorem dX12_placeKept_18 : decode cX12_placeKept 18 = .ok (.iload_n 1, 1) := by decide +kernel
theorem dX12_placeKept_19 : decode cX12_placeKept 19 = .ok (.if_icmp .ne 7, 3) := by decide +kernel
theorem dX12_placeKept_22 : decode cX12_placeKept 22 = .ok (.iload_n 3, 1) := by decide +kernel
theorem dX12_placeKept_23 : decode cX12_placeKept 23 = .ok (.goto 4, 3) := by decide +kernel
theorem dX12_placeKept_26 : decode cX12_placeKept 26 = .ok (.iload_n 2, 1) := by decide +kernel
theorem dX12_placeKept_27 : decode cX12_placeKept 27 = .ok (.istore_n 2, 1) := by decide +kernel
theorem dX12_placeKept_28 : decode cX12_placeKept 28 = .ok (.iinc 3 1, 3) := by decide +kernel
theorem dX12_placeKept_31 : decode cX12_placeKept 31 = .ok (.goto (-27), 3) := by decide +kernel
theorem dX12_placeKept_34 : decode cX12_placeKept 34 = .ok (.iload_n 2, 1) := by decide +kernel
theorem dX12_placeKept_35 : decode cX12_placeKept 35 = .ok (.ireturn, 1) := by decide +kernel
def wp_X12_placeKept_27 (h : Nat) (x1 : Int32) (x3 : Int32) (s0 : Int32) (S : xm_S) (g : Int32 → xm_S → Prop) (Z4 : Int32 → Int32 → Int32 → xm_S → Prop) : Prop :=
  ∀ y1, y1 = (x3 + (1 : Int32)) → Z4 x1 s0 y1 S
set_option maxRecDepth 100000 in
set_option maxHeartbeats 4000000 in
theorem kp_X12_placeKept_27 {K : xm_K} (h : Nat) (x1 : Int32) (x3 : Int32) (s0 : Int32) (S : xm_S) {g : Int32 → xm_S → Prop} {Z4 : Int32 → Int32 → Int32 → xm_S → Prop} (C : xm_Cx K cX12_placeKept RX12 4 (some (FieldType.int)) rm_X12_placeKept) (N : xm_Nx K) (hg : ∀ v S, g v S → xm_q K (some (xm_i v)) S) (hZ4 : ∀ x1 x2 x3 S, Z4 x1 x2 x3 S → xm_W K 0 0 4 [(0, xm_r (some h)), (1, xm_i x1), (2, xm_i x2), (3, xm_i x3)] [] S) (h1 : wp_X12_placeKept_27 h x1 x3 s0 S g Z4) : xm_W K 0 0 27 [(0, xm_r (some h)), (1, xm_i x1), (3, xm_i x3)] [xm_i s0] S := by
  unfold wp_X12_placeKept_27 at h1
  refine x_istore_n (L' := [(2, xm_i s0), (0, xm_r (some h)), (1, xm_i x1), (3, xm_i x3)]) C dX12_placeKept_27 rfl (by decide) rfl ?_
  obtain ⟨y1, e2⟩ : ∃ y1, y1 = (x3 + (1 : Int32)) := ⟨_, rfl⟩
  have h1 := h1 y1 e2
  refine x_iinc (v := y1) (L' := [(3, xm_i y1), (2, xm_i s0), (0, xm_r (some h)), (1, xm_i x1)]) C 3 dX12_placeKept_28 rfl (by rw [e2]; rfl) (by decide) rfl ?_
  refine x_goto (tgt := 4) C dX12_placeKept_31 (by decide) ?_
  refine x_keep (L' := [(0, xm_r (some h)), (1, xm_i x1), (2, xm_i s0), (3, xm_i y1)]) C [2, 3, 1, 0] rfl ?_
  exact hZ4 x1 s0 y1 S h1
def wp_X12_placeKept_4B (h : Nat) (x1 : Int32) (x2 : Int32) (x3 : Int32) (S : xm_S) (g : Int32 → xm_S → Prop) (Z4 : Int32 → Int32 → Int32 → xm_S → Prop) : Prop :=
  st_t S h = some (12, 0) ∧ ((st_i S h 56) ≤ x3 → g x2 S) ∧ (¬ (st_i S h 56) ≤ x3 → ∃ n4, (st_r S h 57) = some n4 ∧ ∃ z7, st_t S n4 = some (100, z7) ∧ vp_in x3 z7 ∧ (¬ (st_i S n4 (x3).toNatClampNeg) = x1 → wp_X12_placeKept_27 h x1 x3 x2 S g Z4) ∧ ((st_i S n4 (x3).toNatClampNeg) = x1 → wp_X12_placeKept_27 h x1 x3 x3 S g Z4))
def wp_X12_placeKept_4 (h : Nat) (x1 : Int32) (x2 : Int32) (x3 : Int32) (S : xm_S) (g : Int32 → xm_S → Prop) : Prop :=
  ∀ Z4 : Int32 → Int32 → Int32 → xm_S → Prop, (∀ x1 x2 x3 S, wp_X12_placeKept_4B h x1 x2 x3 S g Z4 → Z4 x1 x2 x3 S) → Z4 x1 x2 x3 S
set_option maxRecDepth 100000 in
set_option maxHeartbeats 4000000 in
theorem kp_X12_placeKept_4B {K : xm_K} (h : Nat) (x1 : Int32) (x2 : Int32) (x3 : Int32) (S : xm_S) {g : Int32 → xm_S → Prop} {Z4 : Int32 → Int32 → Int32 → xm_S → Prop} (C : xm_Cx K cX12_placeKept RX12 4 (some (FieldType.int)) rm_X12_placeKept) (N : xm_Nx K) (hg : ∀ v S, g v S → xm_q K (some (xm_i v)) S) (hZ4 : ∀ x1 x2 x3 S, Z4 x1 x2 x3 S → xm_W K 0 0 4 [(0, xm_r (some h)), (1, xm_i x1), (2, xm_i x2), (3, xm_i x3)] [] S) (h1 : wp_X12_placeKept_4B h x1 x2 x3 S g Z4) : xm_W K 0 0 4 [(0, xm_r (some h)), (1, xm_i x1), (2, xm_i x2), (3, xm_i x3)] [] S := by
  unfold wp_X12_placeKept_4B at h1
  refine x_iload_n C 3 dX12_placeKept_4 rfl rfl ?_
  refine x_aload_n C 0 dX12_placeKept_5 rfl rfl ?_
  obtain ⟨ht3, h1⟩ := h1
  refine x_getf_i (n := h) C rfl ht3 fd_197 (by decide) dX12_placeKept_6 ?_
  refine x_icmp_ge (tgt := 34) C dX12_placeKept_9 (by decide) (fun z9 => ?_) (fun z9 => ?_)
  · have h1 := h1.1 z9
    refine x_iload_n C 2 dX12_placeKept_34 rfl rfl ?_
    exact x_iret C (Nat.le_of_ble_eq_true rfl) (Nat.le_of_ble_eq_true rfl) rfl dX12_placeKept_35 (hg _ _ h1)
  · have h1 := h1.2 z9
    refine x_aload_n C 0 dX12_placeKept_12 rfl rfl ?_
    refine x_getf_r (n := h) C rfl ht3 fd_198 (by decide) dX12_placeKept_13 ?_
    refine x_iload_n C 3 dX12_placeKept_16 rfl rfl ?_
    obtain ⟨n4, hr5, h1⟩ := h1
    obtain ⟨z7, ht6, h1⟩ := h1
    obtain ⟨hi8, h1⟩ := h1
    refine x_iald (n := n4) C hr5 ht6 hi8 dX12_placeKept_17 ?_
    refine x_iload_n C 1 dX12_placeKept_18 rfl rfl ?_
    refine x_icmp_ne (tgt := 26) C dX12_placeKept_19 (by decide) (fun z9 => ?_) (fun z9 => ?_)
    · have h1 := h1.1 z9
      refine x_iload_n C 2 dX12_placeKept_26 rfl rfl ?_
      refine x_keep (L' := [(0, xm_r (some h)), (1, xm_i x1), (3, xm_i x3)]) C [0, 1, 3] rfl ?_
      exact kp_X12_placeKept_27 h x1 x3 x2 S C N hg hZ4 h1
    · have h1 := h1.2 z9
      refine x_iload_n C 3 dX12_placeKept_22 rfl rfl ?_
      refine x_goto (tgt := 27) C dX12_placeKept_23 (by decide) ?_
      refine x_keep (L' := [(0, xm_r (some h)), (1, xm_i x1), (3, xm_i x3)]) C [0, 1, 3] rfl ?_
      exact kp_X12_placeKept_27 h x1 x3 x3 S C N hg hZ4 h1
theorem kp_X12_placeKept_4 {K : xm_K} (h : Nat) (x1 : Int32) (x2 : Int32) (x3 : Int32) (S : xm_S) {g : Int32 → xm_S → Prop} (C : xm_Cx K cX12_placeKept RX12 4 (some (FieldType.int)) rm_X12_placeKept) (N : xm_Nx K) (hg : ∀ v S, g v S → xm_q K (some (xm_i v)) S)  (h1 : wp_X12_placeKept_4 h x1 x2 x3 S g) : xm_W K 0 0 4 [(0, xm_r (some h)), (1, xm_i x1), (2, xm_i x2), (3, xm_i x3)] [] S :=
  h1 (fun x1 x2 x3 S => xm_W K 0 0 4 [(0, xm_r (some h)), (1, xm_i x1), (2, xm_i x2), (3, xm_i x3)] [] S) (fun x1 x2 x3 S hb => kp_X12_placeKept_4B h x1 x2 x3 S C N hg (fun x1 x2 x3 S hz => hz) hb)
def wp_X12_placeKept (h : Nat) (x1 : Int32) (S : xm_S) (g : Int32 → xm_S → Prop) : Prop :=
  wp_X12_placeKept_4 h x1 (-1 : Int32) (0 : Int32) S g
set_option maxRecDepth 100000 in
set_option maxHeartbeats 4000000 in
theorem kp_X12_placeKept {K : xm_K} (h : Nat) (x1 : Int32) (S : xm_S) {g : Int32 → xm_S → Prop} (C : xm_Cx K cX12_placeKept RX12 4 (some (FieldType.int)) rm_X12_placeKept) (N : xm_Nx K) (hg : ∀ v S, g v S → xm_q K (some (xm_i v)) S)  (h1 : wp_X12_placeKept h x1 S g) : xm_W K 0 0 0 [(0, xm_r (some h)), (1, xm_i x1)] [] S := by
  unfold wp_X12_placeKept at h1
  refine x_iconst (v := (-1 : Int32)) C dX12_placeKept_0 (by decide) ?_
  refine x_istore_n (L' := [(2, xm_i (-1 : Int32)), (0, xm_r (some h)), (1, xm_i x1)]) C dX12_placeKept_1 rfl (by decide) rfl ?_
  refine x_iconst (v := (0 : Int32)) C dX12_placeKept_2 (by decide) ?_
  refine x_istore_n (L' := [(3, xm_i (0 : Int32)), (2, xm_i (-1 : Int32)), (0, xm_r (some h)), (1, xm_i x1)]) C dX12_placeKept_3 rfl (by decide) rfl ?_
  refine x_keep (L' := [(0, xm_r (some h)), (1, xm_i x1), (2, xm_i (-1 : Int32)), (3, xm_i (0 : Int32))]) C [2, 3, 1, 0] rfl ?_
  exact kp_X12_placeKept_4 h x1 (-1 : Int32) (0 : Int32) S C N hg  h1
theorem kp_X12_placeKept_met {h : Nat} {x1 : Int32} {S : xm_S} {g : Int32 → xm_S → Prop}  (h1 : wp_X12_placeKept h x1 S g) : xm_Met yX12_placeKept cX12_placeKept 4 (some (FieldType.int)) rm_X12_placeKept [xm_r (some h), xm_i x1] S (xm_qi g) xm_nox :=
  xm_ofW RX12 (by decide +kernel) rfl (Nat.le_of_ble_eq_true rfl) (fun K C N hq hx hi => kp_X12_placeKept h x1 S C N (fun v S h => by rw [hq]; exact ⟨v, rfl, h⟩)  h1)
def rm_X12_policy : Room := { frames := 2, cells := 0, slots := 0, locals := 42 }
theorem dX12_policy_0 : decode cX12_policy 0 = .ok (.aload_n 0, 1) := by decide +kernel
theorem dX12_policy_1 : decode cX12_policy 1 = .ok (.iload_n 1, 1) := by decide +kernel
theorem dX12_policy_2 : decode cX12_policy 2 = .ok (.iconst 0, 1) := by decide +kernel
theorem dX12_policy_3 : decode cX12_policy 3 = .ok (.bipush 15, 2) := by decide +kernel
theorem dX12_policy_5 : decode cX12_policy 5 = .ok (.invokestatic 172, 3) := by decide +kernel
theorem dX12_policy_8 : decode cX12_policy 8 = .ok (.ifCond .eq 7, 3) := by decide +kernel
theorem dX12_policy_11 : decode cX12_policy 11 = .ok (.iconst 0, 1) := by decide +kernel
theorem dX12_policy_12 : decode cX12_policy 12 = .ok (.goto 4, 3) := by decide +kernel
theorem dX12_policy_15 : decode cX12_policy 15 = .ok (.iconst 1, 1) := by decide +kernel
theorem dX12_policy_16 : decode cX12_policy 16 = .ok (.invokevirtual 182, 3) := by decide +kernel
theorem dX12_policy_19 : decode cX12_policy 19 = .ok (.ifCond .ne 5, 3) := by decide +kernel
theorem dX12_policy_22 : decode cX12_policy 22 = .ok (.iconst 0, 1) := by decide +kernel
theorem dX12_policy_23 : decode cX12_policy 23 = .ok (.ireturn, 1) := by decide +kernel
theorem dX12_policy_24 : decode cX12_policy 24 = .ok (.aload_n 0, 1) := by decide +kernel
theorem dX12_policy_25 : decode cX12_policy 25 = .ok (.getfield 80, 3) := by decide +kernel
theorem dX12_policy_28 : decode cX12_policy 28 = .ok (.istore_n 2, 1) := by decide +kernel
theorem dX12_policy_29 : decode cX12_policy 29 = .ok (.aload_n 0, 1) := by decide +kernel
theorem dX12_policy_30 : decode cX12_policy 30 = .ok (.iload_n 1, 1) := by decide +kernel
theorem dX12_policy_31 : decode cX12_policy 31 = .ok (.putfield 80, 3) := by decide +kernel
theorem dX12_policy_34 : decode cX12_policy 34 = .ok (.iload_n 2, 1) := by decide +kernel
theorem dX12_policy_35 : decode cX12_policy 35 = .ok (.ireturn, 1) := by decide +kernel
def wp_X12_policy_16 (h : Nat) (x1 : Int32) (s0 : Int32) (s1 : Option Nat) (S : xm_S) (g : Int32 → xm_S → Prop) : Prop :=
  ∃ n1, s1 = some n1 ∧ st_t S n1 = some (12, 0) ∧ wp_X12_may n1 s0 S (fun r5 S4 => (¬ r5 = 0 → st_t S4 h = some (12, 0) ∧ ∀ S7, S7 = st_pi S4 h 26 x1 → g (st_i S4 h 26) S7) ∧ (r5 = 0 → g (0 : Int32) S4))
set_option maxRecDepth 100000 in
set_option maxHeartbeats 4000000 in
theorem kp_X12_policy_16 {K : xm_K} (h : Nat) (x1 : Int32) (s0 : Int32) (s1 : Option Nat) (S : xm_S) {g : Int32 → xm_S → Prop} (C : xm_Cx K cX12_policy RX12 3 (some (FieldType.int)) rm_X12_policy) (N : xm_Nx K) (hg : ∀ v S, g v S → xm_q K (some (xm_i v)) S)  (h1 : wp_X12_policy_16 h x1 s0 s1 S g) : xm_W K 0 0 16 [(0, xm_r (some h)), (1, xm_i x1)] [xm_i s0, xm_r s1] S := by
  unfold wp_X12_policy_16 at h1
  obtain ⟨n1, hr2, h1⟩ := h1
  obtain ⟨ht3, h1⟩ := h1
  refine x_callV (rm' := rm_X12_may) (n := n1) C (kp_X12_may_met h1) lk_95 gw_572 gw_573 xv_12 rfl hr2 ht3 rfl (Nat.le_of_ble_eq_true rfl) ⟨Nat.le_of_ble_eq_true rfl, Nat.le_of_ble_eq_true rfl, (Nat.le_of_ble_eq_true rfl), (Nat.le_of_ble_eq_true rfl)⟩ dX12_policy_16 xm_kx (xm_ki (fun r5 S4 h1 => ?_))
  refine x_if_ne (tgt := 24) C dX12_policy_19 (by decide) (fun z9 => ?_) (fun z9 => ?_)
  · have h1 := h1.1 z9
    refine x_aload_n C 0 dX12_policy_24 rfl rfl ?_
    obtain ⟨ht6, h1⟩ := h1
    refine x_getf_i (n := h) C rfl ht6 fd_190 (by decide) dX12_policy_25 ?_
    refine x_istore_n (L' := [(2, xm_i (st_i S4 h 26)), (0, xm_r (some h)), (1, xm_i x1)]) C dX12_policy_28 rfl (by decide) rfl ?_
    refine x_aload_n C 1 dX12_policy_29 rfl rfl ?_
    refine x_iload_n C 2 dX12_policy_30 rfl rfl ?_
    refine x_putf_i (n := h) C rfl ht6 fd_190 xc_12 (by decide) rfl ⟨rfl, rfl⟩ dX12_policy_31 ?_
    refine x_topS (fun S7 e8 => ?_)
    have h1 := h1 S7 e8
    refine x_iload_n C 0 dX12_policy_34 rfl rfl ?_
    exact x_iret C (Nat.le_of_ble_eq_true rfl) (Nat.le_of_ble_eq_true rfl) rfl dX12_policy_35 (hg _ _ h1)
  · have h1 := h1.2 z9
    refine x_iconst (v := (0 : Int32)) C dX12_policy_22 (by decide) ?_
    exact x_iret C (Nat.le_of_ble_eq_true rfl) (Nat.le_of_ble_eq_true rfl) rfl dX12_policy_23 (hg _ _ h1)
def wp_X12_policy (h : Nat) (x1 : Int32) (S : xm_S) (g : Int32 → xm_S → Prop) : Prop :=
  wp_X12_in x1 (0 : Int32) (nI 15) S (fun r10 S9 => (r10 = 0 → wp_X12_policy_16 h x1 (1 : Int32) (some h) S9 g) ∧ (¬ r10 = 0 → wp_X12_policy_16 h x1 (0 : Int32) (some h) S9 g))
set_option maxRecDepth 100000 in
set_option maxHeartbeats 4000000 in
theorem kp_X12_policy {K : xm_K} (h : Nat) (x1 : Int32) (S : xm_S) {g : Int32 → xm_S → Prop} (C : xm_Cx K cX12_policy RX12 3 (some (FieldType.int)) rm_X12_policy) (N : xm_Nx K) (hg : ∀ v S, g v S → xm_q K (some (xm_i v)) S)  (h1 : wp_X12_policy h x1 S g) : xm_W K 0 0 0 [(0, xm_r (some h)), (1, xm_i x1)] [] S := by
  unfold wp_X12_policy at h1
  refine x_aload_n C 0 dX12_policy_0 rfl rfl ?_
  refine x_iload_n C 1 dX12_policy_1 rfl rfl ?_
  refine x_iconst (v := (0 : Int32)) C dX12_policy_2 (by decide) ?_
  refine x_bipush (v := (nI 15)) C dX12_policy_3 (by decide) ?_
  refine x_callS (rm' := rm_X12_in) C (kp_X12_in_met h1) lk_87 gw_533 rfl (Nat.le_of_ble_eq_true rfl) ⟨Nat.le_of_ble_eq_true rfl, Nat.le_of_ble_eq_true rfl, (Nat.le_of_ble_eq_true rfl), (Nat.le_of_ble_eq_true rfl)⟩ dX12_policy_5 xm_kx (xm_ki (fun r10 S9 h1 => ?_))
  refine x_if_eq (tgt := 15) C dX12_policy_8 (by decide) (fun z9 => ?_) (fun z9 => ?_)
  · have h1 := h1.1 z9
    refine x_iconst (v := (1 : Int32)) C dX12_policy_15 (by decide) ?_
    exact kp_X12_policy_16 h x1 (1 : Int32) (some h) S9 C N hg  h1
  · have h1 := h1.2 z9
    refine x_iconst (v := (0 : Int32)) C dX12_policy_11 (by decide) ?_
    refine x_goto (tgt := 16) C dX12_policy_12 (by decide) ?_
    exact kp_X12_policy_16 h x1 (0 : Int32) (some h) S9 C N hg  h1
theorem kp_X12_policy_met {h : Nat} {x1 : Int32} {S : xm_S} {g : Int32 → xm_S → Prop}  (h1 : wp_X12_policy h x1 S g) : xm_Met yX12_policy cX12_policy 3 (some (FieldType.int)) rm_X12_policy [xm_r (some h), xm_i x1] S (xm_qi g) xm_nox :=
  xm_ofW RX12 (by decide +kernel) rfl (Nat.le_of_ble_eq_true rfl) (fun K C N hq hx hi => kp_X12_policy h x1 S C N (fun v S h => by rw [hq]; exact ⟨v, rfl, h⟩)  h1)
def rm_X12_proposed : Room := { frames := 3, cells := 0, slots := 0, locals := 62 }
theorem dX12_proposed_0 : decode cX12_proposed 0 = .ok (.aload_n 0, 1) := by decide +kernel
theorem dX12_proposed_1 : decode cX12_proposed 1 = .ok (.iload_n 1, 1) := by decide +kernel
theorem dX12_proposed_2 : decode cX12_proposed 2 = .ok (.invokestatic 302, 3) := by decide +kernel
theorem dX12_proposed_5 : decode cX12_proposed 5 = .ok (.ifCond .eq 14, 3) := by decide +kernel
theorem dX12_proposed_8 : decode cX12_proposed 8 = .ok (.iload_n 2, 1) := by decide +kernel
theorem dX12_proposed_9 : decode cX12_proposed 9 = .ok (.invokestatic 176, 3) := by decide +kernel
theorem dX12_proposed_12 : decode cX12_proposed 12 = .ok (.ifCond .eq 7, 3) := by decide +kernel
theorem dX12_proposed_15 : decode cX12_proposed 15 = .ok (.iconst 0, 1) := by decide +kernel
theorem dX12_proposed_16 : decode cX12_proposed 16 = .ok (.goto 4, 3) := by decide +kernel
theorem dX12_proposed_19 : decode cX12_proposed 19 = .ok (.iconst 1, 1) := by decide +kernel
theorem dX12_proposed_20 : decode cX12_proposed 20 = .ok (.invokevirtual 182, 3) := by decide +kernel
theorem dX12_proposed_23 : decode cX12_proposed 23 = .ok (.ifCond .eq 17, 3) := by decide +kernel
theorem dX12_proposed_26 : decode cX12_proposed 26 = .ok (.aload_n 0, 1) := by decide +kernel
theorem dX12_proposed_27 : decode cX12_proposed 27 = .ok (.getfield 84, 3) := by decide +kernel
theorem dX12_proposed_30 : decode cX12_proposed 30 = .ok (.bipush 6, 2) := by decide +kernel
theorem dX12_proposed_32 : decode cX12_proposed 32 = .ok (.iload_n 1, 1) := by decide +kernel
theorem dX12_proposed_33 : decode cX12_proposed 33 = .ok (.imul, 1) := by decide +kernel
theorem dX12_proposed_34 : decode cX12_proposed 34 = .ok (.iload_n 2, 1) := by decide +kernel
theorem dX12_proposed_35 : decode cX12_proposed 35 = .ok (.iadd, 1) := by decide +kernel
theorem dX12_proposed_36 : decode cX12_proposed 36 = .ok (.iaload, 1) := by decide +kernel
theorem dX12_proposed_37 : decode cX12_proposed 37 = .ok (.goto 4, 3) := by decide +kernel
theorem dX12_proposed_40 : decode cX12_proposed 40 = .ok (.iconst 0, 1) := by decide +kernel
theorem dX12_proposed_41 : decode cX12_proposed 41 = .ok (.ireturn, 1) := by decide +kernel
def wp_X12_proposed_41 (h : Nat) (s0 : Int32) (S : xm_S) (g : Int32 → xm_S → Prop) : Prop :=
  g s0 S
set_option maxRecDepth 100000 in
set_option maxHeartbeats 4000000 in
theorem kp_X12_proposed_41 {K : xm_K} (h : Nat) (s0 : Int32) (S : xm_S) {g : Int32 → xm_S → Prop} (C : xm_Cx K cX12_proposed RX12 3 (some (FieldType.int)) rm_X12_proposed) (N : xm_Nx K) (hg : ∀ v S, g v S → xm_q K (some (xm_i v)) S)  (h1 : wp_X12_proposed_41 h s0 S g) : xm_W K 0 0 41 [] [xm_i s0] S := by
  unfold wp_X12_proposed_41 at h1
  exact x_iret C (Nat.le_of_ble_eq_true rfl) (Nat.le_of_ble_eq_true rfl) rfl dX12_proposed_41 (hg _ _ h1)
def wp_X12_proposed_20 (h : Nat) (x1 : Int32) (x2 : Int32) (s0 : Int32) (s1 : Option Nat) (S : xm_S) (g : Int32 → xm_S → Prop) : Prop :=
  ∃ n1, s1 = some n1 ∧ st_t S n1 = some (12, 0) ∧ wp_X12_may n1 s0 S (fun r5 S4 => (r5 = 0 → wp_X12_proposed_41 h (0 : Int32) S4 g) ∧ (¬ r5 = 0 → st_t S4 h = some (12, 0) ∧ ∃ n7, (st_r S4 h 27) = some n7 ∧ ∃ z10, st_t S4 n7 = some (100, z10) ∧ vp_in (((nI 6) * x1) + x2) z10 ∧ wp_X12_proposed_41 h (st_i S4 n7 ((((nI 6) * x1) + x2)).toNatClampNeg) S4 g))
set_option maxRecDepth 100000 in
set_option maxHeartbeats 4000000 in
theorem kp_X12_proposed_20 {K : xm_K} (h : Nat) (x1 : Int32) (x2 : Int32) (s0 : Int32) (s1 : Option Nat) (S : xm_S) {g : Int32 → xm_S → Prop} (C : xm_Cx K cX12_proposed RX12 3 (some (FieldType.int)) rm_X12_proposed) (N : xm_Nx K) (hg : ∀ v S, g v S → xm_q K (some (xm_i v)) S)  (h1 : wp_X12_proposed_20 h x1 x2 s0 s1 S g) : xm_W K 0 0 20 [(0, xm_r (some h)), (1, xm_i x1), (2, xm_i x2)] [xm_i s0, xm_r s1] S := by
  unfold wp_X12_proposed_20 at h1
  obtain ⟨n1, hr2, h1⟩ := h1
  obtain ⟨ht3, h1⟩ := h1
  refine x_callV (rm' := rm_X12_may) (n := n1) C (kp_X12_may_met h1) lk_95 gw_572 gw_573 xv_12 rfl hr2 ht3 rfl (Nat.le_of_ble_eq_true rfl) ⟨Nat.le_of_ble_eq_true rfl, Nat.le_of_ble_eq_true rfl, (Nat.le_of_ble_eq_true rfl), (Nat.le_of_ble_eq_true rfl)⟩ dX12_proposed_20 xm_kx (xm_ki (fun r5 S4 h1 => ?_))
  refine x_if_eq (tgt := 40) C dX12_proposed_23 (by decide) (fun z9 => ?_) (fun z9 => ?_)
  · have h1 := h1.1 z9
    refine x_iconst (v := (0 : Int32)) C dX12_proposed_40 (by decide) ?_
    refine x_keep (L' := []) C [] rfl ?_
    exact kp_X12_proposed_41 h (0 : Int32) S4 C N hg  h1
  · have h1 := h1.2 z9
    refine x_aload_n C 0 dX12_proposed_26 rfl rfl ?_
    obtain ⟨ht6, h1⟩ := h1
    refine x_getf_r (n := h) C rfl ht6 fd_217 (by decide) dX12_proposed_27 ?_
    refine x_bipush (v := (nI 6)) C dX12_proposed_30 (by decide) ?_
    refine x_iload_n C 1 dX12_proposed_32 rfl rfl ?_
    refine x_imul C dX12_proposed_33 ?_
    refine x_iload_n C 2 dX12_proposed_34 rfl rfl ?_
    refine x_iadd C dX12_proposed_35 ?_
    obtain ⟨n7, hr8, h1⟩ := h1
    obtain ⟨z10, ht9, h1⟩ := h1
    obtain ⟨hi11, h1⟩ := h1
    refine x_iald (n := n7) C hr8 ht9 hi11 dX12_proposed_36 ?_
    refine x_goto (tgt := 41) C dX12_proposed_37 (by decide) ?_
    refine x_keep (L' := []) C [] rfl ?_
    exact kp_X12_proposed_41 h (st_i S4 n7 ((((nI 6) * x1) + x2)).toNatClampNeg) S4 C N hg  h1
def wp_X12_proposed_19 (h : Nat) (x1 : Int32) (x2 : Int32) (s0 : Option Nat) (S : xm_S) (g : Int32 → xm_S → Prop) : Prop :=
  wp_X12_proposed_20 h x1 x2 (1 : Int32) s0 S g
set_option maxRecDepth 100000 in
set_option maxHeartbeats 4000000 in
theorem kp_X12_proposed_19 {K : xm_K} (h : Nat) (x1 : Int32) (x2 : Int32) (s0 : Option Nat) (S : xm_S) {g : Int32 → xm_S → Prop} (C : xm_Cx K cX12_proposed RX12 3 (some (FieldType.int)) rm_X12_proposed) (N : xm_Nx K) (hg : ∀ v S, g v S → xm_q K (some (xm_i v)) S)  (h1 : wp_X12_proposed_19 h x1 x2 s0 S g) : xm_W K 0 0 19 [(0, xm_r (some h)), (1, xm_i x1), (2, xm_i x2)] [xm_r s0] S := by
  unfold wp_X12_proposed_19 at h1
  refine x_iconst (v := (1 : Int32)) C dX12_proposed_19 (by decide) ?_
  exact kp_X12_proposed_20 h x1 x2 (1 : Int32) s0 S C N hg  h1
def wp_X12_proposed (h : Nat) (x1 : Int32) (x2 : Int32) (S : xm_S) (g : Int32 → xm_S → Prop) : Prop :=
  wp_X12_isPlatform x1 S (fun r13 S12 => (r13 = 0 → wp_X12_proposed_19 h x1 x2 (some h) S12 g) ∧ (¬ r13 = 0 → wp_X12_isPack x2 S12 (fun r15 S14 => (r15 = 0 → wp_X12_proposed_19 h x1 x2 (some h) S14 g) ∧ (¬ r15 = 0 → wp_X12_proposed_20 h x1 x2 (0 : Int32) (some h) S14 g))))
set_option maxRecDepth 100000 in
set_option maxHeartbeats 4000000 in
theorem kp_X12_proposed {K : xm_K} (h : Nat) (x1 : Int32) (x2 : Int32) (S : xm_S) {g : Int32 → xm_S → Prop} (C : xm_Cx K cX12_proposed RX12 3 (some (FieldType.int)) rm_X12_proposed) (N : xm_Nx K) (hg : ∀ v S, g v S → xm_q K (some (xm_i v)) S)  (h1 : wp_X12_proposed h x1 x2 S g) : xm_W K 0 0 0 [(0, xm_r (some h)), (1, xm_i x1), (2, xm_i x2)] [] S := by
  unfold wp_X12_proposed at h1
  refine x_aload_n C 0 dX12_proposed_0 rfl rfl ?_
  refine x_iload_n C 1 dX12_proposed_1 rfl rfl ?_
  refine x_callS (rm' := rm_X12_isPlatform) C (kp_X12_isPlatform_met h1) lk_104 gw_611 rfl (Nat.le_of_ble_eq_true rfl) ⟨Nat.le_of_ble_eq_true rfl, Nat.le_of_ble_eq_true rfl, (Nat.le_of_ble_eq_true rfl), (Nat.le_of_ble_eq_true rfl)⟩ dX12_proposed_2 xm_kx (xm_ki (fun r13 S12 h1 => ?_))
  refine x_if_eq (tgt := 19) C dX12_proposed_5 (by decide) (fun z9 => ?_) (fun z9 => ?_)
  · have h1 := h1.1 z9
    exact kp_X12_proposed_19 h x1 x2 (some h) S12 C N hg  h1
  · have h1 := h1.2 z9
    refine x_iload_n C 2 dX12_proposed_8 rfl rfl ?_
    refine x_callS (rm' := rm_X12_isPack) C (kp_X12_isPack_met h1) lk_97 gw_583 rfl (Nat.le_of_ble_eq_true rfl) ⟨Nat.le_of_ble_eq_true rfl, Nat.le_of_ble_eq_true rfl, (Nat.le_of_ble_eq_true rfl), (Nat.le_of_ble_eq_true rfl)⟩ dX12_proposed_9 xm_kx (xm_ki (fun r15 S14 h1 => ?_))
    refine x_if_eq (tgt := 19) C dX12_proposed_12 (by decide) (fun z9 => ?_) (fun z9 => ?_)
    · have h1 := h1.1 z9
      exact kp_X12_proposed_19 h x1 x2 (some h) S14 C N hg  h1
    · have h1 := h1.2 z9
      refine x_iconst (v := (0 : Int32)) C dX12_proposed_15 (by decide) ?_
      refine x_goto (tgt := 20) C dX12_proposed_16 (by decide) ?_
      exact kp_X12_proposed_20 h x1 x2 (0 : Int32) (some h) S14 C N hg  h1
theorem kp_X12_proposed_met {h : Nat} {x1 : Int32} {x2 : Int32} {S : xm_S} {g : Int32 → xm_S → Prop}  (h1 : wp_X12_proposed h x1 x2 S g) : xm_Met yX12_proposed cX12_proposed 3 (some (FieldType.int)) rm_X12_proposed [xm_r (some h), xm_i x1, xm_i x2] S (xm_qi g) xm_nox :=
  xm_ofW RX12 (by decide +kernel) rfl (Nat.le_of_ble_eq_true rfl) (fun K C N hq hx hi => kp_X12_proposed h x1 x2 S C N (fun v S h => by rw [hq]; exact ⟨v, rfl, h⟩)  h1)
def rm_X12_provide : Room := { frames := 4, cells := 0, slots := 0, locals := 84 }
theorem dX12_provide_0 : decode cX12_provide 0 = .ok (.aload_n 0, 1) := by decide +kernel
theorem dX12_provide_1 : decode cX12_provide 1 = .ok (.iload_n 1, 1) := by decide +kernel
theorem dX12_provide_2 : decode cX12_provide 2 = .ok (.iload_n 2, 1) := by decide +kernel
theorem dX12_provide_3 : decode cX12_provide 3 = .ok (.invokevirtual 237, 3) := by decide +kernel
theorem dX12_provide_6 : decode cX12_provide 6 = .ok (.ifCond .eq 14, 3) := by decide +kernel
theorem dX12_provide_9 : decode cX12_provide 9 = .ok (.iload_n 3, 1) := by decide +kernel
theorem dX12_provide_10 : decode cX12_provide 10 = .ok (.invokestatic 176, 3) := by decide +kernel
theorem dX12_provide_13 : decode cX12_provide 13 = .ok (.ifCond .eq 7, 3) := by decide +kernel
theorem dX12_provide_16 : decode cX12_provide 16 = .ok (.iconst 1, 1) := by decide +kernel
theorem dX12_provide_17 : decode cX12_provide 17 = .ok (.goto 4, 3) := by decide +kernel
theorem dX12_provide_20 : decode cX12_provide 20 = .ok (.iconst 0, 1) := by decide +kernel
theorem dX12_provide_21 : decode cX12_provide 21 = .ok (.istore 5, 2) := by decide +kernel
theorem dX12_provide_23 : decode cX12_provide 23 = .ok (.iload 5, 2) := by decide +kernel
theorem dX12_provide_25 : decode cX12_provide 25 = .ok (.ifCond .eq 23, 3) := by decide +kernel
theorem dX12_provide_28 : decode cX12_provide 28 = .ok (.iload_n 3, 1) := by decide +kernel
theorem dX12_provide_29 : decode cX12_provide 29 = .ok (.iload_n 1, 1) := by decide +kernel
theorem dX12_provide_30 : decode cX12_provide 30 = .ok (.if_icmp .eq 18, 3) := by decide +kernel
theorem dX12_provide_33 : decode cX12_provide 33 = .ok (.iload 4, 2) := by decide +kernel
theorem dX12_provide_35 : decode cX12_provide 35 = .ok (.iconst 0, 1) := by decide +kernel
theorem dX12_provide_36 : decode cX12_provide 36 = .ok (.ldc 236, 2) := by decide +kernel
theorem dX12_provide_38 : decode cX12_provide 38 = .ok (.invokestatic 172, 3) := by decide +kernel
theorem dX12_provide_41 : decode cX12_provide 41 = .ok (.ifCond .eq 7, 3) := by decide +kernel
theorem dX12_provide_44 : decode cX12_provide 44 = .ok (.iconst 1, 1) := by decide +kernel
theorem dX12_provide_45 : decode cX12_provide 45 = .ok (.goto 4, 3) := by decide +kernel
theorem dX12_provide_48 : decode cX12_provide 48 = .ok (.iconst 0, 1) := by decide +kernel
theorem dX12_provide_49 : decode cX12_provide 49 = .ok (.istore 6, 2) := by decide +kernel
theorem dX12_provide_51 : decode cX12_provide 51 = .ok (.iload 5, 2) := by decide +kernel
theorem dX12_provide_53 : decode cX12_provide 53 = .ok (.ifCond .eq 11, 3) := by decide +kernel
theorem dX12_provide_56 : decode cX12_provide 56 = .ok (.iconst 4, 1) := by decide +kernel
theorem dX12_provide_57 : decode cX12_provide 57 = .ok (.iload_n 1, 1) := by decide +kernel
theorem dX12_provide_58 : decode cX12_provide 58 = .ok (.imul, 1) := by decide +kernel
theorem dX12_provide_59 : decode cX12_provide 59 = .ok (.iload_n 2, 1) := by decide +kernel
theorem dX12_provide_60 : decode cX12_provide 60 = .ok (.iadd, 1) := by decide +kernel
theorem dX12_provide_61 : decode cX12_provide 61 = .ok (.goto 4, 3) := by decide +kernel
theorem dX12_provide_64 : decode cX12_provide 64 = .ok (.iconst 0, 1) := by decide +kernel
theorem dX12_provide_65 : decode cX12_provide 65 = .ok (.istore 7, 2) := by decide +kernel
theorem dX12_provide_67 : decode cX12_provide 67 = .ok (.aload_n 0, 1) := by decide +kernel
theorem dX12_provide_68 : decode cX12_provide 68 = .ok (.iload 5, 2) := by decide +kernel
theorem dX12_provide_70 : decode cX12_provide 70 = .ok (.ifCond .ne 7, 3) := by decide +kernel
theorem dX12_provide_73 : decode cX12_provide 73 = .ok (.iconst 1, 1) := by decide +kernel
theorem dX12_provide_74 : decode cX12_provide 74 = .ok (.goto 28, 3) := by decide +kernel
theorem dX12_provide_77 : decode cX12_provide 77 = .ok (.iload 6, 2) := by decide +kernel
theorem dX12_provide_79 : decode cX12_provide 79 = .ok (.ifCond .ne 7, 3) := by decide +kernel
theorem dX12_provide_82 : decode cX12_provide 82 = .ok (.iconst 2, 1) := by decide +kernel
theorem dX12_provide_83 : decode cX12_provide 83 = .ok (.goto 19, 3) := by decide +kernel
theorem dX12_provide_86 : decode cX12_provide 86 = .ok (.aload_n 0, 1) := by decide +kernel
theorem dX12_provide_87 : decode cX12_provide 87 = .ok (.getfield 53, 3) := by decide +kernel
theorem dX12_provide_90 : decode cX12_provide 90 = .ok (.iload 7, 2) := by decide +kernel
theorem dX12_provide_92 : decode cX12_provide 92 = .ok (.iaload, 1) := by decide +kernel
theorem dX12_provide_93 : decode cX12_provide 93 = .ok (.iconst 2, 1) := by decide +kernel
theorem dX12_provide_94 : decode cX12_provide 94 = .ok (.if_icmp .ne 7, 3) := by decide +kernel
theorem dX12_provide_97 : decode cX12_provide 97 = .ok (.iconst 3, 1) := by decide +kernel
theorem dX12_provide_98 : decode cX12_provide 98 = .ok (.goto 4, 3) := by decide +kernel
theorem dX12_provide_101 : decode cX12_provide 101 = .ok (.iconst 0, 1) := by decide +kernel
theorem dX12_provide_102 : decode cX12_provide 102 = .ok (.invokevirtual 182, 3) := by decide +kernel
theorem dX12_provide_105 : decode cX12_provide 105 = .ok (.ifCond .ne 5, 3) := by decide +kernel
theorem dX12_provide_108 : decode cX12_provide 108 = .ok (.iconst 0, 1) := by decide +kernel
theorem dX12_provide_109 : decode cX12_provide 109 = .ok (.ireturn, 1) := by decide +kernel
theorem dX12_provide_110 : decode cX12_provide 110 = .ok (.aload_n 0, 1) := by decide +kernel
theorem dX12_provide_111 : decode cX12_provide 111 = .ok (.getfield 56, 3) := by decide +kernel
theorem dX12_provide_114 : decode cX12_provide 114 = .ok (.iconst 2, 1) := by decide +kernel
theorem dX12_provide_115 : decode cX12_provide 115 = .ok (.iload 7, 2) := by decide +kernel
theorem dX12_provide_117 : decode cX12_provide 117 = .ok (.imul, 1) := by decide +kernel
theorem dX12_provide_118 : decode cX12_provide 118 = .ok (.aload_n 0, 1) := by decide +kernel
theorem dX12_provide_119 : decode cX12_provide 119 = .ok (.getfield 53, 3) := by decide +kernel
theorem dX12_provide_122 : decode cX12_provide 122 = .ok (.iload 7, 2) := by decide +kernel
theorem dX12_provide_124 : decode cX12_provide 124 = .ok (.iaload, 1) := by decide +kernel
theorem dX12_provide_125 : decode cX12_provide 125 = .ok (.iadd, 1) := by decide +kernel
theorem dX12_provide_126 : decode cX12_provide 126 = .ok (.iload_n 3, 1) := by decide +kernel
theorem dX12_provide_127 : decode cX12_provide 127 = .ok (.iastore, 1) := by decide +kernel
theorem dX12_provide_128 : decode cX12_provide 128 = .ok (.aload_n 0, 1) := by decide +kernel
theorem dX12_provide_129 : decode cX12_provide 129 = .ok (.getfield 59, 3) := by decide +kernel
theorem dX12_provide_132 : decode cX12_provide 132 = .ok (.iconst 2, 1) := by decide +kernel
theorem dX12_provide_133 : decode cX12_provide 133 = .ok (.iload 7, 2) := by decide +kernel
theorem dX12_provide_135 : decode cX12_provide 135 = .ok (.imul, 1) := by decide +kernel
theorem dX12_provide_136 : decode cX12_provide 136 = .ok (.aload_n 0, 1) := by decide +kernel
theorem dX12_provide_137 : decode cX12_provide 137 = .ok (.getfield 53, 3) := by decide +kernel
theorem dX12_provide_140 : decode cX12_provide 140 = .ok (.iload 7, 2) := by decide +kernel
theorem dX12_provide_142 : decode cX12_provide 142 = .ok (.iaload, 1) := by decide +kernel
theorem dX12_provide_143 : decode cX12_provide 143 = .ok (.iadd, 1) := by decide +kernel
theorem dX12_provide_144 : decode cX12_provide 144 = .ok (.iload 4, 2) := by decide +kernel
theorem dX12_provide_146 : decode cX12_provide 146 = .ok (.iastore, 1) := by decide +kernel
theorem dX12_provide_147 : decode cX12_provide 147 = .ok (.aload_n 0, 1) := by decide +kernel
theorem dX12_provide_148 : decode cX12_provide 148 = .ok (.getfield 53, 3) := by decide +kernel
theorem dX12_provide_151 : decode cX12_provide 151 = .ok (.iload 7, 2) := by decide +kernel
theorem dX12_provide_153 : decode cX12_provide 153 = .ok (.dup2, 1) := by decide +kernel
theorem dX12_provide_154 : decode cX12_provide 154 = .ok (.iaload, 1) := by decide +kernel
theorem dX12_provide_155 : decode cX12_provide 155 = .ok (.iconst 1, 1) := by decide +kernel
theorem dX12_provide_156 : decode cX12_provide 156 = .ok (.iadd, 1) := by decide +kernel
theorem dX12_provide_157 : decode cX12_provide 157 = .ok (.iastore, 1) := by decide +kernel
theorem dX12_provide_158 : decode cX12_provide 158 = .ok (.aload_n 0, 1) := by decide +kernel
theorem dX12_provide_159 : decode cX12_provide 159 = .ok (.getfield 53, 3) := by decide +kernel
theorem dX12_provide_162 : decode cX12_provide 162 = .ok (.iload 7, 2) := by decide +kernel
theorem dX12_provide_164 : decode cX12_provide 164 = .ok (.iaload, 1) := by decide +kernel
theorem dX12_provide_165 : decode cX12_provide 165 = .ok (.ireturn, 1) := by decide +kernel
def wp_X12_provide_102 (h : Nat) (x3 : Int32) (x4 : Int32) (x7 : Int32) (s0 : Int32) (s1 : Option Nat) (S : xm_S) (g : Int32 → xm_S → Prop) : Prop :=
  ∃ n1, s1 = some n1 ∧ st_t S n1 = some (12, 0) ∧ wp_X12_may n1 s0 S (fun r5 S4 => (¬ r5 = 0 → st_t S4 h = some (12, 0) ∧ ∃ n7, (st_r S4 h 15) = some n7 ∧ ∃ z10, st_t S4 n7 = some (100, z10) ∧ vp_in x7 z10 ∧ ∃ n12, (st_r S4 h 16) = some n12 ∧ ∃ z15, st_t S4 n12 = some (100, z15) ∧ vp_in (((nI 2) * x7) + (st_i S4 n7 (x7).toNatClampNeg)) z15 ∧ ∀ S17, S17 = st_pi S4 n12 ((((nI 2) * x7) + (st_i S4 n7 (x7).toNatClampNeg))).toNatClampNeg x3 → ∃ n19, (st_r S17 h 15) = some n19 ∧ ∃ z22, st_t S17 n19 = some (100, z22) ∧ vp_in x7 z22 ∧ ∃ n24, (st_r S17 h 17) = some n24 ∧ ∃ z27, st_t S17 n24 = some (100, z27) ∧ vp_in (((nI 2) * x7) + (st_i S17 n19 (x7).toNatClampNeg)) z27 ∧ ∀ S29, S29 = st_pi S17 n24 ((((nI 2) * x7) + (st_i S17 n19 (x7).toNatClampNeg))).toNatClampNeg x4 → ∃ n31, (st_r S29 h 15) = some n31 ∧ ∃ z34, st_t S29 n31 = some (100, z34) ∧ vp_in x7 z34 ∧ ∃ n36, (st_r S29 h 15) = some n36 ∧ ∃ z39, st_t S29 n36 = some (100, z39) ∧ vp_in x7 z39 ∧ ∀ S41, S41 = st_pi S29 n36 (x7).toNatClampNeg ((st_i S29 n31 (x7).toNatClampNeg) + (1 : Int32)) → ∃ n43, (st_r S41 h 15) = some n43 ∧ ∃ z46, st_t S41 n43 = some (100, z46) ∧ vp_in x7 z46 ∧ g (st_i S41 n43 (x7).toNatClampNeg) S41) ∧ (r5 = 0 → g (0 : Int32) S4))
set_option maxRecDepth 100000 in
set_option maxHeartbeats 4000000 in
theorem kp_X12_provide_102 {K : xm_K} (h : Nat) (x3 : Int32) (x4 : Int32) (x7 : Int32) (s0 : Int32) (s1 : Option Nat) (S : xm_S) {g : Int32 → xm_S → Prop} (C : xm_Cx K cX12_provide RX12 8 (some (FieldType.int)) rm_X12_provide) (N : xm_Nx K) (hg : ∀ v S, g v S → xm_q K (some (xm_i v)) S)  (h1 : wp_X12_provide_102 h x3 x4 x7 s0 s1 S g) : xm_W K 0 0 102 [(0, xm_r (some h)), (3, xm_i x3), (4, xm_i x4), (7, xm_i x7)] [xm_i s0, xm_r s1] S := by
  unfold wp_X12_provide_102 at h1
  obtain ⟨n1, hr2, h1⟩ := h1
  obtain ⟨ht3, h1⟩ := h1
  refine x_callV (rm' := rm_X12_may) (n := n1) C (kp_X12_may_met h1) lk_95 gw_572 gw_573 xv_12 rfl hr2 ht3 rfl (Nat.le_of_ble_eq_true rfl) ⟨Nat.le_of_ble_eq_true rfl, Nat.le_of_ble_eq_true rfl, (Nat.le_of_ble_eq_true rfl), (Nat.le_of_ble_eq_true rfl)⟩ dX12_provide_102 xm_kx (xm_ki (fun r5 S4 h1 => ?_))
  refine x_if_ne (tgt := 110) C dX12_provide_105 (by decide) (fun z9 => ?_) (fun z9 => ?_)
  · have h1 := h1.1 z9
    refine x_aload_n C 0 dX12_provide_110 rfl rfl ?_
    obtain ⟨ht6, h1⟩ := h1
    refine x_getf_r (n := h) C rfl ht6 fd_194 (by decide) dX12_provide_111 ?_
    refine x_iconst (v := (nI 2)) C dX12_provide_114 (by decide) ?_
    refine x_iload C 3 dX12_provide_115 rfl ?_
    refine x_imul C dX12_provide_117 ?_
    refine x_aload_n C 0 dX12_provide_118 rfl rfl ?_
    refine x_getf_r (n := h) C rfl ht6 fd_193 (by decide) dX12_provide_119 ?_
    refine x_iload C 3 dX12_provide_122 rfl ?_
    obtain ⟨n7, hr8, h1⟩ := h1
    obtain ⟨z10, ht9, h1⟩ := h1
    obtain ⟨hi11, h1⟩ := h1
    refine x_iald (n := n7) C hr8 ht9 hi11 dX12_provide_124 ?_
    refine x_iadd C dX12_provide_125 ?_
    refine x_iload_n C 1 dX12_provide_126 rfl rfl ?_
    obtain ⟨n12, hr13, h1⟩ := h1
    obtain ⟨z15, ht14, h1⟩ := h1
    obtain ⟨hi16, h1⟩ := h1
    refine x_iast (n := n12) C hr13 ht14 hi16 dX12_provide_127 ?_
    refine x_topS (fun S17 e18 => ?_)
    have h1 := h1 S17 e18
    refine x_aload_n C 0 dX12_provide_128 rfl rfl ?_
    refine x_getf_r (n := h) C rfl (tk_p e18 ht6) fd_195 (by decide) dX12_provide_129 ?_
    refine x_iconst (v := (nI 2)) C dX12_provide_132 (by decide) ?_
    refine x_iload C 3 dX12_provide_133 rfl ?_
    refine x_imul C dX12_provide_135 ?_
    refine x_aload_n C 0 dX12_provide_136 rfl rfl ?_
    refine x_getf_r (n := h) C rfl (tk_p e18 ht6) fd_193 (by decide) dX12_provide_137 ?_
    refine x_iload C 3 dX12_provide_140 rfl ?_
    obtain ⟨n19, hr20, h1⟩ := h1
    obtain ⟨z22, ht21, h1⟩ := h1
    obtain ⟨hi23, h1⟩ := h1
    refine x_iald (n := n19) C hr20 ht21 hi23 dX12_provide_142 ?_
    refine x_iadd C dX12_provide_143 ?_
    refine x_iload C 2 dX12_provide_144 rfl ?_
    obtain ⟨n24, hr25, h1⟩ := h1
    obtain ⟨z27, ht26, h1⟩ := h1
    obtain ⟨hi28, h1⟩ := h1
    refine x_iast (n := n24) C hr25 ht26 hi28 dX12_provide_146 ?_
    refine x_topS (fun S29 e30 => ?_)
    have h1 := h1 S29 e30
    refine x_aload_n C 0 dX12_provide_147 rfl rfl ?_
    refine x_getf_r (n := h) C rfl (tk_p e30 (tk_p e18 ht6)) fd_193 (by decide) dX12_provide_148 ?_
    refine x_iload C 3 dX12_provide_151 rfl ?_
    refine x_dup2_ir C dX12_provide_153 ?_
    obtain ⟨n31, hr32, h1⟩ := h1
    obtain ⟨z34, ht33, h1⟩ := h1
    obtain ⟨hi35, h1⟩ := h1
    refine x_iald (n := n31) C hr32 ht33 hi35 dX12_provide_154 ?_
    refine x_iconst (v := (1 : Int32)) C dX12_provide_155 (by decide) ?_
    refine x_iadd C dX12_provide_156 ?_
    obtain ⟨n36, hr37, h1⟩ := h1
    obtain ⟨z39, ht38, h1⟩ := h1
    obtain ⟨hi40, h1⟩ := h1
    refine x_iast (n := n36) C hr37 ht38 hi40 dX12_provide_157 ?_
    refine x_topS (fun S41 e42 => ?_)
    have h1 := h1 S41 e42
    refine x_aload_n C 0 dX12_provide_158 rfl rfl ?_
    refine x_getf_r (n := h) C rfl (tk_p e42 (tk_p e30 (tk_p e18 ht6))) fd_193 (by decide) dX12_provide_159 ?_
    refine x_iload C 3 dX12_provide_162 rfl ?_
    obtain ⟨n43, hr44, h1⟩ := h1
    obtain ⟨z46, ht45, h1⟩ := h1
    obtain ⟨hi47, h1⟩ := h1
    refine x_iald (n := n43) C hr44 ht45 hi47 dX12_provide_164 ?_
    exact x_iret C (Nat.le_of_ble_eq_true rfl) (Nat.le_of_ble_eq_true rfl) rfl dX12_provide_165 (hg _ _ h1)
  · have h1 := h1.2 z9
    refine x_iconst (v := (0 : Int32)) C dX12_provide_108 (by decide) ?_
    exact x_iret C (Nat.le_of_ble_eq_true rfl) (Nat.le_of_ble_eq_true rfl) rfl dX12_provide_109 (hg _ _ h1)
def wp_X12_provide_65 (h : Nat) (x3 : Int32) (x4 : Int32) (x5 : Int32) (x6 : Int32) (s0 : Int32) (S : xm_S) (g : Int32 → xm_S → Prop) : Prop :=
  (¬ x5 = 0 → (¬ x6 = 0 → st_t S h = some (12, 0) ∧ ∃ n49, (st_r S h 15) = some n49 ∧ ∃ z52, st_t S n49 = some (100, z52) ∧ vp_in s0 z52 ∧ (¬ (st_i S n49 (s0).toNatClampNeg) = (nI 2) → wp_X12_provide_102 h x3 x4 s0 (0 : Int32) (some h) S g) ∧ ((st_i S n49 (s0).toNatClampNeg) = (nI 2) → wp_X12_provide_102 h x3 x4 s0 (nI 3) (some h) S g)) ∧ (x6 = 0 → wp_X12_provide_102 h x3 x4 s0 (nI 2) (some h) S g)) ∧ (x5 = 0 → wp_X12_provide_102 h x3 x4 s0 (1 : Int32) (some h) S g)
set_option maxRecDepth 100000 in
set_option maxHeartbeats 4000000 in
theorem kp_X12_provide_65 {K : xm_K} (h : Nat) (x3 : Int32) (x4 : Int32) (x5 : Int32) (x6 : Int32) (s0 : Int32) (S : xm_S) {g : Int32 → xm_S → Prop} (C : xm_Cx K cX12_provide RX12 8 (some (FieldType.int)) rm_X12_provide) (N : xm_Nx K) (hg : ∀ v S, g v S → xm_q K (some (xm_i v)) S)  (h1 : wp_X12_provide_65 h x3 x4 x5 x6 s0 S g) : xm_W K 0 0 65 [(0, xm_r (some h)), (3, xm_i x3), (4, xm_i x4), (5, xm_i x5), (6, xm_i x6)] [xm_i s0] S := by
  unfold wp_X12_provide_65 at h1
  refine x_istore (L' := [(7, xm_i s0), (0, xm_r (some h)), (3, xm_i x3), (4, xm_i x4), (5, xm_i x5), (6, xm_i x6)]) C dX12_provide_65 (by decide) rfl ?_
  refine x_aload_n C 1 dX12_provide_67 rfl rfl ?_
  refine x_iload C 4 dX12_provide_68 rfl ?_
  refine x_if_ne (tgt := 77) C dX12_provide_70 (by decide) (fun z9 => ?_) (fun z9 => ?_)
  · have h1 := h1.1 z9
    refine x_iload C 5 dX12_provide_77 rfl ?_
    refine x_if_ne (tgt := 86) C dX12_provide_79 (by decide) (fun z9 => ?_) (fun z9 => ?_)
    · have h1 := h1.1 z9
      refine x_aload_n C 1 dX12_provide_86 rfl rfl ?_
      obtain ⟨ht48, h1⟩ := h1
      refine x_getf_r (n := h) C rfl ht48 fd_193 (by decide) dX12_provide_87 ?_
      refine x_iload C 0 dX12_provide_90 rfl ?_
      obtain ⟨n49, hr50, h1⟩ := h1
      obtain ⟨z52, ht51, h1⟩ := h1
      obtain ⟨hi53, h1⟩ := h1
      refine x_iald (n := n49) C hr50 ht51 hi53 dX12_provide_92 ?_
      refine x_iconst (v := (nI 2)) C dX12_provide_93 (by decide) ?_
      refine x_icmp_ne (tgt := 101) C dX12_provide_94 (by decide) (fun z9 => ?_) (fun z9 => ?_)
      · have h1 := h1.1 z9
        refine x_iconst (v := (0 : Int32)) C dX12_provide_101 (by decide) ?_
        refine x_keep (L' := [(0, xm_r (some h)), (3, xm_i x3), (4, xm_i x4), (7, xm_i s0)]) C [1, 2, 3, 0] rfl ?_
        exact kp_X12_provide_102 h x3 x4 s0 (0 : Int32) (some h) S C N hg  h1
      · have h1 := h1.2 z9
        refine x_iconst (v := (nI 3)) C dX12_provide_97 (by decide) ?_
        refine x_goto (tgt := 102) C dX12_provide_98 (by decide) ?_
        refine x_keep (L' := [(0, xm_r (some h)), (3, xm_i x3), (4, xm_i x4), (7, xm_i s0)]) C [1, 2, 3, 0] rfl ?_
        exact kp_X12_provide_102 h x3 x4 s0 (nI 3) (some h) S C N hg  h1
    · have h1 := h1.2 z9
      refine x_iconst (v := (nI 2)) C dX12_provide_82 (by decide) ?_
      refine x_goto (tgt := 102) C dX12_provide_83 (by decide) ?_
      refine x_keep (L' := [(0, xm_r (some h)), (3, xm_i x3), (4, xm_i x4), (7, xm_i s0)]) C [1, 2, 3, 0] rfl ?_
      exact kp_X12_provide_102 h x3 x4 s0 (nI 2) (some h) S C N hg  h1
  · have h1 := h1.2 z9
    refine x_iconst (v := (1 : Int32)) C dX12_provide_73 (by decide) ?_
    refine x_goto (tgt := 102) C dX12_provide_74 (by decide) ?_
    refine x_keep (L' := [(0, xm_r (some h)), (3, xm_i x3), (4, xm_i x4), (7, xm_i s0)]) C [1, 2, 3, 0] rfl ?_
    exact kp_X12_provide_102 h x3 x4 s0 (1 : Int32) (some h) S C N hg  h1
def wp_X12_provide_49 (h : Nat) (x1 : Int32) (x2 : Int32) (x3 : Int32) (x4 : Int32) (x5 : Int32) (s0 : Int32) (S : xm_S) (g : Int32 → xm_S → Prop) : Prop :=
  (x5 = 0 → wp_X12_provide_65 h x3 x4 x5 s0 (0 : Int32) S g) ∧ (¬ x5 = 0 → wp_X12_provide_65 h x3 x4 x5 s0 (((nI 4) * x1) + x2) S g)
set_option maxRecDepth 100000 in
set_option maxHeartbeats 4000000 in
theorem kp_X12_provide_49 {K : xm_K} (h : Nat) (x1 : Int32) (x2 : Int32) (x3 : Int32) (x4 : Int32) (x5 : Int32) (s0 : Int32) (S : xm_S) {g : Int32 → xm_S → Prop} (C : xm_Cx K cX12_provide RX12 8 (some (FieldType.int)) rm_X12_provide) (N : xm_Nx K) (hg : ∀ v S, g v S → xm_q K (some (xm_i v)) S)  (h1 : wp_X12_provide_49 h x1 x2 x3 x4 x5 s0 S g) : xm_W K 0 0 49 [(0, xm_r (some h)), (1, xm_i x1), (2, xm_i x2), (3, xm_i x3), (4, xm_i x4), (5, xm_i x5)] [xm_i s0] S := by
  unfold wp_X12_provide_49 at h1
  refine x_istore (L' := [(6, xm_i s0), (0, xm_r (some h)), (1, xm_i x1), (2, xm_i x2), (3, xm_i x3), (4, xm_i x4), (5, xm_i x5)]) C dX12_provide_49 (by decide) rfl ?_
  refine x_iload C 6 dX12_provide_51 rfl ?_
  refine x_if_eq (tgt := 64) C dX12_provide_53 (by decide) (fun z9 => ?_) (fun z9 => ?_)
  · have h1 := h1.1 z9
    refine x_iconst (v := (0 : Int32)) C dX12_provide_64 (by decide) ?_
    refine x_keep (L' := [(0, xm_r (some h)), (3, xm_i x3), (4, xm_i x4), (5, xm_i x5), (6, xm_i s0)]) C [1, 4, 5, 6, 0] rfl ?_
    exact kp_X12_provide_65 h x3 x4 x5 s0 (0 : Int32) S C N hg  h1
  · have h1 := h1.2 z9
    refine x_iconst (v := (nI 4)) C dX12_provide_56 (by decide) ?_
    refine x_iload_n C 2 dX12_provide_57 rfl rfl ?_
    refine x_imul C dX12_provide_58 ?_
    refine x_iload_n C 3 dX12_provide_59 rfl rfl ?_
    refine x_iadd C dX12_provide_60 ?_
    refine x_goto (tgt := 65) C dX12_provide_61 (by decide) ?_
    refine x_keep (L' := [(0, xm_r (some h)), (3, xm_i x3), (4, xm_i x4), (5, xm_i x5), (6, xm_i s0)]) C [1, 4, 5, 6, 0] rfl ?_
    exact kp_X12_provide_65 h x3 x4 x5 s0 (((nI 4) * x1) + x2) S C N hg  h1
def wp_X12_provide_48 (h : Nat) (x1 : Int32) (x2 : Int32) (x3 : Int32) (x4 : Int32) (x5 : Int32) (S : xm_S) (g : Int32 → xm_S → Prop) : Prop :=
  wp_X12_provide_49 h x1 x2 x3 x4 x5 (0 : Int32) S g
set_option maxRecDepth 100000 in
set_option maxHeartbeats 4000000 in
theorem kp_X12_provide_48 {K : xm_K} (h : Nat) (x1 : Int32) (x2 : Int32) (x3 : Int32) (x4 : Int32) (x5 : Int32) (S : xm_S) {g : Int32 → xm_S → Prop} (C : xm_Cx K cX12_provide RX12 8 (some (FieldType.int)) rm_X12_provide) (N : xm_Nx K) (hg : ∀ v S, g v S → xm_q K (some (xm_i v)) S)  (h1 : wp_X12_provide_48 h x1 x2 x3 x4 x5 S g) : xm_W K 0 0 48 [(0, xm_r (some h)), (1, xm_i x1), (2, xm_i x2), (3, xm_i x3), (4, xm_i x4), (5, xm_i x5)] [] S := by
  unfold wp_X12_provide_48 at h1
  refine x_iconst (v := (0 : Int32)) C dX12_provide_48 (by decide) ?_
  exact kp_X12_provide_49 h x1 x2 x3 x4 x5 (0 : Int32) S C N hg  h1
def wp_X12_provide_21 (h : Nat) (x1 : Int32) (x2 : Int32) (x3 : Int32) (x4 : Int32) (s0 : Int32) (S : xm_S) (g : Int32 → xm_S → Prop) : Prop :=
  (s0 = 0 → wp_X12_provide_48 h x1 x2 x3 x4 s0 S g) ∧ (¬ s0 = 0 → (x3 = x1 → wp_X12_provide_48 h x1 x2 x3 x4 s0 S g) ∧ (¬ x3 = x1 → wp_X12_in x4 (0 : Int32) (nI 99999) S (fun r55 S54 => (r55 = 0 → wp_X12_provide_48 h x1 x2 x3 x4 s0 S54 g) ∧ (¬ r55 = 0 → wp_X12_provide_49 h x1 x2 x3 x4 s0 (1 : Int32) S54 g))))
set_option maxRecDepth 100000 in
set_option maxHeartbeats 4000000 in
theorem kp_X12_provide_21 {K : xm_K} (h : Nat) (x1 : Int32) (x2 : Int32) (x3 : Int32) (x4 : Int32) (s0 : Int32) (S : xm_S) {g : Int32 → xm_S → Prop} (C : xm_Cx K cX12_provide RX12 8 (some (FieldType.int)) rm_X12_provide) (N : xm_Nx K) (hg : ∀ v S, g v S → xm_q K (some (xm_i v)) S)  (h1 : wp_X12_provide_21 h x1 x2 x3 x4 s0 S g) : xm_W K 0 0 21 [(0, xm_r (some h)), (1, xm_i x1), (2, xm_i x2), (3, xm_i x3), (4, xm_i x4)] [xm_i s0] S := by
  unfold wp_X12_provide_21 at h1
  refine x_istore (L' := [(5, xm_i s0), (0, xm_r (some h)), (1, xm_i x1), (2, xm_i x2), (3, xm_i x3), (4, xm_i x4)]) C dX12_provide_21 (by decide) rfl ?_
  refine x_iload C 0 dX12_provide_23 rfl ?_
  refine x_if_eq (tgt := 48) C dX12_provide_25 (by decide) (fun z9 => ?_) (fun z9 => ?_)
  · have h1 := h1.1 z9
    refine x_keep (L' := [(0, xm_r (some h)), (1, xm_i x1), (2, xm_i x2), (3, xm_i x3), (4, xm_i x4), (5, xm_i s0)]) C [1, 2, 3, 4, 5, 0] rfl ?_
    exact kp_X12_provide_48 h x1 x2 x3 x4 s0 S C N hg  h1
  · have h1 := h1.2 z9
    refine x_iload_n C 4 dX12_provide_28 rfl rfl ?_
    refine x_iload_n C 2 dX12_provide_29 rfl rfl ?_
    refine x_icmp_eq (tgt := 48) C dX12_provide_30 (by decide) (fun z9 => ?_) (fun z9 => ?_)
    · have h1 := h1.1 z9
      refine x_keep (L' := [(0, xm_r (some h)), (1, xm_i x1), (2, xm_i x2), (3, xm_i x3), (4, xm_i x4), (5, xm_i s0)]) C [1, 2, 3, 4, 5, 0] rfl ?_
      exact kp_X12_provide_48 h x1 x2 x3 x4 s0 S C N hg  h1
    · have h1 := h1.2 z9
      refine x_iload C 5 dX12_provide_33 rfl ?_
      refine x_iconst (v := (0 : Int32)) C dX12_provide_35 (by decide) ?_
      refine x_ldc (v := nI 99999) C gw_765 dX12_provide_36 ?_
      refine x_callS (rm' := rm_X12_in) C (kp_X12_in_met h1) lk_87 gw_533 rfl (Nat.le_of_ble_eq_true rfl) ⟨Nat.le_of_ble_eq_true rfl, Nat.le_of_ble_eq_true rfl, (Nat.le_of_ble_eq_true rfl), (Nat.le_of_ble_eq_true rfl)⟩ dX12_provide_38 xm_kx (xm_ki (fun r55 S54 h1 => ?_))
      refine x_if_eq (tgt := 48) C dX12_provide_41 (by decide) (fun z9 => ?_) (fun z9 => ?_)
      · have h1 := h1.1 z9
        refine x_keep (L' := [(0, xm_r (some h)), (1, xm_i x1), (2, xm_i x2), (3, xm_i x3), (4, xm_i x4), (5, xm_i s0)]) C [1, 2, 3, 4, 5, 0] rfl ?_
        exact kp_X12_provide_48 h x1 x2 x3 x4 s0 S54 C N hg  h1
      · have h1 := h1.2 z9
        refine x_iconst (v := (1 : Int32)) C dX12_provide_44 (by decide) ?_
        refine x_goto (tgt := 49) C dX12_provide_45 (by decide) ?_
        refine x_keep (L' := [(0, xm_r (some h)), (1, xm_i x1), (2, xm_i x2), (3, xm_i x3), (4, xm_i x4), (5, xm_i s0)]) C [1, 2, 3, 4, 5, 0] rfl ?_
        exact kp_X12_provide_49 h x1 x2 x3 x4 s0 (1 : Int32) S54 C N hg  h1
def wp_X12_provide_20 (h : Nat) (x1 : Int32) (x2 : Int32) (x3 : Int32) (x4 : Int32) (S : xm_S) (g : Int32 → xm_S → Prop) : Prop :=
  wp_X12_provide_21 h x1 x2 x3 x4 (0 : Int32) S g
set_option maxRecDepth 100000 in
set_option maxHeartbeats 4000000 in
theorem kp_X12_provide_20 {K : xm_K} (h : Nat) (x1 : Int32) (x2 : Int32) (x3 : Int32) (x4 : Int32) (S : xm_S) {g : Int32 → xm_S → Prop} (C : xm_Cx K cX12_provide RX12 8 (some (FieldType.int)) rm_X12_provide) (N : xm_Nx K) (hg : ∀ v S, g v S → xm_q K (some (xm_i v)) S)  (h1 : wp_X12_provide_20 h x1 x2 x3 x4 S g) : xm_W K 0 0 20 [(0, xm_r (some h)), (1, xm_i x1), (2, xm_i x2), (3, xm_i x3), (4, xm_i x4)] [] S := by
  unfold wp_X12_provide_20 at h1
  refine x_iconst (v := (0 : Int32)) C dX12_provide_20 (by decide) ?_
  exact kp_X12_provide_21 h x1 x2 x3 x4 (0 : Int32) S C N hg  h1
def wp_X12_provide (h : Nat) (x1 : Int32) (x2 : Int32) (x3 : Int32) (x4 : Int32) (S : xm_S) (g : Int32 → xm_S → Prop) : Prop :=
  st_t S h = some (12, 0) ∧ wp_X12_isVersion h x1 x2 S (fun r58 S57 => (r58 = 0 → wp_X12_provide_20 h x1 x2 x3 x4 S57 g) ∧ (¬ r58 = 0 → wp_X12_isPack x3 S57 (fun r60 S59 => (r60 = 0 → wp_X12_provide_20 h x1 x2 x3 x4 S59 g) ∧ (¬ r60 = 0 → wp_X12_provide_21 h x1 x2 x3 x4 (1 : Int32) S59 g))))
set_option maxRecDepth 100000 in
set_option maxHeartbeats 4000000 in
theorem kp_X12_provide {K : xm_K} (h : Nat) (x1 : Int32) (x2 : Int32) (x3 : Int32) (x4 : Int32) (S : xm_S) {g : Int32 → xm_S → Prop} (C : xm_Cx K cX12_provide RX12 8 (some (FieldType.int)) rm_X12_provide) (N : xm_Nx K) (hg : ∀ v S, g v S → xm_q K (some (xm_i v)) S)  (h1 : wp_X12_provide h x1 x2 x3 x4 S g) : xm_W K 0 0 0 [(0, xm_r (some h)), (1, xm_i x1), (2, xm_i x2), (3, xm_i x3), (4, xm_i x4)] [] S := by
  unfold wp_X12_provide at h1
  refine x_aload_n C 0 dX12_provide_0 rfl rfl ?_
  refine x_iload_n C 1 dX12_provide_1 rfl rfl ?_
  refine x_iload_n C 2 dX12_provide_2 rfl rfl ?_
  obtain ⟨ht56, h1⟩ := h1
  refine x_callV (rm' := rm_X12_isVersion) (n := h) C (kp_X12_isVersion_met h1) lk_119 gw_699 gw_700 xv_12 rfl rfl ht56 rfl (Nat.le_of_ble_eq_true rfl) ⟨Nat.le_of_ble_eq_true rfl, Nat.le_of_ble_eq_true rfl, (Nat.le_of_ble_eq_true rfl), (Nat.le_of_ble_eq_true rfl)⟩ dX12_provide_3 xm_kx (xm_ki (fun r58 S57 h1 => ?_))
  refine x_if_eq (tgt := 20) C dX12_provide_6 (by decide) (fun z9 => ?_) (fun z9 => ?_)
  · have h1 := h1.1 z9
    exact kp_X12_provide_20 h x1 x2 x3 x4 S57 C N hg  h1
  · have h1 := h1.2 z9
    refine x_iload_n C 3 dX12_provide_9 rfl rfl ?_
    refine x_callS (rm' := rm_X12_isPack) C (kp_X12_isPack_met h1) lk_97 gw_583 rfl (Nat.le_of_ble_eq_true rfl) ⟨Nat.le_of_ble_eq_true rfl, Nat.le_of_ble_eq_true rfl, (Nat.le_of_ble_eq_true rfl), (Nat.le_of_ble_eq_true rfl)⟩ dX12_provide_10 xm_kx (xm_ki (fun r60 S59 h1 => ?_))
    refine x_if_eq (tgt := 20) C dX12_provide_13 (by decide) (fun z9 => ?_) (fun z9 => ?_)
    · have h1 := h1.1 z9
      exact kp_X12_provide_20 h x1 x2 x3 x4 S59 C N hg  h1
    · have h1 := h1.2 z9
      refine x_iconst (v := (1 : Int32)) C dX12_provide_16 (by decide) ?_
      refine x_goto (tgt := 21) C dX12_provide_17 (by decide) ?_
      exact kp_X12_provide_21 h x1 x2 x3 x4 (1 : Int32) S59 C N hg  h1
theorem kp_X12_provide_met {h : Nat} {x1 : Int32} {x2 : Int32} {x3 : Int32} {x4 : Int32} {S : xm_S} {g : Int32 → xm_S → Prop}  (h1 : wp_X12_provide h x1 x2 x3 x4 S g) : xm_Met yX12_provide cX12_provide 8 (some (FieldType.int)) rm_X12_provide [xm_r (some h), xm_i x1, xm_i x2, xm_i x3, xm_i x4] S (xm_qi g) xm_nox :=
  xm_ofW RX12 (by decide +kernel) rfl (Nat.le_of_ble_eq_true rfl) (fun K C N hq hx hi => kp_X12_provide h x1 x2 x3 x4 S C N (fun v S h => by rw [hq]; exact ⟨v, rfl, h⟩)  h1)
def rm_X12_role : Room := { frames := 2, cells := 0, slots := 0, locals := 42 }
theorem dX12_role_0 : decode cX12_role 0 = .ok (.iload_n 1, 1) := by decide +kernel
theorem dX12_role_1 : decode cX12_role 1 = .ok (.iconst 1, 1) := by decide +kernel
theorem dX12_role_2 : decode cX12_role 2 = .ok (.bipush 31, 2) := by decide +kernel
theorem dX12_role_4 : decode cX12_role 4 = .ok (.invokestatic 172, 3) := by decide +kernel
theorem dX12_role_7 : decode cX12_role 7 = .ok (.ifCond .eq 29, 3) := by decide +kernel
theorem dX12_role_10 : decode cX12_role 10 = .ok (.iload_n 2, 1) := by decide +kernel
theorem dX12_role_11 : decode cX12_role 11 = .ok (.iconst 1, 1) := by decide +kernel
theorem dX12_role_12 : decode cX12_role 12 = .ok (.iload_n 1, 1) := by decide +kernel
theorem dX12_role_13 : decode cX12_role 13 = .ok (.invokestatic 308, 3) := by decide +kernel
theorem dX12_role_16 : decode cX12_role 16 = .ok (.invokestatic 172, 3) := by decide +kernel
theorem dX12_role_19 : decode cX12_role 19 = .ok (.ifCond .eq 17, 3) := by decide +kernel
theorem dX12_role_22 : decode cX12_role 22 = .ok (.iload_n 3, 1) := by decide +kernel
theorem dX12_role_23 : decode cX12_role 23 = .ok (.iconst 0, 1) := by decide +kernel
theorem dX12_role_24 : decode cX12_role 24 = .ok (.bipush 31, 2) := by decide +kernel
theorem dX12_role_26 : decode cX12_role 26 = .ok (.invokestatic 172, 3) := by decide +kernel
theorem dX12_role_29 : decode cX12_role 29 = .ok (.ifCond .eq 7, 3) := by decide +kernel
theorem dX12_role_32 : decode cX12_role 32 = .ok (.iconst 1, 1) := by decide +kernel
theorem dX12_role_33 : decode cX12_role 33 = .ok (.goto 4, 3) := by decide +kernel
theorem dX12_role_36 : decode cX12_role 36 = .ok (.iconst 0, 1) := by decide +kernel
theorem dX12_role_37 : decode cX12_role 37 = .ok (.istore 4, 2) := by decide +kernel
theorem dX12_role_39 : decode cX12_role 39 = .ok (.aload_n 0, 1) := by decide +kernel
theorem dX12_role_40 : decode cX12_role 40 = .ok (.iload 4, 2) := by decide +kernel
theorem dX12_role_42 : decode cX12_role 42 = .ok (.ifCond .eq 7, 3) := by decide +kernel
theorem dX12_role_45 : decode cX12_role 45 = .ok (.iconst 0, 1) := by decide +kernel
theorem dX12_role_46 : decode cX12_role 46 = .ok (.goto 4, 3) := by decide +kernel
theorem dX12_role_49 : decode cX12_role 49 = .ok (.iconst 1, 1) := by decide +kernel
theorem dX12_role_50 : decode cX12_role 50 = .ok (.invokevirtual 182, 3) := by decide +kernel
theorem dX12_role_53 : decode cX12_role 53 = .ok (.ifCond .ne 5, 3) := by decide +kernel
theorem dX12_role_56 : decode cX12_role 56 = .ok (.iconst 0, 1) := by decide +kernel
theorem dX12_role_57 : decode cX12_role 57 = .ok (.ireturn, 1) := by decide +kernel
theorem dX12_role_58 : decode cX12_role 58 = .ok (.iload_n 3, 1) := by decide +kernel
theorem dX12_role_59 : decode cX12_role 59 = .ok (.aload_n 0, 1) := by decide +kernel
theorem dX12_role_60 : decode cX12_role 60 = .ok (.getfield 112, 3) := by decide +kernel
theorem dX12_role_63 : decode cX12_role 63 = .ok (.iand, 1) := by decide +kernel
theorem dX12_role_64 : decode cX12_role 64 = .ok (.invokestatic 308, 3) := by decide +kernel
theorem dX12_role_67 : decode cX12_role 67 = .ok (.aload_n 0, 1) := by decide +kernel
theorem dX12_role_68 : decode cX12_role 68 = .ok (.getfield 115, 3) := by decide +kernel
theorem dX12_role_71 : decode cX12_role 71 = .ok (.if_icmp .lt 17, 3) := by decide +kernel
theorem dX12_role_74 : decode cX12_role 74 = .ok (.iload_n 3, 1) := by decide +kernel
theorem dX12_role_75 : decode cX12_role 75 = .ok (.iload_n 1, 1) := by decide +kernel
theorem dX12_role_76 : decode cX12_role 76 = .ok (.iand, 1) := by decide +kernel
theorem dX12_role_77 : decode cX12_role 77 = .ok (.invokestatic 308, 3) := by decide +kernel
theorem dX12_role_80 : decode cX12_role 80 = .ok (.iload_n 2, 1) := by decide +kernel
theorem dX12_role_81 : decode cX12_role 81 = .ok (.if_icmp .lt 7, 3) := by decide +kernel
theorem dX12_role_84 : decode cX12_role 84 = .ok (.iconst 1, 1) := by decide +kernel
theorem dX12_role_85 : decode cX12_role 85 = .ok (.goto 4, 3) := by decide +kernel
theorem dX12_role_88 : decode cX12_role 88 = .ok (.iconst 0, 1) := by decide +kernel
theorem dX12_role_89 : decode cX12_role 89 = .ok (.istore 5, 2) := by decide +kernel
theorem dX12_role_91 : decode cX12_role 91 = .ok (.aload_n 0, 1) := by decide +kernel
theorem dX12_role_92 : decode cX12_role 92 = .ok (.iload 5, 2) := by decide +kernel
theorem dX12_role_94 : decode cX12_role 94 = .ok (.ifCond .eq 7, 3) := by decide +kernel
theorem dX12_role_97 : decode cX12_role 97 = .ok (.iload_n 1, 1) := by decide +kernel
theorem dX12_role_98 : decode cX12_role 98 = .ok (.goto 7, 3) := by decide +kernel
theorem dX12_role_101 : decode cX12_role 101 = .ok (.aload_n 0, 1) := by decide +kernel
theorem dX12_role_102 : decode cX12_role 102 = .ok (.getfield 112, 3) := by decide +kernel
theorem dX12_role_105 : decode cX12_role 105 = .ok (.putfield 112, 3) := by decide +kernel
theorem dX12_role_108 : decode cX12_role 108 = .ok (.aload_n 0, 1) := by decide +kernel
theorem dX12_role_109 : decode cX12_role 109 = .ok (.iload 5, 2) := by decide +kernel
theorem dX12_role_111 : decode cX12_role 111 = .ok (.ifCond .eq 7, 3) := by decide +kernel
theorem dX12_role_114 : decode cX12_role 114 = .ok (.iload_n 2, 1) := by decide +kernel
theorem dX12_role_115 : decode cX12_role 115 = .ok (.goto 7, 3) := by decide +kernel
theorem dX12_role_118 : decode cX12_role 118 = .ok (.aload_n 0, 1) := by decide +kernel
theorem dX12_role_119 : decode cX12_role 119 = .ok (.getfield 115, 3) := by decide +kernel
theorem dX12_role_122 : decode cX12_role 122 = .ok (.putfield 115, 3) := by decide +kernel
theorem dX12_role_125 : decode cX12_role 125 = .ok (.iload 5, 2) := by decide +kernel
theorem dX12_role_127 : decode cX12_role 127 = .ok (.ireturn, 1) := by decide +kernel
def wp_X12_role_122 (h : Nat) (x5 : Int32) (s0 : Int32) (s1 : Option Nat) (S : xm_S) (g : Int32 → xm_S → Prop) : Prop :=
  ∃ n1, s1 = some n1 ∧ st_t S n1 = some (12, 0) ∧ ∀ S4, S4 = st_pi S n1 38 s0 → (x5 = 0 ∨ x5 = 1) ∧ g x5 S4
set_option maxRecDepth 100000 in
set_option maxHeartbeats 4000000 in
theorem kp_X12_role_122 {K : xm_K} (h : Nat) (x5 : Int32) (s0 : Int32) (s1 : Option Nat) (S : xm_S) {g : Int32 → xm_S → Prop} (C : xm_Cx K cX12_role RX12 6 (some (FieldType.boolean)) rm_X12_role) (N : xm_Nx K) (hg : ∀ v S, g v S → xm_q K (some (xm_i v)) S)  (h1 : wp_X12_role_122 h x5 s0 s1 S g) : xm_W K 0 0 122 [(5, xm_i x5)] [xm_i s0, xm_r s1] S := by
  unfold wp_X12_role_122 at h1
  obtain ⟨n1, hr2, h1⟩ := h1
  obtain ⟨ht3, h1⟩ := h1
  refine x_putf_i (n := n1) C hr2 ht3 fd_215 xc_12 (by decide) rfl ⟨rfl, rfl⟩ dX12_role_122 ?_
  refine x_topS (fun S4 e5 => ?_)
  have h1 := h1 S4 e5
  refine x_iload C 0 dX12_role_125 rfl ?_
  exact x_zret C (Nat.le_of_ble_eq_true rfl) (Nat.le_of_ble_eq_true rfl) rfl h1.1 dX12_role_127 (hg _ _ h1.2)
def wp_X12_role_105 (h : Nat) (x2 : Int32) (x5 : Int32) (s0 : Int32) (s1 : Option Nat) (S : xm_S) (g : Int32 → xm_S → Prop) : Prop :=
  ∃ n6, s1 = some n6 ∧ st_t S n6 = some (12, 0) ∧ ∀ S9, S9 = st_pi S n6 37 s0 → (x5 = 0 → st_t S9 h = some (12, 0) ∧ wp_X12_role_122 h x5 (st_i S9 h 38) (some h) S9 g) ∧ (¬ x5 = 0 → wp_X12_role_122 h x5 x2 (some h) S9 g)
set_option maxRecDepth 100000 in
set_option maxHeartbeats 4000000 in
theorem kp_X12_role_105 {K : xm_K} (h : Nat) (x2 : Int32) (x5 : Int32) (s0 : Int32) (s1 : Option Nat) (S : xm_S) {g : Int32 → xm_S → Prop} (C : xm_Cx K cX12_role RX12 6 (some (FieldType.boolean)) rm_X12_role) (N : xm_Nx K) (hg : ∀ v S, g v S → xm_q K (some (xm_i v)) S)  (h1 : wp_X12_role_105 h x2 x5 s0 s1 S g) : xm_W K 0 0 105 [(0, xm_r (some h)), (2, xm_i x2), (5, xm_i x5)] [xm_i s0, xm_r s1] S := by
  unfold wp_X12_role_105 at h1
  obtain ⟨n6, hr7, h1⟩ := h1
  obtain ⟨ht8, h1⟩ := h1
  refine x_putf_i (n := n6) C hr7 ht8 fd_214 xc_12 (by decide) rfl ⟨rfl, rfl⟩ dX12_role_105 ?_
  refine x_topS (fun S9 e10 => ?_)
  have h1 := h1 S9 e10
  refine x_aload_n C 0 dX12_role_108 rfl rfl ?_
  refine x_iload C 2 dX12_role_109 rfl ?_
  refine x_if_eq (tgt := 118) C dX12_role_111 (by decide) (fun z9 => ?_) (fun z9 => ?_)
  · have h1 := h1.1 z9
    refine x_aload_n C 0 dX12_role_118 rfl rfl ?_
    obtain ⟨ht11, h1⟩ := h1
    refine x_getf_i (n := h) C rfl ht11 fd_215 (by decide) dX12_role_119 ?_
    refine x_keep (L' := [(5, xm_i x5)]) C [2] rfl ?_
    exact kp_X12_role_122 h x5 (st_i S9 h 38) (some h) S9 C N hg  h1
  · have h1 := h1.2 z9
    refine x_iload_n C 1 dX12_role_114 rfl rfl ?_
    refine x_goto (tgt := 122) C dX12_role_115 (by decide) ?_
    refine x_keep (L' := [(5, xm_i x5)]) C [2] rfl ?_
    exact kp_X12_role_122 h x5 x2 (some h) S9 C N hg  h1
def wp_X12_role_89 (h : Nat) (x1 : Int32) (x2 : Int32) (s0 : Int32) (S : xm_S) (g : Int32 → xm_S → Prop) : Prop :=
  (s0 = 0 → st_t S h = some (12, 0) ∧ wp_X12_role_105 h x2 s0 (st_i S h 37) (some h) S g) ∧ (¬ s0 = 0 → wp_X12_role_105 h x2 s0 x1 (some h) S g)
set_option maxRecDepth 100000 in
set_option maxHeartbeats 4000000 in
theorem kp_X12_role_89 {K : xm_K} (h : Nat) (x1 : Int32) (x2 : Int32) (s0 : Int32) (S : xm_S) {g : Int32 → xm_S → Prop} (C : xm_Cx K cX12_role RX12 6 (some (FieldType.boolean)) rm_X12_role) (N : xm_Nx K) (hg : ∀ v S, g v S → xm_q K (some (xm_i v)) S)  (h1 : wp_X12_role_89 h x1 x2 s0 S g) : xm_W K 0 0 89 [(0, xm_r (some h)), (1, xm_i x1), (2, xm_i x2)] [xm_i s0] S := by
  unfold wp_X12_role_89 at h1
  refine x_istore (L' := [(5, xm_i s0), (0, xm_r (some h)), (1, xm_i x1), (2, xm_i x2)]) C dX12_role_89 (by decide) rfl ?_
  refine x_aload_n C 1 dX12_role_91 rfl rfl ?_
  refine x_iload C 0 dX12_role_92 rfl ?_
  refine x_if_eq (tgt := 101) C dX12_role_94 (by decide) (fun z9 => ?_) (fun z9 => ?_)
  · have h1 := h1.1 z9
    refine x_aload_n C 1 dX12_role_101 rfl rfl ?_
    obtain ⟨ht12, h1⟩ := h1
    refine x_getf_i (n := h) C rfl ht12 fd_214 (by decide) dX12_role_102 ?_
    refine x_keep (L' := [(0, xm_r (some h)), (2, xm_i x2), (5, xm_i s0)]) C [1, 3, 0] rfl ?_
    exact kp_X12_role_105 h x2 s0 (st_i S h 37) (some h) S C N hg  h1
  · have h1 := h1.2 z9
    refine x_iload_n C 2 dX12_role_97 rfl rfl ?_
    refine x_goto (tgt := 105) C dX12_role_98 (by decide) ?_
    refine x_keep (L' := [(0, xm_r (some h)), (2, xm_i x2), (5, xm_i s0)]) C [1, 3, 0] rfl ?_
    exact kp_X12_role_105 h x2 s0 x1 (some h) S C N hg  h1
def wp_X12_role_88 (h : Nat) (x1 : Int32) (x2 : Int32) (S : xm_S) (g : Int32 → xm_S → Prop) : Prop :=
  wp_X12_role_89 h x1 x2 (0 : Int32) S g
set_option maxRecDepth 100000 in
set_option maxHeartbeats 4000000 in
theorem kp_X12_role_88 {K : xm_K} (h : Nat) (x1 : Int32) (x2 : Int32) (S : xm_S) {g : Int32 → xm_S → Prop} (C : xm_Cx K cX12_role RX12 6 (some (FieldType.boolean)) rm_X12_role) (N : xm_Nx K) (hg : ∀ v S, g v S → xm_q K (some (xm_i v)) S)  (h1 : wp_X12_role_88 h x1 x2 S g) : xm_W K 0 0 88 [(0, xm_r (some h)), (1, xm_i x1), (2, xm_i x2)] [] S := by
  unfold wp_X12_role_88 at h1
  refine x_iconst (v := (0 : Int32)) C dX12_role_88 (by decide) ?_
  exact kp_X12_role_89 h x1 x2 (0 : Int32) S C N hg  h1
def wp_X12_role_50 (h : Nat) (x1 : Int32) (x2 : Int32) (x3 : Int32) (s0 : Int32) (s1 : Option Nat) (S : xm_S) (g : Int32 → xm_S → Prop) : Prop :=
  ∃ n13, s1 = some n13 ∧ st_t S n13 = some (12, 0) ∧ wp_X12_may n13 s0 S (fun r17 S16 => (¬ r17 = 0 → st_t S16 h = some (12, 0) ∧ wp_X12_size (x3 &&& (st_i S16 h 37)) S16 (fun r20 S19 => st_t S19 h = some (12, 0) ∧ (r20 < (st_i S19 h 38) → wp_X12_role_88 h x1 x2 S19 g) ∧ (¬ r20 < (st_i S19 h 38) → wp_X12_size (x3 &&& x1) S19 (fun r23 S22 => (r23 < x2 → wp_X12_role_88 h x1 x2 S22 g) ∧ (¬ r23 < x2 → wp_X12_role_89 h x1 x2 (1 : Int32) S22 g))))) ∧ (r17 = 0 → g (0 : Int32) S16))
set_option maxRecDepth 100000 in
set_option maxHeartbeats 4000000 in
theorem kp_X12_role_50 {K : xm_K} (h : Nat) (x1 : Int32) (x2 : Int32) (x3 : Int32) (s0 : Int32) (s1 : Option Nat) (S : xm_S) {g : Int32 → xm_S → Prop} (C : xm_Cx K cX12_role RX12 6 (some (FieldType.boolean)) rm_X12_role) (N : xm_Nx K) (hg : ∀ v S, g v S → xm_q K (some (xm_i v)) S)  (h1 : wp_X12_role_50 h x1 x2 x3 s0 s1 S g) : xm_W K 0 0 50 [(0, xm_r (some h)), (1, xm_i x1), (2, xm_i x2), (3, xm_i x3)] [xm_i s0, xm_r s1] S := by
  unfold wp_X12_role_50 at h1
  obtain ⟨n13, hr14, h1⟩ := h1
  obtain ⟨ht15, h1⟩ := h1
  refine x_callV (rm' := rm_X12_may) (n := n13) C (kp_X12_may_met h1) lk_95 gw_572 gw_573 xv_12 rfl hr14 ht15 rfl (Nat.le_of_ble_eq_true rfl) ⟨Nat.le_of_ble_eq_true rfl, Nat.le_of_ble_eq_true rfl, (Nat.le_of_ble_eq_true rfl), (Nat.le_of_ble_eq_true rfl)⟩ dX12_role_50 xm_kx (xm_ki (fun r17 S16 h1 => ?_))
  refine x_if_ne (tgt := 58) C dX12_role_53 (by decide) (fun z9 => ?_) (fun z9 => ?_)
  · have h1 := h1.1 z9
    refine x_iload_n C 3 dX12_role_58 rfl rfl ?_
    refine x_aload_n C 0 dX12_role_59 rfl rfl ?_
    obtain ⟨ht18, h1⟩ := h1
    refine x_getf_i (n := h) C rfl ht18 fd_214 (by decide) dX12_role_60 ?_
    refine x_iand C dX12_role_63 ?_
    refine x_callS (rm' := rm_X12_size) C (kp_X12_size_met h1) lk_124 gw_733 rfl (Nat.le_of_ble_eq_true rfl) ⟨Nat.le_of_ble_eq_true rfl, Nat.le_of_ble_eq_true rfl, (Nat.le_of_ble_eq_true rfl), (Nat.le_of_ble_eq_true rfl)⟩ dX12_role_64 xm_kx (xm_ki (fun r20 S19 h1 => ?_))
    refine x_aload_n C 0 dX12_role_67 rfl rfl ?_
    obtain ⟨ht21, h1⟩ := h1
    refine x_getf_i (n := h) C rfl ht21 fd_215 (by decide) dX12_role_68 ?_
    refine x_icmp_lt (tgt := 88) C dX12_role_71 (by decide) (fun z9 => ?_) (fun z9 => ?_)
    · have h1 := h1.1 z9
      refine x_keep (L' := [(0, xm_r (some h)), (1, xm_i x1), (2, xm_i x2)]) C [0, 1, 2] rfl ?_
      exact kp_X12_role_88 h x1 x2 S19 C N hg  h1
    · have h1 := h1.2 z9
      refine x_iload_n C 3 dX12_role_74 rfl rfl ?_
      refine x_iload_n C 1 dX12_role_75 rfl rfl ?_
      refine x_iand C dX12_role_76 ?_
      refine x_callS (rm' := rm_X12_size) C (kp_X12_size_met h1) lk_124 gw_733 rfl (Nat.le_of_ble_eq_true rfl) ⟨Nat.le_of_ble_eq_true rfl, Nat.le_of_ble_eq_true rfl, (Nat.le_of_ble_eq_true rfl), (Nat.le_of_ble_eq_true rfl)⟩ dX12_role_77 xm_kx (xm_ki (fun r23 S22 h1 => ?_))
      refine x_iload_n C 2 dX12_role_80 rfl rfl ?_
      refine x_icmp_lt (tgt := 88) C dX12_role_81 (by decide) (fun z9 => ?_) (fun z9 => ?_)
      · have h1 := h1.1 z9
        refine x_keep (L' := [(0, xm_r (some h)), (1, xm_i x1), (2, xm_i x2)]) C [0, 1, 2] rfl ?_
        exact kp_X12_role_88 h x1 x2 S22 C N hg  h1
      · have h1 := h1.2 z9
        refine x_iconst (v := (1 : Int32)) C dX12_role_84 (by decide) ?_
        refine x_goto (tgt := 89) C dX12_role_85 (by decide) ?_
        refine x_keep (L' := [(0, xm_r (some h)), (1, xm_i x1), (2, xm_i x2)]) C [0, 1, 2] rfl ?_
        exact kp_X12_role_89 h x1 x2 (1 : Int32) S22 C N hg  h1
  · have h1 := h1.2 z9
    refine x_iconst (v := (0 : Int32)) C dX12_role_56 (by decide) ?_
    exact x_zret C (Nat.le_of_ble_eq_true rfl) (Nat.le_of_ble_eq_true rfl) rfl (by decide) dX12_role_57 (hg _ _ h1)
def wp_X12_role_37 (h : Nat) (x1 : Int32) (x2 : Int32) (x3 : Int32) (s0 : Int32) (S : xm_S) (g : Int32 → xm_S → Prop) : Prop :=
  (s0 = 0 → wp_X12_role_50 h x1 x2 x3 (1 : Int32) (some h) S g) ∧ (¬ s0 = 0 → wp_X12_role_50 h x1 x2 x3 (0 : Int32) (some h) S g)
set_option maxRecDepth 100000 in
set_option maxHeartbeats 4000000 in
theorem kp_X12_role_37 {K : xm_K} (h : Nat) (x1 : Int32) (x2 : Int32) (x3 : Int32) (s0 : Int32) (S : xm_S) {g : Int32 → xm_S → Prop} (C : xm_Cx K cX12_role RX12 6 (some (FieldType.boolean)) rm_X12_role) (N : xm_Nx K) (hg : ∀ v S, g v S → xm_q K (some (xm_i v)) S)  (h1 : wp_X12_role_37 h x1 x2 x3 s0 S g) : xm_W K 0 0 37 [(0, xm_r (some h)), (1, xm_i x1), (2, xm_i x2), (3, xm_i x3)] [xm_i s0] S := by
  unfold wp_X12_role_37 at h1
  refine x_istore (L' := [(4, xm_i s0), (0, xm_r (some h)), (1, xm_i x1), (2, xm_i x2), (3, xm_i x3)]) C dX12_role_37 (by decide) rfl ?_
  refine x_aload_n C 1 dX12_role_39 rfl rfl ?_
  refine x_iload C 0 dX12_role_40 rfl ?_
  refine x_if_eq (tgt := 49) C dX12_role_42 (by decide) (fun z9 => ?_) (fun z9 => ?_)
  · have h1 := h1.1 z9
    refine x_iconst (v := (1 : Int32)) C dX12_role_49 (by decide) ?_
    refine x_keep (L' := [(0, xm_r (some h)), (1, xm_i x1), (2, xm_i x2), (3, xm_i x3)]) C [1, 2, 3, 4] rfl ?_
    exact kp_X12_role_50 h x1 x2 x3 (1 : Int32) (some h) S C N hg  h1
  · have h1 := h1.2 z9
    refine x_iconst (v := (0 : Int32)) C dX12_role_45 (by decide) ?_
    refine x_goto (tgt := 50) C dX12_role_46 (by decide) ?_
    refine x_keep (L' := [(0, xm_r (some h)), (1, xm_i x1), (2, xm_i x2), (3, xm_i x3)]) C [1, 2, 3, 4] rfl ?_
    exact kp_X12_role_50 h x1 x2 x3 (0 : Int32) (some h) S C N hg  h1
def wp_X12_role_36 (h : Nat) (x1 : Int32) (x2 : Int32) (x3 : Int32) (S : xm_S) (g : Int32 → xm_S → Prop) : Prop :=
  wp_X12_role_37 h x1 x2 x3 (0 : Int32) S g
set_option maxRecDepth 100000 in
set_option maxHeartbeats 4000000 in
theorem kp_X12_role_36 {K : xm_K} (h : Nat) (x1 : Int32) (x2 : Int32) (x3 : Int32) (S : xm_S) {g : Int32 → xm_S → Prop} (C : xm_Cx K cX12_role RX12 6 (some (FieldType.boolean)) rm_X12_role) (N : xm_Nx K) (hg : ∀ v S, g v S → xm_q K (some (xm_i v)) S)  (h1 : wp_X12_role_36 h x1 x2 x3 S g) : xm_W K 0 0 36 [(0, xm_r (some h)), (1, xm_i x1), (2, xm_i x2), (3, xm_i x3)] [] S := by
  unfold wp_X12_role_36 at h1
  refine x_iconst (v := (0 : Int32)) C dX12_role_36 (by decide) ?_
  exact kp_X12_role_37 h x1 x2 x3 (0 : Int32) S C N hg  h1
def wp_X12_role (h : Nat) (x1 : Int32) (x2 : Int32) (x3 : Int32) (S : xm_S) (g : Int32 → xm_S → Prop) : Prop :=
  wp_X12_in x1 (1 : Int32) (nI 31) S (fun r25 S24 => (r25 = 0 → wp_X12_role_36 h x1 x2 x3 S24 g) ∧ (¬ r25 = 0 → wp_X12_size x1 S24 (fun r27 S26 => wp_X12_in x2 (1 : Int32) r27 S26 (fun r29 S28 => (r29 = 0 → wp_X12_role_36 h x1 x2 x3 S28 g) ∧ (¬ r29 = 0 → wp_X12_in x3 (0 : Int32) (nI 31) S28 (fun r31 S30 => (r31 = 0 → wp_X12_role_36 h x1 x2 x3 S30 g) ∧ (¬ r31 = 0 → wp_X12_role_37 h x1 x2 x3 (1 : Int32) S30 g)))))))
set_option maxRecDepth 100000 in
set_option maxHeartbeats 4000000 in
theorem kp_X12_role {K : xm_K} (h : Nat) (x1 : Int32) (x2 : Int32) (x3 : Int32) (S : xm_S) {g : Int32 → xm_S → Prop} (C : xm_Cx K cX12_role RX12 6 (some (FieldType.boolean)) rm_X12_role) (N : xm_Nx K) (hg : ∀ v S, g v S → xm_q K (some (xm_i v)) S)  (h1 : wp_X12_role h x1 x2 x3 S g) : xm_W K 0 0 0 [(0, xm_r (some h)), (1, xm_i x1), (2, xm_i x2), (3, xm_i x3)] [] S := by
  unfold wp_X12_role at h1
  refine x_iload_n C 1 dX12_role_0 rfl rfl ?_
  refine x_iconst (v := (1 : Int32)) C dX12_role_1 (by decide) ?_
  refine x_bipush (v := (nI 31)) C dX12_role_2 (by decide) ?_
  refine x_callS (rm' := rm_X12_in) C (kp_X12_in_met h1) lk_87 gw_533 rfl (Nat.le_of_ble_eq_true rfl) ⟨Nat.le_of_ble_eq_true rfl, Nat.le_of_ble_eq_true rfl, (Nat.le_of_ble_eq_true rfl), (Nat.le_of_ble_eq_true rfl)⟩ dX12_role_4 xm_kx (xm_ki (fun r25 S24 h1 => ?_))
  refine x_if_eq (tgt := 36) C dX12_role_7 (by decide) (fun z9 => ?_) (fun z9 => ?_)
  · have h1 := h1.1 z9
    exact kp_X12_role_36 h x1 x2 x3 S24 C N hg  h1
  · have h1 := h1.2 z9
    refine x_iload_n C 2 dX12_role_10 rfl rfl ?_
    refine x_iconst (v := (1 : Int32)) C dX12_role_11 (by decide) ?_
    refine x_iload_n C 1 dX12_role_12 rfl rfl ?_
    refine x_callS (rm' := rm_X12_size) C (kp_X12_size_met h1) lk_124 gw_733 rfl (Nat.le_of_ble_eq_true rfl) ⟨Nat.le_of_ble_eq_true rfl, Nat.le_of_ble_eq_true rfl, (Nat.le_of_ble_eq_true rfl), (Nat.le_of_ble_eq_true rfl)⟩ dX12_role_13 xm_kx (xm_ki (fun r27 S26 h1 => ?_))
    refine x_callS (rm' := rm_X12_in) C (kp_X12_in_met h1) lk_87 gw_533 rfl (Nat.le_of_ble_eq_true rfl) ⟨Nat.le_of_ble_eq_true rfl, Nat.le_of_ble_eq_true rfl, (Nat.le_of_ble_eq_true rfl), (Nat.le_of_ble_eq_true rfl)⟩ dX12_role_16 xm_kx (xm_ki (fun r29 S28 h1 => ?_))
    refine x_if_eq (tgt := 36) C dX12_role_19 (by decide) (fun z9 => ?_) (fun z9 => ?_)
    · have h1 := h1.1 z9
      exact kp_X12_role_36 h x1 x2 x3 S28 C N hg  h1
    · have h1 := h1.2 z9
      refine x_iload_n C 3 dX12_role_22 rfl rfl ?_
      refine x_iconst (v := (0 : Int32)) C dX12_role_23 (by decide) ?_
      refine x_bipush (v := (nI 31)) C dX12_role_24 (by decide) ?_
      refine x_callS (rm' := rm_X12_in) C (kp_X12_in_met h1) lk_87 gw_533 rfl (Nat.le_of_ble_eq_true rfl) ⟨Nat.le_of_ble_eq_true rfl, Nat.le_of_ble_eq_true rfl, (Nat.le_of_ble_eq_true rfl), (Nat.le_of_ble_eq_true rfl)⟩ dX12_role_26 xm_kx (xm_ki (fun r31 S30 h1 => ?_))
      refine x_if_eq (tgt := 36) C dX12_role_29 (by decide) (fun z9 => ?_) (fun z9 => ?_)
      · have h1 := h1.1 z9
        exact kp_X12_role_36 h x1 x2 x3 S30 C N hg  h1
      · have h1 := h1.2 z9
        refine x_iconst (v := (1 : Int32)) C dX12_role_32 (by decide) ?_
        refine x_goto (tgt := 37) C dX12_role_33 (by decide) ?_
        exact kp_X12_role_37 h x1 x2 x3 (1 : Int32) S30 C N hg  h1
theorem kp_X12_role_met {h : Nat} {x1 : Int32} {x2 : Int32} {x3 : Int32} {S : xm_S} {g : Int32 → xm_S → Prop}  (h1 : wp_X12_role h x1 x2 x3 S g) : xm_Met yX12_role cX12_role 6 (some (FieldType.boolean)) rm_X12_role [xm_r (some h), xm_i x1, xm_i x2, xm_i x3] S (xm_qi g) xm_nox :=
  xm_ofW RX12 (by decide +kernel) rfl (Nat.le_of_ble_eq_true rfl) (fun K C N hq hx hi => kp_X12_role h x1 x2 x3 S C N (fun v S h => by rw [hq]; exact ⟨v, rfl, h⟩)  h1)
