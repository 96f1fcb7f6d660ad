def rm_X12_rollback : Room := { frames := 2, cells := 0, slots := 0, locals := 43 }
theorem dX12_rollback_0 : decode cX12_rollback 0 = .ok (.aload_n 0, 1) := by decide +kernel
theorem dX12_rollback_1 : decode cX12_rollback 1 = .ok (.iload_n 1, 1) := by decide +kernel
theorem dX12_rollback_2 : decode cX12_rollback 2 = .ok (.invokevirtual 367, 3) := by decide +kernel
theorem dX12_rollback_5 : decode cX12_rollback 5 = .ok (.istore_n 2, 1) := by decide +kernel
theorem dX12_rollback_6 : decode cX12_rollback 6 = .ok (.aload_n 0, 1) := by decide +kernel
theorem dX12_rollback_7 : decode cX12_rollback 7 = .ok (.iload_n 2, 1) := by decide +kernel
theorem dX12_rollback_8 : decode cX12_rollback 8 = .ok (.iconst (-1), 1) := by decide +kernel
theorem dX12_rollback_9 : decode cX12_rollback 9 = .ok (.if_icmp .ne 7, 3) := by decide +kernel
theorem dX12_rollback_12 : decode cX12_rollback 12 = .ok (.iconst 1, 1) := by decide +kernel
theorem dX12_rollback_13 : decode cX12_rollback 13 = .ok (.goto 4, 3) := by decide +kernel
theorem dX12_rollback_16 : decode cX12_rollback 16 = .ok (.iconst 0, 1) := by decide +kernel
theorem dX12_rollback_17 : decode cX12_rollback 17 = .ok (.invokevirtual 182, 3) := by decide +kernel
theorem dX12_rollback_20 : decode cX12_rollback 20 = .ok (.ifCond .ne 5, 3) := by decide +kernel
theorem dX12_rollback_23 : decode cX12_rollback 23 = .ok (.iconst 0, 1) := by decide +kernel
theorem dX12_rollback_24 : decode cX12_rollback 24 = .ok (.ireturn, 1) := by decide +kernel
theorem dX12_rollback_25 : decode cX12_rollback 25 = .ok (.iconst 0, 1) := by decide +kernel
theorem dX12_rollback_26 : decode cX12_rollback 26 = .ok (.istore_n 3, 1) := by decide +kernel
theorem dX12_rollback_27 : decode cX12_rollback 27 = .ok (.iconst 0, 1) := by decide +kernel
theorem dX12_rollback_28 : decode cX12_rollback 28 = .ok (.istore 4, 2) := by decide +kernel
theorem dX12_rollback_30 : decode cX12_rollback 30 = .ok (.iload 4, 2) := by decide +kernel
theorem dX12_rollback_32 : decode cX12_rollback 32 = .ok (.bipush 16, 2) := by decide +kernel
theorem dX12_rollback_34 : decode cX12_rollback 34 = .ok (.if_icmp .ge 79, 3) := by decide +kernel
theorem dX12_rollback_37 : decode cX12_rollback 37 = .ok (.iconst 1, 1) := by decide +kernel
theorem dX12_rollback_38 : decode cX12_rollback 38 = .ok (.istore 5, 2) := by decide +kernel
theorem dX12_rollback_40 : decode cX12_rollback 40 = .ok (.bipush 6, 2) := by decide +kernel
theorem dX12_rollback_42 : decode cX12_rollback 42 = .ok (.iload 4, 2) := by decide +kernel
theorem dX12_rollback_44 : decode cX12_rollback 44 = .ok (.iadd, 1) := by decide +kernel
theorem dX12_rollback_45 : decode cX12_rollback 45 = .ok (.istore 6, 2) := by decide +kernel
theorem dX12_rollback_47 : decode cX12_rollback 47 = .ok (.iload 6, 2) := by decide +kernel
theorem dX12_rollback_49 : decode cX12_rollback 49 = .ok (.bipush 54, 2) := by decide +kernel
theorem dX12_rollback_51 : decode cX12_rollback 51 = .ok (.if_icmp .ge 43, 3) := by decide +kernel
theorem dX12_rollback_54 : decode cX12_rollback 54 = .ok (.iload 5, 2) := by decide +kernel
theorem dX12_rollback_56 : decode cX12_rollback 56 = .ok (.ifCond .eq 29, 3) := by decide +kernel
theorem dX12_rollback_59 : decode cX12_rollback 59 = .ok (.aload_n 0, 1) := by decide +kernel
theorem dX12_rollback_60 : decode cX12_rollback 60 = .ok (.getfield 148, 3) := by decide +kernel
theorem dX12_rollback_63 : decode cX12_rollback 63 = .ok (.iload 6, 2) := by decide +kernel
theorem dX12_rollback_65 : decode cX12_rollback 65 = .ok (.iaload, 1) := by decide +kernel
theorem dX12_rollback_66 : decode cX12_rollback 66 = .ok (.aload_n 0, 1) := by decide +kernel
theorem dX12_rollback_67 : decode cX12_rollback 67 = .ok (.getfield 163, 3) := by decide +kernel
theorem dX12_rollback_70 : decode cX12_rollback 70 = .ok (.bipush 54, 2) := by decide +kernel
theorem dX12_rollback_72 : decode cX12_rollback 72 = .ok (.iload_n 2, 1) := by decide +kernel
theorem dX12_rollback_73 : decode cX12_rollback 73 = .ok (.imul, 1) := by decide +kernel
theorem dX12_rollback_74 : decode cX12_rollback 74 = .ok (.iload 6, 2) := by decide +kernel
theorem dX12_rollback_76 : decode cX12_rollback 76 = .ok (.iadd, 1) := by decide +kernel
theorem dX12_rollback_77 : decode cX12_rollback 77 = .ok (.iaload, 1) := by decide +kernel
theorem dX12_rollback_78 : decode cX12_rollback 78 = .ok (.if_icmp .ne 7, 3) := by decide +kernel
theorem dX12_rollback_81 : decode cX12_rollback 81 = .ok (.iconst 1, 1) := by decide +kernel
theorem dX12_rollback_82 : decode cX12_rollback 82 = .ok (.goto 4, 3) := by decide +kernel
theorem dX12_rollback_85 : decode cX12_rollback 85 = .ok (.iconst 0, 1) := by decide +kernel
theorem dX12_rollback_86 : decode cX12_rollback 86 = .ok (.istore 5, 2) := by decide +kernel
theorem dX12_rollback_88 : decode cX12_rollback 88 = .ok (.iinc 6 16, 3) := by decide +kernel
theorem dX12_rollback_91 : decode cX12_rollback 91 = .ok (.goto (-44), 3) := by decide +kernel
theorem dX12_rollback_94 : decode cX12_rollback 94 = .ok (.iload_n 3, 1) := by decide +kernel
theorem dX12_rollback_95 : decode cX12_rollback 95 = .ok (.iload 5, 2) := by decide +kernel
theorem dX12_rollback_97 : decode cX12_rollback 97 = .ok (.ifCond .eq 7, 3) := by decide +kernel
theorem dX12_rollback_100 : decode cX12_rollback 100 = .ok (.iconst 0, 1) := by decide +kernel
theorem dX12_rollback_101 : decode cX12_rollback 101 = .ok (.goto 4, 3) := by decide +kernel
theorem dX12_rollback_104 : decode cX12_rollback 104 = .ok (.iconst 1, 1) := by decide +kernel
theorem dX12_rollback_105 : decode cX12_rollback 105 = .ok (.iadd, 1) := by decide +kernel
theorem dX12_rollback_106 : decode cX12_rollback 106 = .ok (.istore_n 3, 1) := by decide +kernel
theorem dX12_rollback_107 : decode cX12_rollback 107 = .ok (.iinc 4 1, 3) := by decide +kernel
theorem dX12_rollback_110 : decode cX12_rollback 110 = .ok (.goto (-80), 3) := by decide +kernel
theorem dX12_rollback_113 : decode cX12_rollback 113 = .ok (.iconst 0, 1) := by decide +kernel
theorem dX12_rollback_114 : decode cX12_rollback 114 = .ok (.istore 4, 2) := by decide +kernel
theorem dX12_rollback_116 : decode cX12_rollback 116 = .ok (.iload 4, 2) := by decide +kernel
theorem dX12_rollback_118 : decode cX12_rollback 118 = .ok (.bipush 54, 2) := by decide +kernel
theorem dX12_rollback_120 : decode cX12_rollback 120 = .ok (.if_icmp .ge 28, 3) := by decide +kernel
theorem dX12_rollback_123 : decode cX12_rollback 123 = .ok (.aload_n 0, 1) := by decide +kernel
theorem dX12_rollback_124 : decode cX12_rollback 124 = .ok (.getfield 148, 3) := by decide +kernel
theorem dX12_rollback_127 : decode cX12_rollback 127 = .ok (.iload 4, 2) := by decide +kernel
theorem dX12_rollback_129 : decode cX12_rollback 129 = .ok (.aload_n 0, 1) := by decide +kernel
theorem dX12_rollback_130 : decode cX12_rollback 130 = .ok (.getfield 163, 3) := by decide +kernel
theorem dX12_rollback_133 : decode cX12_rollback 133 = .ok (.bipush 54, 2) := by decide +kernel
theorem dX12_rollback_135 : decode cX12_rollback 135 = .ok (.iload_n 2, 1) := by decide +kernel
theorem dX12_rollback_136 : decode cX12_rollback 136 = .ok (.imul, 1) := by decide +kernel
theorem dX12_rollback_137 : decode cX12_rollback 137 = .ok (.iload 4, 2) := by decide +kernel
theorem dX12_rollback_139 : decode cX12_rollback 139 = .ok (.iadd, 1) := by decide +kernel
theorem dX12_rollback_140 : decode cX12_rollback 140 = .ok (.iaload, 1) := by decide +kernel
theorem dX12_rollback_141 : decode cX12_rollback 141 = .ok (.iastore, 1) := by decide +kernel
theorem dX12_rollback_142 : decode cX12_rollback 142 = .ok (.iinc 4 1, 3) := by decide +kernel
theorem dX12_rollback_145 : decode cX12_rollback 145 = .ok (.goto (-29), 3) := by decide +kernel
theorem dX12_rollback_148 : decode cX12_rollback 148 = .ok (.aload_n 0, 1) := by decide +kernel
theorem dX12_rollback_149 : decode cX12_rollback 149 = .ok (.iload_n 1, 1) := by decide +kernel
theorem dX12_rollback_150 : decode cX12_rollback 150 = .ok (.putfield 154, 3) := by decide +kernel
theorem dX12_rollback_153 : decode cX12_rollback 153 = .ok (.iload_n 3, 1) := by decide +kernel
theorem dX12_rollback_154 : decode cX12_rollback 154 = .ok (.ireturn, 1) := by decide +kernel
def wp_X12_rollback_86 (h : Nat) (x1 : Int32) (x2 : Int32) (x3 : Int32) (x4 : Int32) (x6 : Int32) (s0 : Int32) (S : xm_S) (g : Int32 → xm_S → Prop) (Z30 : Int32 → Int32 → Int32 → Int32 → xm_S → Prop) (Z47 : Int32 → Int32 → Int32 → Int32 → Int32 → Int32 → xm_S → Prop) : Prop :=
  ∀ y1, y1 = (x6 + (nI 16)) → Z47 x1 x2 x3 x4 s0 y1 S
set_option maxRecDepth 100000 in
set_option maxHeartbeats 4000000 in
theorem kp_X12_rollback_86 {K : xm_K} (h : Nat) (x1 : Int32) (x2 : Int32) (x3 : Int32) (x4 : Int32) (x6 : Int32) (s0 : Int32) (S : xm_S) {g : Int32 → xm_S → Prop} {Z30 : Int32 → Int32 → Int32 → Int32 → xm_S → Prop} {Z47 : Int32 → Int32 → Int32 → Int32 → Int32 → Int32 → xm_S → Prop} (C : xm_Cx K cX12_rollback RX12 7 (some (FieldType.int)) rm_X12_rollback) (N : xm_Nx K) (hg : ∀ v S, g v S → xm_q K (some (xm_i v)) S) (hZ30 : ∀ x1 x2 x3 x4 S, Z30 x1 x2 x3 x4 S → xm_W K 0 0 30 [(0, xm_r (some h)), (1, xm_i x1), (2, xm_i x2), (3, xm_i x3), (4, xm_i x4)] [] S) (hZ47 : ∀ x1 x2 x3 x4 x5 x6 S, Z47 x1 x2 x3 x4 x5 x6 S → xm_W K 0 0 47 [(0, xm_r (some h)), (1, xm_i x1), (2, xm_i x2), (3, xm_i x3), (4, xm_i x4), (5, xm_i x5), (6, xm_i x6)] [] S) (h1 : wp_X12_rollback_86 h x1 x2 x3 x4 x6 s0 S g Z30 Z47) : xm_W K 0 0 86 [(0, xm_r (some h)), (1, xm_i x1), (2, xm_i x2), (3, xm_i x3), (4, xm_i x4), (6, xm_i x6)] [xm_i s0] S := by
  unfold wp_X12_rollback_86 at h1
  refine x_istore (L' := [(5, xm_i s0), (0, xm_r (some h)), (1, xm_i x1), (2, xm_i x2), (3, xm_i x3), (4, xm_i x4), (6, xm_i x6)]) C dX12_rollback_86 (by decide) rfl ?_
  obtain ⟨y1, e2⟩ : ∃ y1, y1 = (x6 + (nI 16)) := ⟨_, rfl⟩
  have h1 := h1 y1 e2
  refine x_iinc (v := y1) (L' := [(6, xm_i y1), (5, xm_i s0), (0, xm_r (some h)), (1, xm_i x1), (2, xm_i x2), (3, xm_i x3), (4, xm_i x4)]) C 6 dX12_rollback_88 rfl (by rw [e2]; rfl) (by decide) rfl ?_
  refine x_goto (tgt := 47) C dX12_rollback_91 (by decide) ?_
  refine x_keep (L' := [(0, xm_r (some h)), (1, xm_i x1), (2, xm_i x2), (3, xm_i x3), (4, xm_i x4), (5, xm_i s0), (6, xm_i y1)]) C [2, 3, 4, 5, 6, 1, 0] rfl ?_
  exact hZ47 x1 x2 x3 x4 s0 y1 S h1
def wp_X12_rollback_85 (h : Nat) (x1 : Int32) (x2 : Int32) (x3 : Int32) (x4 : Int32) (x6 : Int32) (S : xm_S) (g : Int32 → xm_S → Prop) (Z30 : Int32 → Int32 → Int32 → Int32 → xm_S → Prop) (Z47 : Int32 → Int32 → Int32 → Int32 → Int32 → Int32 → xm_S → Prop) : Prop :=
  wp_X12_rollback_86 h x1 x2 x3 x4 x6 (0 : Int32) S g Z30 Z47
set_option maxRecDepth 100000 in
set_option maxHeartbeats 4000000 in
theorem kp_X12_rollback_85 {K : xm_K} (h : Nat) (x1 : Int32) (x2 : Int32) (x3 : Int32) (x4 : Int32) (x6 : Int32) (S : xm_S) {g : Int32 → xm_S → Prop} {Z30 : Int32 → Int32 → Int32 → Int32 → xm_S → Prop} {Z47 : Int32 → Int32 → Int32 → Int32 → Int32 → Int32 → xm_S → Prop} (C : xm_Cx K cX12_rollback RX12 7 (some (FieldType.int)) rm_X12_rollback) (N : xm_Nx K) (hg : ∀ v S, g v S → xm_q K (some (xm_i v)) S) (hZ30 : ∀ x1 x2 x3 x4 S, Z30 x1 x2 x3 x4 S → xm_W K 0 0 30 [(0, xm_r (some h)), (1, xm_i x1), (2, xm_i x2), (3, xm_i x3), (4, xm_i x4)] [] S) (hZ47 : ∀ x1 x2 x3 x4 x5 x6 S, Z47 x1 x2 x3 x4 x5 x6 S → xm_W K 0 0 47 [(0, xm_r (some h)), (1, xm_i x1), (2, xm_i x2), (3, xm_i x3), (4, xm_i x4), (5, xm_i x5), (6, xm_i x6)] [] S) (h1 : wp_X12_rollback_85 h x1 x2 x3 x4 x6 S g Z30 Z47) : xm_W K 0 0 85 [(0, xm_r (some h)), (1, xm_i x1), (2, xm_i x2), (3, xm_i x3), (4, xm_i x4), (6, xm_i x6)] [] S := by
  unfold wp_X12_rollback_85 at h1
  refine x_iconst (v := (0 : Int32)) C dX12_rollback_85 (by decide) ?_
  exact kp_X12_rollback_86 h x1 x2 x3 x4 x6 (0 : Int32) S C N hg hZ30 hZ47 h1
def wp_X12_rollback_105 (h : Nat) (x1 : Int32) (x2 : Int32) (x4 : Int32) (s0 : Int32) (s1 : Int32) (S : xm_S) (g : Int32 → xm_S → Prop) (Z30 : Int32 → Int32 → Int32 → Int32 → xm_S → Prop) : Prop :=
  ∀ y3, y3 = (s1 + s0) → ∀ y5, y5 = (x4 + (1 : Int32)) → Z30 x1 x2 y3 y5 S
set_option maxRecDepth 100000 in
set_option maxHeartbeats 4000000 in
theorem kp_X12_rollback_105 {K : xm_K} (h : Nat) (x1 : Int32) (x2 : Int32) (x4 : Int32) (s0 : Int32) (s1 : Int32) (S : xm_S) {g : Int32 → xm_S → Prop} {Z30 : Int32 → Int32 → Int32 → Int32 → xm_S → Prop} (C : xm_Cx K cX12_rollback RX12 7 (some (FieldType.int)) rm_X12_rollback) (N : xm_Nx K) (hg : ∀ v S, g v S → xm_q K (some (xm_i v)) S) (hZ30 : ∀ x1 x2 x3 x4 S, Z30 x1 x2 x3 x4 S → xm_W K 0 0 30 [(0, xm_r (some h)), (1, xm_i x1), (2, xm_i x2), (3, xm_i x3), (4, xm_i x4)] [] S) (h1 : wp_X12_rollback_105 h x1 x2 x4 s0 s1 S g Z30) : xm_W K 0 0 105 [(0, xm_r (some h)), (1, xm_i x1), (2, xm_i x2), (4, xm_i x4)] [xm_i s0, xm_i s1] S := by
  unfold wp_X12_rollback_105 at h1
  refine x_iadd C dX12_rollback_105 ?_
  refine x_topi (fun y3 e4 => ?_)
  have h1 := h1 y3 e4
  refine x_istore_n (L' := [(3, xm_i y3), (0, xm_r (some h)), (1, xm_i x1), (2, xm_i x2), (4, xm_i x4)]) C dX12_rollback_106 rfl (by decide) rfl ?_
  obtain ⟨y5, e6⟩ : ∃ y5, y5 = (x4 + (1 : Int32)) := ⟨_, rfl⟩
  have h1 := h1 y5 e6
  refine x_iinc (v := y5) (L' := [(4, xm_i y5), (3, xm_i y3), (0, xm_r (some h)), (1, xm_i x1), (2, xm_i x2)]) C 4 dX12_rollback_107 rfl (by rw [e6]; rfl) (by decide) rfl ?_
  refine x_goto (tgt := 30) C dX12_rollback_110 (by decide) ?_
  refine x_keep (L' := [(0, xm_r (some h)), (1, xm_i x1), (2, xm_i x2), (3, xm_i y3), (4, xm_i y5)]) C [2, 3, 4, 1, 0] rfl ?_
  exact hZ30 x1 x2 y3 y5 S h1
def wp_X12_rollback_47B (h : Nat) (x1 : Int32) (x2 : Int32) (x3 : Int32) (x4 : Int32) (x5 : Int32) (x6 : Int32) (S : xm_S) (g : Int32 → xm_S → Prop) (Z30 : Int32 → Int32 → Int32 → Int32 → xm_S → Prop) (Z47 : Int32 → Int32 → Int32 → Int32 → Int32 → Int32 → xm_S → Prop) : Prop :=
  ((nI 54) ≤ x6 → (x5 = 0 → wp_X12_rollback_105 h x1 x2 x4 (1 : Int32) x3 S g Z30) ∧ (¬ x5 = 0 → wp_X12_rollback_105 h x1 x2 x4 (0 : Int32) x3 S g Z30)) ∧ (¬ (nI 54) ≤ x6 → (x5 = 0 → wp_X12_rollback_85 h x1 x2 x3 x4 x6 S g Z30 Z47) ∧ (¬ x5 = 0 → st_t S h = some (12, 0) ∧ ∃ n8, (st_r S h 50) = some n8 ∧ ∃ z11, st_t S n8 = some (100, z11) ∧ vp_in x6 z11 ∧ ∃ n13, (st_r S h 59) = some n13 ∧ ∃ z16, st_t S n13 = some (100, z16) ∧ vp_in (((nI 54) * x2) + x6) z16 ∧ (¬ (st_i S n8 (x6).toNatClampNeg) = (st_i S n13 ((((nI 54) * x2) + x6)).toNatClampNeg) → wp_X12_rollback_85 h x1 x2 x3 x4 x6 S g Z30 Z47) ∧ ((st_i S n8 (x6).toNatClampNeg) = (st_i S n13 ((((nI 54) * x2) + x6)).toNatClampNeg) → wp_X12_rollback_86 h x1 x2 x3 x4 x6 (1 : Int32) S g Z30 Z47)))
def wp_X12_rollback_47 (h : Nat) (x1 : Int32) (x2 : Int32) (x3 : Int32) (x4 : Int32) (x5 : Int32) (x6 : Int32) (S : xm_S) (g : Int32 → xm_S → Prop) (Z30 : Int32 → Int32 → Int32 → Int32 → xm_S → Prop) : Prop :=
  ∀ Z47 : Int32 → Int32 → Int32 → Int32 → Int32 → Int32 → xm_S → Prop, (∀ x1 x2 x3 x4 x5 x6 S, wp_X12_rollback_47B h x1 x2 x3 x4 x5 x6 S g Z30 Z47 → Z47 x1 x2 x3 x4 x5 x6 S) → Z47 x1 x2 x3 x4 x5 x6 S
set_option maxRecDepth 100000 in
set_option maxHeartbeats 4000000 in
theorem kp_X12_rollback_47B {K : xm_K} (h : Nat) (x1 : Int32) (x2 : Int32) (x3 : Int32) (x4 : Int32) (x5 : Int32) (x6 : Int32) (S : xm_S) {g : Int32 → xm_S → Prop} {Z30 : Int32 → Int32 → Int32 → Int32 → xm_S → Prop} {Z47 : Int32 → Int32 → Int32 → Int32 → Int32 → Int32 → xm_S → Prop} (C : xm_Cx K cX12_rollback RX12 7 (some (FieldType.int)) rm_X12_rollback) (N : xm_Nx K) (hg : ∀ v S, g v S → xm_q K (some (xm_i v)) S) (hZ30 : ∀ x1 x2 x3 x4 S, Z30 x1 x2 x3 x4 S → xm_W K 0 0 30 [(0, xm_r (some h)), (1, xm_i x1), (2, xm_i x2), (3, xm_i x3), (4, xm_i x4)] [] S) (hZ47 : ∀ x1 x2 x3 x4 x5 x6 S, Z47 x1 x2 x3 x4 x5 x6 S → xm_W K 0 0 47 [(0, xm_r (some h)), (1, xm_i x1), (2, xm_i x2), (3, xm_i x3), (4, xm_i x4), (5, xm_i x5), (6, xm_i x6)] [] S) (h1 : wp_X12_rollback_47B h x1 x2 x3 x4 x5 x6 S g Z30 Z47) : xm_W K 0 0 47 [(0, xm_r (some h)), (1, xm_i x1), (2, xm_i x2), (3, xm_i x3), (4, xm_i x4), (5, xm_i x5), (6, xm_i x6)] [] S := by
  unfold wp_X12_rollback_47B at h1
  refine x_iload C 6 dX12_rollback_47 rfl ?_
  refine x_bipush (v := (nI 54)) C dX12_rollback_49 (by decide) ?_
  refine x_icmp_ge (tgt := 94) C dX12_rollback_51 (by decide) (fun z9 => ?_) (fun z9 => ?_)
  · have h1 := h1.1 z9
    refine x_iload_n C 3 dX12_rollback_94 rfl rfl ?_
    refine x_iload C 5 dX12_rollback_95 rfl ?_
    refine x_if_eq (tgt := 104) C dX12_rollback_97 (by decide) (fun z9 => ?_) (fun z9 => ?_)
    · have h1 := h1.1 z9
      refine x_iconst (v := (1 : Int32)) C dX12_rollback_104 (by decide) ?_
      refine x_keep (L' := [(0, xm_r (some h)), (1, xm_i x1), (2, xm_i x2), (4, xm_i x4)]) C [0, 1, 2, 4] rfl ?_
      exact kp_X12_rollback_105 h x1 x2 x4 (1 : Int32) x3 S C N hg hZ30 h1
    · have h1 := h1.2 z9
      refine x_iconst (v := (0 : Int32)) C dX12_rollback_100 (by decide) ?_
      refine x_goto (tgt := 105) C dX12_rollback_101 (by decide) ?_
      refine x_keep (L' := [(0, xm_r (some h)), (1, xm_i x1), (2, xm_i x2), (4, xm_i x4)]) C [0, 1, 2, 4] rfl ?_
      exact kp_X12_rollback_105 h x1 x2 x4 (0 : Int32) x3 S C N hg hZ30 h1
  · have h1 := h1.2 z9
    refine x_iload C 5 dX12_rollback_54 rfl ?_
    refine x_if_eq (tgt := 85) C dX12_rollback_56 (by decide) (fun z9 => ?_) (fun z9 => ?_)
    · have h1 := h1.1 z9
      refine x_keep (L' := [(0, xm_r (some h)), (1, xm_i x1), (2, xm_i x2), (3, xm_i x3), (4, xm_i x4), (6, xm_i x6)]) C [0, 1, 2, 3, 4, 6] rfl ?_
      exact kp_X12_rollback_85 h x1 x2 x3 x4 x6 S C N hg hZ30 hZ47 h1
    · have h1 := h1.2 z9
      refine x_aload_n C 0 dX12_rollback_59 rfl rfl ?_
      obtain ⟨ht7, h1⟩ := h1
      refine x_getf_r (n := h) C rfl ht7 fd_203 (by decide) dX12_rollback_60 ?_
      refine x_iload C 6 dX12_rollback_63 rfl ?_
      obtain ⟨n8, hr9, h1⟩ := h1
      obtain ⟨z11, ht10, h1⟩ := h1
      obtain ⟨hi12, h1⟩ := h1
      refine x_iald (n := n8) C hr9 ht10 hi12 dX12_rollback_65 ?_
      refine x_aload_n C 0 dX12_rollback_66 rfl rfl ?_
      refine x_getf_r (n := h) C rfl ht7 fd_196 (by decide) dX12_rollback_67 ?_
      refine x_bipush (v := (nI 54)) C dX12_rollback_70 (by decide) ?_
      refine x_iload_n C 2 dX12_rollback_72 rfl rfl ?_
      refine x_imul C dX12_rollback_73 ?_
      refine x_iload C 6 dX12_rollback_74 rfl ?_
      refine x_iadd C dX12_rollback_76 ?_
      obtain ⟨n13, hr14, h1⟩ := h1
      obtain ⟨z16, ht15, h1⟩ := h1
      obtain ⟨hi17, h1⟩ := h1
      refine x_iald (n := n13) C hr14 ht15 hi17 dX12_rollback_77 ?_
      refine x_icmp_ne (tgt := 85) C dX12_rollback_78 (by decide) (fun z9 => ?_) (fun z9 => ?_)
      · have h1 := h1.1 z9
        refine x_keep (L' := [(0, xm_r (some h)), (1, xm_i x1), (2, xm_i x2), (3, xm_i x3), (4, xm_i x4), (6, xm_i x6)]) C [0, 1, 2, 3, 4, 6] rfl ?_
        exact kp_X12_rollback_85 h x1 x2 x3 x4 x6 S C N hg hZ30 hZ47 h1
      · have h1 := h1.2 z9
        refine x_iconst (v := (1 : Int32)) C dX12_rollback_81 (by decide) ?_
        refine x_goto (tgt := 86) C dX12_rollback_82 (by decide) ?_
        refine x_keep (L' := [(0, xm_r (some h)), (1, xm_i x1), (2, xm_i x2), (3, xm_i x3), (4, xm_i x4), (6, xm_i x6)]) C [0, 1, 2, 3, 4, 6] rfl ?_
        exact kp_X12_rollback_86 h x1 x2 x3 x4 x6 (1 : Int32) S C N hg hZ30 hZ47 h1
theorem kp_X12_rollback_47 {K : xm_K} (h : Nat) (x1 : Int32) (x2 : Int32) (x3 : Int32) (x4 : Int32) (x5 : Int32) (x6 : Int32) (S : xm_S) {g : Int32 → xm_S → Prop} {Z30 : Int32 → Int32 → Int32 → Int32 → xm_S → Prop} (C : xm_Cx K cX12_rollback RX12 7 (some (FieldType.int)) rm_X12_rollback) (N : xm_Nx K) (hg : ∀ v S, g v S → xm_q K (some (xm_i v)) S) (hZ30 : ∀ x1 x2 x3 x4 S, Z30 x1 x2 x3 x4 S → xm_W K 0 0 30 [(0, xm_r (some h)), (1, xm_i x1), (2, xm_i x2), (3, xm_i x3), (4, xm_i x4)] [] S) (h1 : wp_X12_rollback_47 h x1 x2 x3 x4 x5 x6 S g Z30) : xm_W K 0 0 47 [(0, xm_r (some h)), (1, xm_i x1), (2, xm_i x2), (3, xm_i x3), (4, xm_i x4), (5, xm_i x5), (6, xm_i x6)] [] S :=
  h1 (fun x1 x2 x3 x4 x5 x6 S => xm_W K 0 0 47 [(0, xm_r (some h)), (1, xm_i x1), (2, xm_i x2), (3, xm_i x3), (4, xm_i x4), (5, xm_i x5), (6, xm_i x6)] [] S) (fun x1 x2 x3 x4 x5 x6 S hb => kp_X12_rollback_47B h x1 x2 x3 x4 x5 x6 S C N hg hZ30 (fun x1 x2 x3 x4 x5 x6 S hz => hz) hb)
def wp_X12_rollback_116B (h : Nat) (x1 : Int32) (x2 : Int32) (x3 : Int32) (x4 : Int32) (S : xm_S) (g : Int32 → xm_S → Prop) (Z116 : Int32 → Int32 → Int32 → Int32 → xm_S → Prop) : Prop :=
  ((nI 54) ≤ x4 → st_t S h = some (12, 0) ∧ ∀ S19, S19 = st_pi S h 55 x1 → g x3 S19) ∧ (¬ (nI 54) ≤ x4 → st_t S h = some (12, 0) ∧ ∃ n22, (st_r S h 59) = some n22 ∧ ∃ z25, st_t S n22 = some (100, z25) ∧ vp_in (((nI 54) * x2) + x4) z25 ∧ ∃ n27, (st_r S h 50) = some n27 ∧ ∃ z30, st_t S n27 = some (100, z30) ∧ vp_in x4 z30 ∧ ∀ S32, S32 = st_pi S n27 (x4).toNatClampNeg (st_i S n22 ((((nI 54) * x2) + x4)).toNatClampNeg) → ∀ y34, y34 = (x4 + (1 : Int32)) → Z116 x1 x2 x3 y34 S32)
def wp_X12_rollback_116 (h : Nat) (x1 : Int32) (x2 : Int32) (x3 : Int32) (x4 : Int32) (S : xm_S) (g : Int32 → xm_S → Prop) : Prop :=
  ∀ Z116 : Int32 → Int32 → Int32 → Int32 → xm_S → Prop, (∀ x1 x2 x3 x4 S, wp_X12_rollback_116B h x1 x2 x3 x4 S g Z116 → Z116 x1 x2 x3 x4 S) → Z116 x1 x2 x3 x4 S
set_option maxRecDepth 100000 in
set_option maxHeartbeats 4000000 in
theorem kp_X12_rollback_116B {K : xm_K} (h : Nat) (x1 : Int32) (x2 : Int32) (x3 : Int32) (x4 : Int32) (S : xm_S) {g : Int32 → xm_S → Prop} {Z116 : Int32 → Int32 → Int32 → Int32 → xm_S → Prop} (C : xm_Cx K cX12_rollback RX12 7 (some (FieldType.int)) rm_X12_rollback) (N : xm_Nx K) (hg : ∀ v S, g v S → xm_q K (some (xm_i v)) S) (hZ116 : ∀ x1 x2 x3 x4 S, Z116 x1 x2 x3 x4 S → xm_W K 0 0 116 [(0, xm_r (some h)), (1, xm_i x1), (2, xm_i x2), (3, xm_i x3), (4, xm_i x4)] [] S) (h1 : wp_X12_rollback_116B h x1 x2 x3 x4 S g Z116) : xm_W K 0 0 116 [(0, xm_r (some h)), (1, xm_i x1), (2, xm_i x2), (3, xm_i x3), (4, xm_i x4)] [] S := by
  unfold wp_X12_rollback_116B at h1
  refine x_iload C 4 dX12_rollback_116 rfl ?_
  refine x_bipush (v := (nI 54)) C dX12_rollback_118 (by decide) ?_
  refine x_icmp_ge (tgt := 148) C dX12_rollback_120 (by decide) (fun z9 => ?_) (fun z9 => ?_)
  · have h1 := h1.1 z9
    refine x_aload_n C 0 dX12_rollback_148 rfl rfl ?_
    refine x_iload_n C 1 dX12_rollback_149 rfl rfl ?_
    obtain ⟨ht18, h1⟩ := h1
    refine x_putf_i (n := h) C rfl ht18 fd_200 xc_12 (by decide) rfl ⟨rfl, rfl⟩ dX12_rollback_150 ?_
    refine x_topS (fun S19 e20 => ?_)
    have h1 := h1 S19 e20
    refine x_iload_n C 3 dX12_rollback_153 rfl rfl ?_
    exact x_iret C (Nat.le_of_ble_eq_true rfl) (Nat.le_of_ble_eq_true rfl) rfl dX12_rollback_154 (hg _ _ h1)
  · have h1 := h1.2 z9
    refine x_aload_n C 0 dX12_rollback_123 rfl rfl ?_
    obtain ⟨ht21, h1⟩ := h1
    refine x_getf_r (n := h) C rfl ht21 fd_203 (by decide) dX12_rollback_124 ?_
    refine x_iload C 4 dX12_rollback_127 rfl ?_
    refine x_aload_n C 0 dX12_rollback_129 rfl rfl ?_
    refine x_getf_r (n := h) C rfl ht21 fd_196 (by decide) dX12_rollback_130 ?_
    refine x_bipush (v := (nI 54)) C dX12_rollback_133 (by decide) ?_
    refine x_iload_n C 2 dX12_rollback_135 rfl rfl ?_
    refine x_imul C dX12_rollback_136 ?_
    refine x_iload C 4 dX12_rollback_137 rfl ?_
    refine x_iadd C dX12_rollback_139 ?_
    obtain ⟨n22, hr23, h1⟩ := h1
    obtain ⟨z25, ht24, h1⟩ := h1
    obtain ⟨hi26, h1⟩ := h1
    refine x_iald (n := n22) C hr23 ht24 hi26 dX12_rollback_140 ?_
    obtain ⟨n27, hr28, h1⟩ := h1
    obtain ⟨z30, ht29, h1⟩ := h1
    obtain ⟨hi31, h1⟩ := h1
    refine x_iast (n := n27) C hr28 ht29 hi31 dX12_rollback_141 ?_
    refine x_topS (fun S32 e33 => ?_)
    have h1 := h1 S32 e33
    obtain ⟨y34, e35⟩ : ∃ y34, y34 = (x4 + (1 : Int32)) := ⟨_, rfl⟩
    have h1 := h1 y34 e35
    refine x_iinc (v := y34) (L' := [(4, xm_i y34), (0, xm_r (some h)), (1, xm_i x1), (2, xm_i x2), (3, xm_i x3)]) C 4 dX12_rollback_142 rfl (by rw [e35]; rfl) (by decide) rfl ?_
    refine x_goto (tgt := 116) C dX12_rollback_145 (by decide) ?_
    refine x_keep (L' := [(0, xm_r (some h)), (1, xm_i x1), (2, xm_i x2), (3, xm_i x3), (4, xm_i y34)]) C [1, 2, 3, 4, 0] rfl ?_
    exact hZ116 x1 x2 x3 y34 S32 h1
theorem kp_X12_rollback_116 {K : xm_K} (h : Nat) (x1 : Int32) (x2 : Int32) (x3 : Int32) (x4 : Int32) (S : xm_S) {g : Int32 → xm_S → Prop} (C : xm_Cx K cX12_rollback RX12 7 (some (FieldType.int)) rm_X12_rollback) (N : xm_Nx K) (hg : ∀ v S, g v S → xm_q K (some (xm_i v)) S)  (h1 : wp_X12_rollback_116 h x1 x2 x3 x4 S g) : xm_W K 0 0 116 [(0, xm_r (some h)), (1, xm_i x1), (2, xm_i x2), (3, xm_i x3), (4, xm_i x4)] [] S :=
  h1 (fun x1 x2 x3 x4 S => xm_W K 0 0 116 [(0, xm_r (some h)), (1, xm_i x1), (2, xm_i x2), (3, xm_i x3), (4, xm_i x4)] [] S) (fun x1 x2 x3 x4 S hb => kp_X12_rollback_116B h x1 x2 x3 x4 S C N hg (fun x1 x2 x3 x4 S hz => hz) hb)
def wp_X12_rollback_30B (h : Nat) (x1 : Int32) (x2 : Int32) (x3 : Int32) (x4 : Int32) (S : xm_S) (g : Int32 → xm_S → Prop) (Z30 : Int32 → Int32 → Int32 → Int32 → xm_S → Prop) : Prop :=
  ((nI 16) ≤ x4 → wp_X12_rollback_116 h x1 x2 x3 (0 : Int32) S g) ∧ (¬ (nI 16) ≤ x4 → ∀ y36, y36 = ((nI 6) + x4) → wp_X12_rollback_47 h x1 x2 x3 x4 (1 : Int32) y36 S g Z30)
def wp_X12_rollback_30 (h : Nat) (x1 : Int32) (x2 : Int32) (x3 : Int32) (x4 : Int32) (S : xm_S) (g : Int32 → xm_S → Prop) : Prop :=
  ∀ Z30 : Int32 → Int32 → Int32 → Int32 → xm_S → Prop, (∀ x1 x2 x3 x4 S, wp_X12_rollback_30B h x1 x2 x3 x4 S g Z30 → Z30 x1 x2 x3 x4 S) → Z30 x1 x2 x3 x4 S
set_option maxRecDepth 100000 in
set_option maxHeartbeats 4000000 in
theorem kp_X12_rollback_30B {K : xm_K} (h : Nat) (x1 : Int32) (x2 : Int32) (x3 : Int32) (x4 : Int32) (S : xm_S) {g : Int32 → xm_S → Prop} {Z30 : Int32 → Int32 → Int32 → Int32 → xm_S → Prop} (C : xm_Cx K cX12_rollback RX12 7 (some (FieldType.int)) rm_X12_rollback) (N : xm_Nx K) (hg : ∀ v S, g v S → xm_q K (some (xm_i v)) S) (hZ30 : ∀ x1 x2 x3 x4 S, Z30 x1 x2 x3 x4 S → xm_W K 0 0 30 [(0, xm_r (some h)), (1, xm_i x1), (2, xm_i x2), (3, xm_i x3), (4, xm_i x4)] [] S) (h1 : wp_X12_rollback_30B h x1 x2 x3 x4 S g Z30) : xm_W K 0 0 30 [(0, xm_r (some h)), (1, xm_i x1), (2, xm_i x2), (3, xm_i x3), (4, xm_i x4)] [] S := by
  unfold wp_X12_rollback_30B at h1
  refine x_iload C 4 dX12_rollback_30 rfl ?_
  refine x_bipush (v := (nI 16)) C dX12_rollback_32 (by decide) ?_
  refine x_icmp_ge (tgt := 113) C dX12_rollback_34 (by decide) (fun z9 => ?_) (fun z9 => ?_)
  · have h1 := h1.1 z9
    refine x_iconst (v := (0 : Int32)) C dX12_rollback_113 (by decide) ?_
    refine x_istore (L' := [(4, xm_i (0 : Int32)), (0, xm_r (some h)), (1, xm_i x1), (2, xm_i x2), (3, xm_i x3)]) C dX12_rollback_114 (by decide) rfl ?_
    refine x_keep (L' := [(0, xm_r (some h)), (1, xm_i x1), (2, xm_i x2), (3, xm_i x3), (4, xm_i (0 : Int32))]) C [1, 2, 3, 4, 0] rfl ?_
    exact kp_X12_rollback_116 h x1 x2 x3 (0 : Int32) S C N hg  h1
  · have h1 := h1.2 z9
    refine x_iconst (v := (1 : Int32)) C dX12_rollback_37 (by decide) ?_
    refine x_istore (L' := [(5, xm_i (1 : Int32)), (0, xm_r (some h)), (1, xm_i x1), (2, xm_i x2), (3, xm_i x3), (4, xm_i x4)]) C dX12_rollback_38 (by decide) rfl ?_
    refine x_bipush (v := (nI 6)) C dX12_rollback_40 (by decide) ?_
    refine x_iload C 5 dX12_rollback_42 rfl ?_
    refine x_iadd C dX12_rollback_44 ?_
    refine x_topi (fun y36 e37 => ?_)
    have h1 := h1 y36 e37
    refine x_istore (L' := [(6, xm_i y36), (5, xm_i (1 : Int32)), (0, xm_r (some h)), (1, xm_i x1), (2, xm_i x2), (3, xm_i x3), (4, xm_i x4)]) C dX12_rollback_45 (by decide) rfl ?_
    refine x_keep (L' := [(0, xm_r (some h)), (1, xm_i x1), (2, xm_i x2), (3, xm_i x3), (4, xm_i x4), (5, xm_i (1 : Int32)), (6, xm_i y36)]) C [2, 3, 4, 5, 6, 1, 0] rfl ?_
    exact kp_X12_rollback_47 h x1 x2 x3 x4 (1 : Int32) y36 S C N hg hZ30 h1
theorem kp_X12_rollback_30 {K : xm_K} (h : Nat) (x1 : Int32) (x2 : Int32) (x3 : Int32) (x4 : Int32) (S : xm_S) {g : Int32 → xm_S → Prop} (C : xm_Cx K cX12_rollback RX12 7 (some (FieldType.int)) rm_X12_rollback) (N : xm_Nx K) (hg : ∀ v S, g v S → xm_q K (some (xm_i v)) S)  (h1 : wp_X12_rollback_30 h x1 x2 x3 x4 S g) : xm_W K 0 0 30 [(0, xm_r (some h)), (1, xm_i x1), (2, xm_i x2), (3, xm_i x3), (4, xm_i x4)] [] S :=
  h1 (fun x1 x2 x3 x4 S => xm_W K 0 0 30 [(0, xm_r (some h)), (1, xm_i x1), (2, xm_i x2), (3, xm_i x3), (4, xm_i x4)] [] S) (fun x1 x2 x3 x4 S hb => kp_X12_rollback_30B h x1 x2 x3 x4 S C N hg (fun x1 x2 x3 x4 S hz => hz) hb)
def wp_X12_rollback_17 (h : Nat) (x1 : Int32) (x2 : Int32) (s0 : Int32) (s1 : Option Nat) (S : xm_S) (g : Int32 → xm_S → Prop) : Prop :=
  ∃ n38, s1 = some n38 ∧ st_t S n38 = some (12, 0) ∧ wp_X12_may n38 s0 S (fun r42 S41 => (¬ r42 = 0 → wp_X12_rollback_30 h x1 x2 (0 : Int32) (0 : Int32) S41 g) ∧ (r42 = 0 → g (0 : Int32) S41))
set_option maxRecDepth 100000 in
set_option maxHeartbeats 4000000 in
theorem kp_X12_rollback_17 {K : xm_K} (h : Nat) (x1 : Int32) (x2 : Int32) (s0 : Int32) (s1 : Option Nat) (S : xm_S) {g : Int32 → xm_S → Prop} (C : xm_Cx K cX12_rollback RX12 7 (some (FieldType.int)) rm_X12_rollback) (N : xm_Nx K) (hg : ∀ v S, g v S → xm_q K (some (xm_i v)) S)  (h1 : wp_X12_rollback_17 h x1 x2 s0 s1 S g) : xm_W K 0 0 17 [(0, xm_r (some h)), (1, xm_i x1), (2, xm_i x2)] [xm_i s0, xm_r s1] S := by
  unfold wp_X12_rollback_17 at h1
  obtain ⟨n38, hr39, h1⟩ := h1
  obtain ⟨ht40, h1⟩ := h1
  refine x_callV (rm' := rm_X12_may) (n := n38) C (kp_X12_may_met h1) lk_95 gw_572 gw_573 xv_12 rfl hr39 ht40 rfl (Nat.le_of_ble_eq_true rfl) ⟨Nat.le_of_ble_eq_true rfl, Nat.le_of_ble_eq_true rfl, (Nat.le_of_ble_eq_true rfl), (Nat.le_of_ble_eq_true rfl)⟩ dX12_rollback_17 xm_kx (xm_ki (fun r42 S41 h1 => ?_))
  refine x_if_ne (tgt := 25) C dX12_rollback_20 (by decide) (fun z9 => ?_) (fun z9 => ?_)
  · have h1 := h1.1 z9
    refine x_iconst (v := (0 : Int32)) C dX12_rollback_25 (by decide) ?_
    refine x_istore_n (L' := [(3, xm_i (0 : Int32)), (0, xm_r (some h)), (1, xm_i x1), (2, xm_i x2)]) C dX12_rollback_26 rfl (by decide) rfl ?_
    refine x_iconst (v := (0 : Int32)) C dX12_rollback_27 (by decide) ?_
    refine x_istore (L' := [(4, xm_i (0 : Int32)), (3, xm_i (0 : Int32)), (0, xm_r (some h)), (1, xm_i x1), (2, xm_i x2)]) C dX12_rollback_28 (by decide) rfl ?_
    refine x_keep (L' := [(0, xm_r (some h)), (1, xm_i x1), (2, xm_i x2), (3, xm_i (0 : Int32)), (4, xm_i (0 : Int32))]) C [2, 3, 4, 1, 0] rfl ?_
    exact kp_X12_rollback_30 h x1 x2 (0 : Int32) (0 : Int32) S41 C N hg  h1
  · have h1 := h1.2 z9
    refine x_iconst (v := (0 : Int32)) C dX12_rollback_23 (by decide) ?_
    exact x_iret C (Nat.le_of_ble_eq_true rfl) (Nat.le_of_ble_eq_true rfl) rfl dX12_rollback_24 (hg _ _ h1)
def wp_X12_rollback (h : Nat) (x1 : Int32) (S : xm_S) (g : Int32 → xm_S → Prop) : Prop :=
  st_t S h = some (12, 0) ∧ wp_X12_placeKept h x1 S (fun r45 S44 => (¬ r45 = (-1 : Int32) → wp_X12_rollback_17 h x1 r45 (0 : Int32) (some h) S44 g) ∧ (r45 = (-1 : Int32) → wp_X12_rollback_17 h x1 r45 (1 : Int32) (some h) S44 g))
set_option maxRecDepth 100000 in
set_option maxHeartbeats 4000000 in
theorem kp_X12_rollback {K : xm_K} (h : Nat) (x1 : Int32) (S : xm_S) {g : Int32 → xm_S → Prop} (C : xm_Cx K cX12_rollback RX12 7 (some (FieldType.int)) rm_X12_rollback) (N : xm_Nx K) (hg : ∀ v S, g v S → xm_q K (some (xm_i v)) S)  (h1 : wp_X12_rollback h x1 S g) : xm_W K 0 0 0 [(0, xm_r (some h)), (1, xm_i x1)] [] S := by
  unfold wp_X12_rollback at h1
  refine x_aload_n C 0 dX12_rollback_0 rfl rfl ?_
  refine x_iload_n C 1 dX12_rollback_1 rfl rfl ?_
  obtain ⟨ht43, h1⟩ := h1
  refine x_callV (rm' := rm_X12_placeKept) (n := h) C (kp_X12_placeKept_met h1) lk_130 gw_768 gw_769 xv_12 rfl rfl ht43 rfl (Nat.le_of_ble_eq_true rfl) ⟨Nat.le_of_ble_eq_true rfl, Nat.le_of_ble_eq_true rfl, (Nat.le_of_ble_eq_true rfl), (Nat.le_of_ble_eq_true rfl)⟩ dX12_rollback_2 xm_kx (xm_ki (fun r45 S44 h1 => ?_))
  refine x_istore_n (L' := [(2, xm_i r45), (0, xm_r (some h)), (1, xm_i x1)]) C dX12_rollback_5 rfl (by decide) rfl ?_
  refine x_aload_n C 1 dX12_rollback_6 rfl rfl ?_
  refine x_iload_n C 0 dX12_rollback_7 rfl rfl ?_
  refine x_iconst (v := (-1 : Int32)) C dX12_rollback_8 (by decide) ?_
  refine x_icmp_ne (tgt := 16) C dX12_rollback_9 (by decide) (fun z9 => ?_) (fun z9 => ?_)
  · have h1 := h1.1 z9
    refine x_iconst (v := (0 : Int32)) C dX12_rollback_16 (by decide) ?_
    refine x_keep (L' := [(0, xm_r (some h)), (1, xm_i x1), (2, xm_i r45)]) C [1, 2, 0] rfl ?_
    exact kp_X12_rollback_17 h x1 r45 (0 : Int32) (some h) S44 C N hg  h1
  · have h1 := h1.2 z9
    refine x_iconst (v := (1 : Int32)) C dX12_rollback_12 (by decide) ?_
    refine x_goto (tgt := 17) C dX12_rollback_13 (by decide) ?_
    refine x_keep (L' := [(0, xm_r (some h)), (1, xm_i x1), (2, xm_i r45)]) C [1, 2, 0] rfl ?_
    exact kp_X12_rollback_17 h x1 r45 (1 : Int32) (some h) S44 C N hg  h1
theorem kp_X12_rollback_met {h : Nat} {x1 : Int32} {S : xm_S} {g : Int32 → xm_S → Prop}  (h1 : wp_X12_rollback h x1 S g) : xm_Met yX12_rollback cX12_rollback 7 (some (FieldType.int)) rm_X12_rollback [xm_r (some h), xm_i x1] S (xm_qi g) xm_nox :=
  xm_ofW RX12 (by decide +kernel) rfl (Nat.le_of_ble_eq_true rfl) (fun K C N hq hx hi => kp_X12_rollback h x1 S C N (fun v S h => by rw [hq]; exact ⟨v, rfl, h⟩)  h1)
def rm_X12_run : Room := { frames := 2, cells := 0, slots := 0, locals := 43 }
theorem dX12_run_0 : decode cX12_run 0 = .ok (.aload_n 0, 1) := by decide +kernel
theorem dX12_run_1 : decode cX12_run 1 = .ok (.iload_n 1, 1) := by decide +kernel
theorem dX12_run_2 : decode cX12_run 2 = .ok (.invokevirtual 367, 3) := by decide +kernel
theorem dX12_run_5 : decode cX12_run 5 = .ok (.istore_n 3, 1) := by decide +kernel
theorem dX12_run_6 : decode cX12_run 6 = .ok (.aload_n 0, 1) := by decide +kernel
theorem dX12_run_7 : decode cX12_run 7 = .ok (.iload_n 3, 1) := by decide +kernel
theorem dX12_run_8 : decode cX12_run 8 = .ok (.iconst (-1), 1) := by decide +kernel
theorem dX12_run_9 : decode cX12_run 9 = .ok (.if_icmp .ne 7, 3) := by decide +kernel
theorem dX12_run_12 : decode cX12_run 12 = .ok (.iconst 1, 1) := by decide +kernel
theorem dX12_run_13 : decode cX12_run 13 = .ok (.goto 4, 3) := by decide +kernel
theorem dX12_run_16 : decode cX12_run 16 = .ok (.iconst 0, 1) := by decide +kernel
theorem dX12_run_17 : decode cX12_run 17 = .ok (.invokevirtual 182, 3) := by decide +kernel
theorem dX12_run_20 : decode cX12_run 20 = .ok (.ifCond .ne 5, 3) := by decide +kernel
theorem dX12_run_23 : decode cX12_run 23 = .ok (.iconst 0, 1) := by decide +kernel
theorem dX12_run_24 : decode cX12_run 24 = .ok (.ireturn, 1) := by decide +kernel
theorem dX12_run_25 : decode cX12_run 25 = .ok (.aload_n 0, 1) := by decide +kernel
theorem dX12_run_26 : decode cX12_run 26 = .ok (.getfield 160, 3) := by decide +kernel
theorem dX12_run_29 : decode cX12_run 29 = .ok (.iload_n 3, 1) := by decide +kernel
theorem dX12_run_30 : decode cX12_run 30 = .ok (.baload, 1) := by decide +kernel
theorem dX12_run_31 : decode cX12_run 31 = .ok (.istore 4, 2) := by decide +kernel
theorem dX12_run_33 : decode cX12_run 33 = .ok (.aload_n 0, 1) := by decide +kernel
theorem dX12_run_34 : decode cX12_run 34 = .ok (.getfield 160, 3) := by decide +kernel
theorem dX12_run_37 : decode cX12_run 37 = .ok (.iload_n 3, 1) := by decide +kernel
theorem dX12_run_38 : decode cX12_run 38 = .ok (.iload_n 2, 1) := by decide +kernel
theorem dX12_run_39 : decode cX12_run 39 = .ok (.bastore, 1) := by decide +kernel
theorem dX12_run_40 : decode cX12_run 40 = .ok (.iload 4, 2) := by decide +kernel
theorem dX12_run_42 : decode cX12_run 42 = .ok (.ireturn, 1) := by decide +kernel
def wp_X12_run_17 (h : Nat) (x2 : Int32) (x3 : Int32) (s0 : Int32) (s1 : Option Nat) (S : xm_S) (g : Int32 → xm_S → Prop) : Prop :=
  ∃ n1, s1 = some n1 ∧ st_t S n1 = some (12, 0) ∧ wp_X12_may n1 s0 S (fun r5 S4 => (¬ r5 = 0 → st_t S4 h = some (12, 0) ∧ ∃ n7, (st_r S4 h 58) = some n7 ∧ ∃ z10, st_t S4 n7 = some (101, z10) ∧ vp_in x3 z10 ∧ ∀ y12, y12 = (st_i S4 n7 (x3).toNatClampNeg) → ∃ n14, (st_r S4 h 58) = some n14 ∧ ∃ z17, st_t S4 n14 = some (101, z17) ∧ vp_in x3 z17 ∧ (x2 = 0 ∨ x2 = 1) ∧ ∀ S20, S20 = st_pi S4 n14 (x3).toNatClampNeg x2 → (y12 = 0 ∨ y12 = 1) ∧ g y12 S20) ∧ (r5 = 0 → g (0 : Int32) S4))
set_option maxRecDepth 100000 in
set_option maxHeartbeats 4000000 in
theorem kp_X12_run_17 {K : xm_K} (h : Nat) (x2 : Int32) (x3 : Int32) (s0 : Int32) (s1 : Option Nat) (S : xm_S) {g : Int32 → xm_S → Prop} (C : xm_Cx K cX12_run RX12 5 (some (FieldType.boolean)) rm_X12_run) (N : xm_Nx K) (hg : ∀ v S, g v S → xm_q K (some (xm_i v)) S)  (h1 : wp_X12_run_17 h x2 x3 s0 s1 S g) : xm_W K 0 0 17 [(0, xm_r (some h)), (2, xm_i x2), (3, xm_i x3)] [xm_i s0, xm_r s1] S := by
  unfold wp_X12_run_17 at h1
  obtain ⟨n1, hr2, h1⟩ := h1
  obtain ⟨ht3, h1⟩ := h1
  refine x_callV (rm' := rm_X12_may) (n := n1) C (kp_X12_may_met h1) lk_95 gw_572 gw_573 xv_12 rfl hr2 ht3 rfl (Nat.le_of_ble_eq_true rfl) ⟨Nat.le_of_ble_eq_true rfl, Nat.le_of_ble_eq_true rfl, (Nat.le_of_ble_eq_true rfl), (Nat.le_of_ble_eq_true rfl)⟩ dX12_run_17 xm_kx (xm_ki (fun r5 S4 h1 => ?_))
  refine x_if_ne (tgt := 25) C dX12_run_20 (by decide) (fun z9 => ?_) (fun z9 => ?_)
  · have h1 := h1.1 z9
    refine x_aload_n C 0 dX12_run_25 rfl rfl ?_
    obtain ⟨ht6, h1⟩ := h1
    refine x_getf_r (n := h) C rfl ht6 fd_199 (by decide) dX12_run_26 ?_
    refine x_iload_n C 2 dX12_run_29 rfl rfl ?_
    obtain ⟨n7, hr8, h1⟩ := h1
    obtain ⟨z10, ht9, h1⟩ := h1
    obtain ⟨hi11, h1⟩ := h1
    refine x_zald (n := n7) C hr8 ht9 hi11 dX12_run_30 ?_
    refine x_topi (fun y12 e13 => ?_)
    have h1 := h1 y12 e13
    refine x_istore (L' := [(4, xm_i y12), (0, xm_r (some h)), (2, xm_i x2), (3, xm_i x3)]) C dX12_run_31 (by decide) rfl ?_
    refine x_aload_n C 1 dX12_run_33 rfl rfl ?_
    refine x_getf_r (n := h) C rfl ht6 fd_199 (by decide) dX12_run_34 ?_
    refine x_iload_n C 3 dX12_run_37 rfl rfl ?_
    refine x_iload_n C 2 dX12_run_38 rfl rfl ?_
    obtain ⟨n14, hr15, h1⟩ := h1
    obtain ⟨z17, ht16, h1⟩ := h1
    obtain ⟨hi18, h1⟩ := h1
    obtain ⟨hz19, h1⟩ := h1
    refine x_zast (n := n14) C hr15 ht16 hi18 hz19 dX12_run_39 ?_
    refine x_topS (fun S20 e21 => ?_)
    have h1 := h1 S20 e21
    refine x_iload C 0 dX12_run_40 rfl ?_
    exact x_zret C (Nat.le_of_ble_eq_true rfl) (Nat.le_of_ble_eq_true rfl) rfl h1.1 dX12_run_42 (hg _ _ h1.2)
  · have h1 := h1.2 z9
    refine x_iconst (v := (0 : Int32)) C dX12_run_23 (by decide) ?_
    exact x_zret C (Nat.le_of_ble_eq_true rfl) (Nat.le_of_ble_eq_true rfl) rfl (by decide) dX12_run_24 (hg _ _ h1)
def wp_X12_run (h : Nat) (x1 : Int32) (x2 : Int32) (S : xm_S) (g : Int32 → xm_S → Prop) : Prop :=
  st_t S h = some (12, 0) ∧ wp_X12_placeKept h x1 S (fun r24 S23 => (¬ r24 = (-1 : Int32) → wp_X12_run_17 h x2 r24 (0 : Int32) (some h) S23 g) ∧ (r24 = (-1 : Int32) → wp_X12_run_17 h x2 r24 (1 : Int32) (some h) S23 g))
set_option maxRecDepth 100000 in
set_option maxHeartbeats 4000000 in
theorem kp_X12_run {K : xm_K} (h : Nat) (x1 : Int32) (x2 : Int32) (S : xm_S) {g : Int32 → xm_S → Prop} (C : xm_Cx K cX12_run RX12 5 (some (FieldType.boolean)) rm_X12_run) (N : xm_Nx K) (hg : ∀ v S, g v S → xm_q K (some (xm_i v)) S)  (h1 : wp_X12_run h x1 x2 S g) : xm_W K 0 0 0 [(0, xm_r (some h)), (1, xm_i x1), (2, xm_i x2)] [] S := by
  unfold wp_X12_run at h1
  refine x_aload_n C 0 dX12_run_0 rfl rfl ?_
  refine x_iload_n C 1 dX12_run_1 rfl rfl ?_
  obtain ⟨ht22, h1⟩ := h1
  refine x_callV (rm' := rm_X12_placeKept) (n := h) C (kp_X12_placeKept_met h1) lk_130 gw_768 gw_769 xv_12 rfl rfl ht22 rfl (Nat.le_of_ble_eq_true rfl) ⟨Nat.le_of_ble_eq_true rfl, Nat.le_of_ble_eq_true rfl, (Nat.le_of_ble_eq_true rfl), (Nat.le_of_ble_eq_true rfl)⟩ dX12_run_2 xm_kx (xm_ki (fun r24 S23 h1 => ?_))
  refine x_istore_n (L' := [(3, xm_i r24), (0, xm_r (some h)), (1, xm_i x1), (2, xm_i x2)]) C dX12_run_5 rfl (by decide) rfl ?_
  refine x_aload_n C 1 dX12_run_6 rfl rfl ?_
  refine x_iload_n C 0 dX12_run_7 rfl rfl ?_
  refine x_iconst (v := (-1 : Int32)) C dX12_run_8 (by decide) ?_
  refine x_icmp_ne (tgt := 16) C dX12_run_9 (by decide) (fun z9 => ?_) (fun z9 => ?_)
  · have h1 := h1.1 z9
    refine x_iconst (v := (0 : Int32)) C dX12_run_16 (by decide) ?_
    refine x_keep (L' := [(0, xm_r (some h)), (2, xm_i x2), (3, xm_i r24)]) C [1, 3, 0] rfl ?_
    exact kp_X12_run_17 h x2 r24 (0 : Int32) (some h) S23 C N hg  h1
  · have h1 := h1.2 z9
    refine x_iconst (v := (1 : Int32)) C dX12_run_12 (by decide) ?_
    refine x_goto (tgt := 17) C dX12_run_13 (by decide) ?_
    refine x_keep (L' := [(0, xm_r (some h)), (2, xm_i x2), (3, xm_i r24)]) C [1, 3, 0] rfl ?_
    exact kp_X12_run_17 h x2 r24 (1 : Int32) (some h) S23 C N hg  h1
theorem kp_X12_run_met {h : Nat} {x1 : Int32} {x2 : Int32} {S : xm_S} {g : Int32 → xm_S → Prop}  (h1 : wp_X12_run h x1 x2 S g) : xm_Met yX12_run cX12_run 5 (some (FieldType.boolean)) rm_X12_run [xm_r (some h), xm_i x1, xm_i x2] S (xm_qi g) xm_nox :=
  xm_ofW RX12 (by decide +kernel) rfl (Nat.le_of_ble_eq_true rfl) (fun K C N hq hx hi => kp_X12_run h x1 x2 S C N (fun v S h => by rw [hq]; exact ⟨v, rfl, h⟩)  h1)
def rm_X12_scheme : Room := { frames := 3, cells := 0, slots := 0, locals := 62 }
theorem dX12_scheme_0 : decode cX12_scheme 0 = .ok (.aload_n 0, 1) := by decide +kernel
theorem dX12_scheme_1 : decode cX12_scheme 1 = .ok (.iload_n 1, 1) := by decide +kernel
theorem dX12_scheme_2 : decode cX12_scheme 2 = .ok (.invokestatic 176, 3) := by decide +kernel
theorem dX12_scheme_5 : decode cX12_scheme 5 = .ok (.ifCond .ne 7, 3) := by decide +kernel
theorem dX12_scheme_8 : decode cX12_scheme 8 = .ok (.iconst 1, 1) := by decide +kernel
theorem dX12_scheme_9 : decode cX12_scheme 9 = .ok (.goto 17, 3) := by decide +kernel
theorem dX12_scheme_12 : decode cX12_scheme 12 = .ok (.iload_n 2, 1) := by decide +kernel
theorem dX12_scheme_13 : decode cX12_scheme 13 = .ok (.iconst 0, 1) := by decide +kernel
theorem dX12_scheme_14 : decode cX12_scheme 14 = .ok (.iconst 2, 1) := by decide +kernel
theorem dX12_scheme_15 : decode cX12_scheme 15 = .ok (.invokestatic 172, 3) := by decide +kernel
theorem dX12_scheme_18 : decode cX12_scheme 18 = .ok (.ifCond .eq 7, 3) := by decide +kernel
theorem dX12_scheme_21 : decode cX12_scheme 21 = .ok (.iconst 0, 1) := by decide +kernel
theorem dX12_scheme_22 : decode cX12_scheme 22 = .ok (.goto 4, 3) := by decide +kernel
theorem dX12_scheme_25 : decode cX12_scheme 25 = .ok (.iconst 2, 1) := by decide +kernel
theorem dX12_scheme_26 : decode cX12_scheme 26 = .ok (.invokevirtual 182, 3) := by decide +kernel
theorem dX12_scheme_29 : decode cX12_scheme 29 = .ok (.ifCond .ne 5, 3) := by decide +kernel
theorem dX12_scheme_32 : decode cX12_scheme 32 = .ok (.iconst 0, 1) := by decide +kernel
theorem dX12_scheme_33 : decode cX12_scheme 33 = .ok (.ireturn, 1) := by decide +kernel
theorem dX12_scheme_34 : decode cX12_scheme 34 = .ok (.aload_n 0, 1) := by decide +kernel
theorem dX12_scheme_35 : decode cX12_scheme 35 = .ok (.getfield 7, 3) := by decide +kernel
theorem dX12_scheme_38 : decode cX12_scheme 38 = .ok (.iload_n 1, 1) := by decide +kernel
theorem dX12_scheme_39 : decode cX12_scheme 39 = .ok (.iaload, 1) := by decide +kernel
theorem dX12_scheme_40 : decode cX12_scheme 40 = .ok (.istore_n 3, 1) := by decide +kernel
theorem dX12_scheme_41 : decode cX12_scheme 41 = .ok (.aload_n 0, 1) := by decide +kernel
theorem dX12_scheme_42 : decode cX12_scheme 42 = .ok (.getfield 7, 3) := by decide +kernel
theorem dX12_scheme_45 : decode cX12_scheme 45 = .ok (.iload_n 1, 1) := by decide +kernel
theorem dX12_scheme_46 : decode cX12_scheme 46 = .ok (.iload_n 2, 1) := by decide +kernel
theorem dX12_scheme_47 : decode cX12_scheme 47 = .ok (.iastore, 1) := by decide +kernel
theorem dX12_scheme_48 : decode cX12_scheme 48 = .ok (.iload_n 3, 1) := by decide +kernel
theorem dX12_scheme_49 : decode cX12_scheme 49 = .ok (.ireturn, 1) := by decide +kernel
def wp_X12_scheme_26 (h : Nat) (x1 : Int32) (x2 : Int32) (s0 : Int32) (s1 : Option Nat) (S : xm_S) (g : Int32 → xm_S → Prop) : Prop :=
  ∃ n1, s1 = some n1 ∧ st_t S n1 = some (12, 0) ∧ wp_X12_may n1 s0 S (fun r5 S4 => (¬ r5 = 0 → st_t S4 h = some (12, 0) ∧ ∃ n7, (st_r S4 h 1) = some n7 ∧ ∃ z10, st_t S4 n7 = some (100, z10) ∧ vp_in x1 z10 ∧ ∀ y12, y12 = (st_i S4 n7 (x1).toNatClampNeg) → ∃ n14, (st_r S4 h 1) = some n14 ∧ ∃ z17, st_t S4 n14 = some (100, z17) ∧ vp_in x1 z17 ∧ ∀ S19, S19 = st_pi S4 n14 (x1).toNatClampNeg x2 → g y12 S19) ∧ (r5 = 0 → g (0 : Int32) S4))
set_option maxRecDepth 100000 in
set_option maxHeartbeats 4000000 in
theorem kp_X12_scheme_26 {K : xm_K} (h : Nat) (x1 : Int32) (x2 : Int32) (s0 : Int32) (s1 : Option Nat) (S : xm_S) {g : Int32 → xm_S → Prop} (C : xm_Cx K cX12_scheme RX12 4 (some (FieldType.int)) rm_X12_scheme) (N : xm_Nx K) (hg : ∀ v S, g v S → xm_q K (some (xm_i v)) S)  (h1 : wp_X12_scheme_26 h x1 x2 s0 s1 S g) : xm_W K 0 0 26 [(0, xm_r (some h)), (1, xm_i x1), (2, xm_i x2)] [xm_i s0, xm_r s1] S := by
  unfold wp_X12_scheme_26 at h1
  obtain ⟨n1, hr2, h1⟩ := h1
  obtain ⟨ht3, h1⟩ := h1
  refine x_callV (rm' := rm_X12_may) (n := n1) C (kp_X12_may_met h1) lk_95 gw_572 gw_573 xv_12 rfl hr2 ht3 rfl (Nat.le_of_ble_eq_true rfl) ⟨Nat.le_of_ble_eq_true rfl, Nat.le_of_ble_eq_true rfl, (Nat.le_of_ble_eq_true rfl), (Nat.le_of_ble_eq_true rfl)⟩ dX12_scheme_26 xm_kx (xm_ki (fun r5 S4 h1 => ?_))
  refine x_if_ne (tgt := 34) C dX12_scheme_29 (by decide) (fun z9 => ?_) (fun z9 => ?_)
  · have h1 := h1.1 z9
    refine x_aload_n C 0 dX12_scheme_34 rfl rfl ?_
    obtain ⟨ht6, h1⟩ := h1
    refine x_getf_r (n := h) C rfl ht6 fd_170 (by decide) dX12_scheme_35 ?_
    refine x_iload_n C 1 dX12_scheme_38 rfl rfl ?_
    obtain ⟨n7, hr8, h1⟩ := h1
    obtain ⟨z10, ht9, h1⟩ := h1
    obtain ⟨hi11, h1⟩ := h1
    refine x_iald (n := n7) C hr8 ht9 hi11 dX12_scheme_39 ?_
    refine x_topi (fun y12 e13 => ?_)
    have h1 := h1 y12 e13
    refine x_istore_n (L' := [(3, xm_i y12), (0, xm_r (some h)), (1, xm_i x1), (2, xm_i x2)]) C dX12_scheme_40 rfl (by decide) rfl ?_
    refine x_aload_n C 1 dX12_scheme_41 rfl rfl ?_
    refine x_getf_r (n := h) C rfl ht6 fd_170 (by decide) dX12_scheme_42 ?_
    refine x_iload_n C 2 dX12_scheme_45 rfl rfl ?_
    refine x_iload_n C 3 dX12_scheme_46 rfl rfl ?_
    obtain ⟨n14, hr15, h1⟩ := h1
    obtain ⟨z17, ht16, h1⟩ := h1
    obtain ⟨hi18, h1⟩ := h1
    refine x_iast (n := n14) C hr15 ht16 hi18 dX12_scheme_47 ?_
    refine x_topS (fun S19 e20 => ?_)
    have h1 := h1 S19 e20
    refine x_iload_n C 0 dX12_scheme_48 rfl rfl ?_
    exact x_iret C (Nat.le_of_ble_eq_true rfl) (Nat.le_of_ble_eq_true rfl) rfl dX12_scheme_49 (hg _ _ h1)
  · have h1 := h1.2 z9
    refine x_iconst (v := (0 : Int32)) C dX12_scheme_32 (by decide) ?_
    exact x_iret C (Nat.le_of_ble_eq_true rfl) (Nat.le_of_ble_eq_true rfl) rfl dX12_scheme_33 (hg _ _ h1)
def wp_X12_scheme (h : Nat) (x1 : Int32) (x2 : Int32) (S : xm_S) (g : Int32 → xm_S → Prop) : Prop :=
  wp_X12_isPack x1 S (fun r22 S21 => (¬ r22 = 0 → wp_X12_in x2 (0 : Int32) (nI 2) S21 (fun r24 S23 => (r24 = 0 → wp_X12_scheme_26 h x1 x2 (nI 2) (some h) S23 g) ∧ (¬ r24 = 0 → wp_X12_scheme_26 h x1 x2 (0 : Int32) (some h) S23 g))) ∧ (r22 = 0 → wp_X12_scheme_26 h x1 x2 (1 : Int32) (some h) S21 g))
set_option maxRecDepth 100000 in
set_option maxHeartbeats 4000000 in
theorem kp_X12_scheme {K : xm_K} (h : Nat) (x1 : Int32) (x2 : Int32) (S : xm_S) {g : Int32 → xm_S → Prop} (C : xm_Cx K cX12_scheme RX12 4 (some (FieldType.int)) rm_X12_scheme) (N : xm_Nx K) (hg : ∀ v S, g v S → xm_q K (some (xm_i v)) S)  (h1 : wp_X12_scheme h x1 x2 S g) : xm_W K 0 0 0 [(0, xm_r (some h)), (1, xm_i x1), (2, xm_i x2)] [] S := by
  unfold wp_X12_scheme at h1
  refine x_aload_n C 0 dX12_scheme_0 rfl rfl ?_
  refine x_iload_n C 1 dX12_scheme_1 rfl rfl ?_
  refine x_callS (rm' := rm_X12_isPack) C (kp_X12_isPack_met h1) lk_97 gw_583 rfl (Nat.le_of_ble_eq_true rfl) ⟨Nat.le_of_ble_eq_true rfl, Nat.le_of_ble_eq_true rfl, (Nat.le_of_ble_eq_true rfl), (Nat.le_of_ble_eq_true rfl)⟩ dX12_scheme_2 xm_kx (xm_ki (fun r22 S21 h1 => ?_))
  refine x_if_ne (tgt := 12) C dX12_scheme_5 (by decide) (fun z9 => ?_) (fun z9 => ?_)
  · have h1 := h1.1 z9
    refine x_iload_n C 2 dX12_scheme_12 rfl rfl ?_
    refine x_iconst (v := (0 : Int32)) C dX12_scheme_13 (by decide) ?_
    refine x_iconst (v := (nI 2)) C dX12_scheme_14 (by decide) ?_
    refine x_callS (rm' := rm_X12_in) C (kp_X12_in_met h1) lk_87 gw_533 rfl (Nat.le_of_ble_eq_true rfl) ⟨Nat.le_of_ble_eq_true rfl, Nat.le_of_ble_eq_true rfl, (Nat.le_of_ble_eq_true rfl), (Nat.le_of_ble_eq_true rfl)⟩ dX12_scheme_15 xm_kx (xm_ki (fun r24 S23 h1 => ?_))
    refine x_if_eq (tgt := 25) C dX12_scheme_18 (by decide) (fun z9 => ?_) (fun z9 => ?_)
    · have h1 := h1.1 z9
      refine x_iconst (v := (nI 2)) C dX12_scheme_25 (by decide) ?_
      exact kp_X12_scheme_26 h x1 x2 (nI 2) (some h) S23 C N hg  h1
    · have h1 := h1.2 z9
      refine x_iconst (v := (0 : Int32)) C dX12_scheme_21 (by decide) ?_
      refine x_goto (tgt := 26) C dX12_scheme_22 (by decide) ?_
      exact kp_X12_scheme_26 h x1 x2 (0 : Int32) (some h) S23 C N hg  h1
  · have h1 := h1.2 z9
    refine x_iconst (v := (1 : Int32)) C dX12_scheme_8 (by decide) ?_
    refine x_goto (tgt := 26) C dX12_scheme_9 (by decide) ?_
    exact kp_X12_scheme_26 h x1 x2 (1 : Int32) (some h) S21 C N hg  h1
theorem kp_X12_scheme_met {h : Nat} {x1 : Int32} {x2 : Int32} {S : xm_S} {g : Int32 → xm_S → Prop}  (h1 : wp_X12_scheme h x1 x2 S g) : xm_Met yX12_scheme cX12_scheme 4 (some (FieldType.int)) rm_X12_scheme [xm_r (some h), xm_i x1, xm_i x2] S (xm_qi g) xm_nox :=
  xm_ofW RX12 (by decide +kernel) rfl (Nat.le_of_ble_eq_true rfl) (fun K C N hq hx hi => kp_X12_scheme h x1 x2 S C N (fun v S h => by rw [hq]; exact ⟨v, rfl, h⟩)  h1)
def rm_X12_shut : Room := { frames := 3, cells := 0, slots := 0, locals := 62 }
theorem dX12_shut_0 : decode cX12_shut 0 = .ok (.aload_n 0, 1) := by decide +kernel
theorem dX12_shut_1 : decode cX12_shut 1 = .ok (.iload_n 1, 1) := by decide +kernel
theorem dX12_shut_2 : decode cX12_shut 2 = .ok (.invokestatic 328, 3) := by decide +kernel
theorem dX12_shut_5 : decode cX12_shut 5 = .ok (.ifCond .eq 7, 3) := by decide +kernel
theorem dX12_shut_8 : decode cX12_shut 8 = .ok (.iconst 0, 1) := by decide +kernel
theorem dX12_shut_9 : decode cX12_shut 9 = .ok (.goto 4, 3) := by decide +kernel
theorem dX12_shut_12 : decode cX12_shut 12 = .ok (.iconst 1, 1) := by decide +kernel
theorem dX12_shut_13 : decode cX12_shut 13 = .ok (.invokevirtual 182, 3) := by decide +kernel
theorem dX12_shut_16 : decode cX12_shut 16 = .ok (.ifCond .ne 5, 3) := by decide +kernel
theorem dX12_shut_19 : decode cX12_shut 19 = .ok (.iconst 0, 1) := by decide +kernel
theorem dX12_shut_20 : decode cX12_shut 20 = .ok (.ireturn, 1) := by decide +kernel
theorem dX12_shut_21 : decode cX12_shut 21 = .ok (.aload_n 0, 1) := by decide +kernel
theorem dX12_shut_22 : decode cX12_shut 22 = .ok (.getfield 121, 3) := by decide +kernel
theorem dX12_shut_25 : decode cX12_shut 25 = .ok (.iload_n 1, 1) := by decide +kernel
theorem dX12_shut_26 : decode cX12_shut 26 = .ok (.baload, 1) := by decide +kernel
theorem dX12_shut_27 : decode cX12_shut 27 = .ok (.istore_n 3, 1) := by decide +kernel
theorem dX12_shut_28 : decode cX12_shut 28 = .ok (.aload_n 0, 1) := by decide +kernel
theorem dX12_shut_29 : decode cX12_shut 29 = .ok (.getfield 121, 3) := by decide +kernel
theorem dX12_shut_32 : decode cX12_shut 32 = .ok (.iload_n 1, 1) := by decide +kernel
theorem dX12_shut_33 : decode cX12_shut 33 = .ok (.iload_n 2, 1) := by decide +kernel
theorem dX12_shut_34 : decode cX12_shut 34 = .ok (.bastore, 1) := by decide +kernel
theorem dX12_shut_35 : decode cX12_shut 35 = .ok (.iload_n 3, 1) := by decide +kernel
theorem dX12_shut_36 : decode cX12_shut 36 = .ok (.ireturn, 1) := by decide +kernel
def wp_X12_shut_13 (h : Nat) (x1 : Int32) (x2 : Int32) (s0 : Int32) (s1 : Option Nat) (S : xm_S) (g : Int32 → xm_S → Prop) : Prop :=
  ∃ n1, s1 = some n1 ∧ st_t S n1 = some (12, 0) ∧ wp_X12_may n1 s0 S (fun r5 S4 => (¬ r5 = 0 → st_t S4 h = some (12, 0) ∧ ∃ n7, (st_r S4 h 41) = some n7 ∧ ∃ z10, st_t S4 n7 = some (101, z10) ∧ vp_in x1 z10 ∧ ∀ y12, y12 = (st_i S4 n7 (x1).toNatClampNeg) → ∃ n14, (st_r S4 h 41) = some n14 ∧ ∃ z17, st_t S4 n14 = some (101, z17) ∧ vp_in x1 z17 ∧ (x2 = 0 ∨ x2 = 1) ∧ ∀ S20, S20 = st_pi S4 n14 (x1).toNatClampNeg x2 → (y12 = 0 ∨ y12 = 1) ∧ g y12 S20) ∧ (r5 = 0 → g (0 : Int32) S4))
set_option maxRecDepth 100000 in
set_option maxHeartbeats 4000000 in
theorem kp_X12_shut_13 {K : xm_K} (h : Nat) (x1 : Int32) (x2 : Int32) (s0 : Int32) (s1 : Option Nat) (S : xm_S) {g : Int32 → xm_S → Prop} (C : xm_Cx K cX12_shut RX12 4 (some (FieldType.boolean)) rm_X12_shut) (N : xm_Nx K) (hg : ∀ v S, g v S → xm_q K (some (xm_i v)) S)  (h1 : wp_X12_shut_13 h x1 x2 s0 s1 S g) : xm_W K 0 0 13 [(0, xm_r (some h)), (1, xm_i x1), (2, xm_i x2)] [xm_i s0, xm_r s1] S := by
  unfold wp_X12_shut_13 at h1
  obtain ⟨n1, hr2, h1⟩ := h1
  obtain ⟨ht3, h1⟩ := h1
  refine x_callV (rm' := rm_X12_may) (n := n1) C (kp_X12_may_met h1) lk_95 gw_572 gw_573 xv_12 rfl hr2 ht3 rfl (Nat.le_of_ble_eq_true rfl) ⟨Nat.le_of_ble_eq_true rfl, Nat.le_of_ble_eq_true rfl, (Nat.le_of_ble_eq_true rfl), (Nat.le_of_ble_eq_true rfl)⟩ dX12_shut_13 xm_kx (xm_ki (fun r5 S4 h1 => ?_))
  refine x_if_ne (tgt := 21) C dX12_shut_16 (by decide) (fun z9 => ?_) (fun z9 => ?_)
  · have h1 := h1.1 z9
    refine x_aload_n C 0 dX12_shut_21 rfl rfl ?_
    obtain ⟨ht6, h1⟩ := h1
    refine x_getf_r (n := h) C rfl ht6 fd_206 (by decide) dX12_shut_22 ?_
    refine x_iload_n C 1 dX12_shut_25 rfl rfl ?_
    obtain ⟨n7, hr8, h1⟩ := h1
    obtain ⟨z10, ht9, h1⟩ := h1
    obtain ⟨hi11, h1⟩ := h1
    refine x_zald (n := n7) C hr8 ht9 hi11 dX12_shut_26 ?_
    refine x_topi (fun y12 e13 => ?_)
    have h1 := h1 y12 e13
    refine x_istore_n (L' := [(3, xm_i y12), (0, xm_r (some h)), (1, xm_i x1), (2, xm_i x2)]) C dX12_shut_27 rfl (by decide) rfl ?_
    refine x_aload_n C 1 dX12_shut_28 rfl rfl ?_
    refine x_getf_r (n := h) C rfl ht6 fd_206 (by decide) dX12_shut_29 ?_
    refine x_iload_n C 2 dX12_shut_32 rfl rfl ?_
    refine x_iload_n C 3 dX12_shut_33 rfl rfl ?_
    obtain ⟨n14, hr15, h1⟩ := h1
    obtain ⟨z17, ht16, h1⟩ := h1
    obtain ⟨hi18, h1⟩ := h1
    obtain ⟨hz19, h1⟩ := h1
    refine x_zast (n := n14) C hr15 ht16 hi18 hz19 dX12_shut_34 ?_
    refine x_topS (fun S20 e21 => ?_)
    have h1 := h1 S20 e21
    refine x_iload_n C 0 dX12_shut_35 rfl rfl ?_
    exact x_zret C (Nat.le_of_ble_eq_true rfl) (Nat.le_of_ble_eq_true rfl) rfl h1.1 dX12_shut_36 (hg _ _ h1.2)
  · have h1 := h1.2 z9
    refine x_iconst (v := (0 : Int32)) C dX12_shut_19 (by decide) ?_
    exact x_zret C (Nat.le_of_ble_eq_true rfl) (Nat.le_of_ble_eq_true rfl) rfl (by decide) dX12_shut_20 (hg _ _ h1)
def wp_X12_shut (h : Nat) (x1 : Int32) (x2 : Int32) (S : xm_S) (g : Int32 → xm_S → Prop) : Prop :=
  wp_X12_isMirror x1 S (fun r23 S22 => (r23 = 0 → wp_X12_shut_13 h x1 x2 (1 : Int32) (some h) S22 g) ∧ (¬ r23 = 0 → wp_X12_shut_13 h x1 x2 (0 : Int32) (some h) S22 g))
set_option maxRecDepth 100000 in
set_option maxHeartbeats 4000000 in
theorem kp_X12_shut {K : xm_K} (h : Nat) (x1 : Int32) (x2 : Int32) (S : xm_S) {g : Int32 → xm_S → Prop} (C : xm_Cx K cX12_shut RX12 4 (some (FieldType.boolean)) rm_X12_shut) (N : xm_Nx K) (hg : ∀ v S, g v S → xm_q K (some (xm_i v)) S)  (h1 : wp_X12_shut h x1 x2 S g) : xm_W K 0 0 0 [(0, xm_r (some h)), (1, xm_i x1), (2, xm_i x2)] [] S := by
  unfold wp_X12_shut at h1
  refine x_aload_n C 0 dX12_shut_0 rfl rfl ?_
  refine x_iload_n C 1 dX12_shut_1 rfl rfl ?_
  refine x_callS (rm' := rm_X12_isMirror) C (kp_X12_isMirror_met h1) lk_129 gw_763 rfl (Nat.le_of_ble_eq_true rfl) ⟨Nat.le_of_ble_eq_true rfl, Nat.le_of_ble_eq_true rfl, (Nat.le_of_ble_eq_true rfl), (Nat.le_of_ble_eq_true rfl)⟩ dX12_shut_2 xm_kx (xm_ki (fun r23 S22 h1 => ?_))
  refine x_if_eq (tgt := 12) C dX12_shut_5 (by decide) (fun z9 => ?_) (fun z9 => ?_)
  · have h1 := h1.1 z9
    refine x_iconst (v := (1 : Int32)) C dX12_shut_12 (by decide) ?_
    exact kp_X12_shut_13 h x1 x2 (1 : Int32) (some h) S22 C N hg  h1
  · have h1 := h1.2 z9
    refine x_iconst (v := (0 : Int32)) C dX12_shut_8 (by decide) ?_
    refine x_goto (tgt := 13) C dX12_shut_9 (by decide) ?_
    exact kp_X12_shut_13 h x1 x2 (0 : Int32) (some h) S22 C N hg  h1
theorem kp_X12_shut_met {h : Nat} {x1 : Int32} {x2 : Int32} {S : xm_S} {g : Int32 → xm_S → Prop}  (h1 : wp_X12_shut h x1 x2 S g) : xm_Met yX12_shut cX12_shut 4 (some (FieldType.boolean)) rm_X12_shut [xm_r (some h), xm_i x1, xm_i x2] S (xm_qi g) xm_nox :=
  xm_ofW RX12 (by decide +kernel) rfl (Nat.le_of_ble_eq_true rfl) (fun K C N hq hx hi => kp_X12_shut h x1 x2 S C N (fun v S h => by rw [hq]; exact ⟨v, rfl, h⟩)  h1)
def rm_X12_solves : Room := { frames := 10, cells := 0, slots := 0, locals := 228 }
theorem dX12_solves_0 : decode cX12_solves 0 = .ok (.iconst (-1), 1) := by decide +kernel
theorem dX12_solves_1 : decode cX12_solves 1 = .ok (.istore_n 3, 1) := by decide +kernel
theorem dX12_solves_2 : decode cX12_solves 2 = .ok (.aload_n 0, 1) := by decide +kernel
theorem dX12_solves_3 : decode cX12_solves 3 = .ok (.invokevirtual 287, 3) := by decide +kernel
theorem dX12_solves_6 : decode cX12_solves 6 = .ok (.iconst 0, 1) := by decide +kernel
theorem dX12_solves_7 : decode cX12_solves 7 = .ok (.istore 4, 2) := by decide +kernel
theorem dX12_solves_9 : decode cX12_solves 9 = .ok (.iload 4, 2) := by decide +kernel
theorem dX12_solves_11 : decode cX12_solves 11 = .ok (.sipush 15625, 3) := by decide +kernel
theorem dX12_solves_14 : decode cX12_solves 14 = .ok (.if_icmp .ge 93, 3) := by decide +kernel
theorem dX12_solves_17 : decode cX12_solves 17 = .ok (.aload_n 0, 1) := by decide +kernel
theorem dX12_solves_18 : decode cX12_solves 18 = .ok (.iload 4, 2) := by decide +kernel
theorem dX12_solves_20 : decode cX12_solves 20 = .ok (.invokevirtual 290, 3) := by decide +kernel
theorem dX12_solves_23 : decode cX12_solves 23 = .ok (.istore 5, 2) := by decide +kernel
theorem dX12_solves_25 : decode cX12_solves 25 = .ok (.bipush 10, 2) := by decide +kernel
theorem dX12_solves_27 : decode cX12_solves 27 = .ok (.aload_n 0, 1) := by decide +kernel
theorem dX12_solves_28 : decode cX12_solves 28 = .ok (.iload_n 1, 1) := by decide +kernel
theorem dX12_solves_29 : decode cX12_solves 29 = .ok (.iload_n 2, 1) := by decide +kernel
theorem dX12_solves_30 : decode cX12_solves 30 = .ok (.invokevirtual 293, 3) := by decide +kernel
theorem dX12_solves_33 : decode cX12_solves 33 = .ok (.imul, 1) := by decide +kernel
theorem dX12_solves_34 : decode cX12_solves 34 = .ok (.aload_n 0, 1) := by decide +kernel
theorem dX12_solves_35 : decode cX12_solves 35 = .ok (.invokevirtual 296, 3) := by decide +kernel
theorem dX12_solves_38 : decode cX12_solves 38 = .ok (.iadd, 1) := by decide +kernel
theorem dX12_solves_39 : decode cX12_solves 39 = .ok (.istore 6, 2) := by decide +kernel
theorem dX12_solves_41 : decode cX12_solves 41 = .ok (.iload 5, 2) := by decide +kernel
theorem dX12_solves_43 : decode cX12_solves 43 = .ok (.ifCond .eq 58, 3) := by decide +kernel
theorem dX12_solves_46 : decode cX12_solves 46 = .ok (.iload_n 3, 1) := by decide +kernel
theorem dX12_solves_47 : decode cX12_solves 47 = .ok (.iconst (-1), 1) := by decide +kernel
theorem dX12_solves_48 : decode cX12_solves 48 = .ok (.if_icmp .eq 9, 3) := by decide +kernel
theorem dX12_solves_51 : decode cX12_solves 51 = .ok (.iload 6, 2) := by decide +kernel
theorem dX12_solves_53 : decode cX12_solves 53 = .ok (.iload_n 3, 1) := by decide +kernel
theorem dX12_solves_54 : decode cX12_solves 54 = .ok (.if_icmp .ge 47, 3) := by decide +kernel
theorem dX12_solves_57 : decode cX12_solves 57 = .ok (.aload_n 0, 1) := by decide +kernel
theorem dX12_solves_58 : decode cX12_solves 58 = .ok (.iload_n 1, 1) := by decide +kernel
theorem dX12_solves_59 : decode cX12_solves 59 = .ok (.bipush 15, 2) := by decide +kernel
theorem dX12_solves_61 : decode cX12_solves 61 = .ok (.iload_n 2, 1) := by decide +kernel
theorem dX12_solves_62 : decode cX12_solves 62 = .ok (.invokevirtual 299, 3) := by decide +kernel
theorem dX12_solves_65 : decode cX12_solves 65 = .ok (.ifCond .eq 36, 3) := by decide +kernel
theorem dX12_solves_68 : decode cX12_solves 68 = .ok (.iload 6, 2) := by decide +kernel
theorem dX12_solves_70 : decode cX12_solves 70 = .ok (.istore_n 3, 1) := by decide +kernel
theorem dX12_solves_71 : decode cX12_solves 71 = .ok (.iconst 0, 1) := by decide +kernel
theorem dX12_solves_72 : decode cX12_solves 72 = .ok (.istore 7, 2) := by decide +kernel
theorem dX12_solves_74 : decode cX12_solves 74 = .ok (.iload 7, 2) := by decide +kernel
theorem dX12_solves_76 : decode cX12_solves 76 = .ok (.bipush 6, 2) := by decide +kernel
theorem dX12_solves_78 : decode cX12_solves 78 = .ok (.if_icmp .ge 23, 3) := by decide +kernel
theorem dX12_solves_81 : decode cX12_solves 81 = .ok (.aload_n 0, 1) := by decide +kernel
theorem dX12_solves_82 : decode cX12_solves 82 = .ok (.getfield 109, 3) := by decide +kernel
theorem dX12_solves_85 : decode cX12_solves 85 = .ok (.iload 7, 2) := by decide +kernel
theorem dX12_solves_87 : decode cX12_solves 87 = .ok (.aload_n 0, 1) := by decide +kernel
theorem dX12_solves_88 : decode cX12_solves 88 = .ok (.getfield 103, 3) := by decide +kernel
theorem dX12_solves_91 : decode cX12_solves 91 = .ok (.iload 7, 2) := by decide +kernel
theorem dX12_solves_93 : decode cX12_solves 93 = .ok (.iaload, 1) := by decide +kernel
theorem dX12_solves_94 : decode cX12_solves 94 = .ok (.iastore, 1) := by decide +kernel
theorem dX12_solves_95 : decode cX12_solves 95 = .ok (.iinc 7 1, 3) := by decide +kernel
theorem dX12_solves_98 : decode cX12_solves 98 = .ok (.goto (-24), 3) := by decide +kernel
theorem dX12_solves_101 : decode cX12_solves 101 = .ok (.iinc 4 1, 3) := by decide +kernel
theorem dX12_solves_104 : decode cX12_solves 104 = .ok (.goto (-95), 3) := by decide +kernel
theorem dX12_solves_107 : decode cX12_solves 107 = .ok (.iload_n 3, 1) := by decide +kernel
theorem dX12_solves_108 : decode cX12_solves 108 = .ok (.ireturn, 1) := by decide +kernel
def wp_X12_solves_101 (h : Nat) (x1 : Int32) (x2 : Int32) (x3 : Int32) (x4 : Int32) (S : xm_S) (g : Int32 → xm_S → Prop) (Z9 : Int32 → Int32 → Int32 → Int32 → xm_S → Prop) : Prop :=
  ∀ y1, y1 = (x4 + (1 : Int32)) → Z9 x1 x2 x3 y1 S
set_option maxRecDepth 100000 in
set_option maxHeartbeats 4000000 in
theorem kp_X12_solves_101 {K : xm_K} (h : Nat) (x1 : Int32) (x2 : Int32) (x3 : Int32) (x4 : Int32) (S : xm_S) {g : Int32 → xm_S → Prop} {Z9 : Int32 → Int32 → Int32 → Int32 → xm_S → Prop} (C : xm_Cx K cX12_solves RX12 8 (some (FieldType.int)) rm_X12_solves) (N : xm_Nx K) (hg : ∀ v S, g v S → xm_q K (some (xm_i v)) S) (hZ9 : ∀ x1 x2 x3 x4 S, Z9 x1 x2 x3 x4 S → xm_W K 0 0 9 [(0, xm_r (some h)), (1, xm_i x1), (2, xm_i x2), (3, xm_i x3), (4, xm_i x4)] [] S) (h1 : wp_X12_solves_101 h x1 x2 x3 x4 S g Z9) : xm_W K 0 0 101 [(0, xm_r (some h)), (1, xm_i x1), (2, xm_i x2), (3, xm_i x3), (4, xm_i x4)] [] S := by
  unfold wp_X12_solves_101 at h1
  obtain ⟨y1, e2⟩ : ∃ y1, y1 = (x4 + (1 : Int32)) := ⟨_, rfl⟩
  have h1 := h1 y1 e2
  refine x_iinc (v := y1) (L' := [(4, xm_i y1), (0, xm_r (some h)), (1, xm_i x1), (2, xm_i x2), (3, xm_i x3)]) C 4 dX12_solves_101 rfl (by rw [e2]; rfl) (by decide) rfl ?_
  refine x_goto (tgt := 9) C dX12_solves_104 (by decide) ?_
  refine x_keep (L' := [(0, xm_r (some h)), (1, xm_i x1), (2, xm_i x2), (3, xm_i x3), (4, xm_i y1)]) C [1, 2, 3, 4, 0] rfl ?_
  exact hZ9 x1 x2 x3 y1 S h1
def wp_X12_solves_74B (h : Nat) (x1 : Int32) (x2 : Int32) (x3 : Int32) (x4 : Int32) (x7 : Int32) (S : xm_S) (g : Int32 → xm_S → Prop) (Z9 : Int32 → Int32 → Int32 → Int32 → xm_S → Prop) (Z74 : Int32 → Int32 → Int32 → Int32 → Int32 → xm_S → Prop) : Prop :=
  ((nI 6) ≤ x7 → wp_X12_solves_101 h x1 x2 x3 x4 S g Z9) ∧ (¬ (nI 6) ≤ x7 → st_t S h = some (12, 0) ∧ ∃ n4, (st_r S h 33) = some n4 ∧ ∃ z7, st_t S n4 = some (100, z7) ∧ vp_in x7 z7 ∧ ∃ n9, (st_r S h 35) = some n9 ∧ ∃ z12, st_t S n9 = some (100, z12) ∧ vp_in x7 z12 ∧ ∀ S14, S14 = st_pi S n9 (x7).toNatClampNeg (st_i S n4 (x7).toNatClampNeg) → ∀ y16, y16 = (x7 + (1 : Int32)) → Z74 x1 x2 x3 x4 y16 S14)
def wp_X12_solves_74 (h : Nat) (x1 : Int32) (x2 : Int32) (x3 : Int32) (x4 : Int32) (x7 : Int32) (S : xm_S) (g : Int32 → xm_S → Prop) (Z9 : Int32 → Int32 → Int32 → Int32 → xm_S → Prop) : Prop :=
  ∀ Z74 : Int32 → Int32 → Int32 → Int32 → Int32 → xm_S → Prop, (∀ x1 x2 x3 x4 x7 S, wp_X12_solves_74B h x1 x2 x3 x4 x7 S g Z9 Z74 → Z74 x1 x2 x3 x4 x7 S) → Z74 x1 x2 x3 x4 x7 S
set_option maxRecDepth 100000 in
set_option maxHeartbeats 4000000 in
theorem kp_X12_solves_74B {K : xm_K} (h : Nat) (x1 : Int32) (x2 : Int32) (x3 : Int32) (x4 : Int32) (x7 : Int32) (S : xm_S) {g : Int32 → xm_S → Prop} {Z9 : Int32 → Int32 → Int32 → Int32 → xm_S → Prop} {Z74 : Int32 → Int32 → Int32 → Int32 → Int32 → xm_S → Prop} (C : xm_Cx K cX12_solves RX12 8 (some (FieldType.int)) rm_X12_solves) (N : xm_Nx K) (hg : ∀ v S, g v S → xm_q K (some (xm_i v)) S) (hZ9 : ∀ x1 x2 x3 x4 S, Z9 x1 x2 x3 x4 S → xm_W K 0 0 9 [(0, xm_r (some h)), (1, xm_i x1), (2, xm_i x2), (3, xm_i x3), (4, xm_i x4)] [] S) (hZ74 : ∀ x1 x2 x3 x4 x7 S, Z74 x1 x2 x3 x4 x7 S → xm_W K 0 0 74 [(0, xm_r (some h)), (1, xm_i x1), (2, xm_i x2), (3, xm_i x3), (4, xm_i x4), (7, xm_i x7)] [] S) (h1 : wp_X12_solves_74B h x1 x2 x3 x4 x7 S g Z9 Z74) : xm_W K 0 0 74 [(0, xm_r (some h)), (1, xm_i x1), (2, xm_i x2), (3, xm_i x3), (4, xm_i x4), (7, xm_i x7)] [] S := by
  unfold wp_X12_solves_74B at h1
  refine x_iload C 5 dX12_solves_74 rfl ?_
  refine x_bipush (v := (nI 6)) C dX12_solves_76 (by decide) ?_
  refine x_icmp_ge (tgt := 101) C dX12_solves_78 (by decide) (fun z9 => ?_) (fun z9 => ?_)
  · have h1 := h1.1 z9
    refine x_keep (L' := [(0, xm_r (some h)), (1, xm_i x1), (2, xm_i x2), (3, xm_i x3), (4, xm_i x4)]) C [0, 1, 2, 3, 4] rfl ?_
    exact kp_X12_solves_101 h x1 x2 x3 x4 S C N hg hZ9 h1
  · have h1 := h1.2 z9
    refine x_aload_n C 0 dX12_solves_81 rfl rfl ?_
    obtain ⟨ht3, h1⟩ := h1
    refine x_getf_r (n := h) C rfl ht3 fd_219 (by decide) dX12_solves_82 ?_
    refine x_iload C 5 dX12_solves_85 rfl ?_
    refine x_aload_n C 0 dX12_solves_87 rfl rfl ?_
    refine x_getf_r (n := h) C rfl ht3 fd_174 (by decide) dX12_solves_88 ?_
    refine x_iload C 5 dX12_solves_91 rfl ?_
    obtain ⟨n4, hr5, h1⟩ := h1
    obtain ⟨z7, ht6, h1⟩ := h1
    obtain ⟨hi8, h1⟩ := h1
    refine x_iald (n := n4) C hr5 ht6 hi8 dX12_solves_93 ?_
    obtain ⟨n9, hr10, h1⟩ := h1
    obtain ⟨z12, ht11, h1⟩ := h1
    obtain ⟨hi13, h1⟩ := h1
    refine x_iast (n := n9) C hr10 ht11 hi13 dX12_solves_94 ?_
    refine x_topS (fun S14 e15 => ?_)
    have h1 := h1 S14 e15
    obtain ⟨y16, e17⟩ : ∃ y16, y16 = (x7 + (1 : Int32)) := ⟨_, rfl⟩
    have h1 := h1 y16 e17
    refine x_iinc (v := y16) (L' := [(7, xm_i y16), (0, xm_r (some h)), (1, xm_i x1), (2, xm_i x2), (3, xm_i x3), (4, xm_i x4)]) C 5 dX12_solves_95 rfl (by rw [e17]; rfl) (by decide) rfl ?_
    refine x_goto (tgt := 74) C dX12_solves_98 (by decide) ?_
    refine x_keep (L' := [(0, xm_r (some h)), (1, xm_i x1), (2, xm_i x2), (3, xm_i x3), (4, xm_i x4), (7, xm_i y16)]) C [1, 2, 3, 4, 5, 0] rfl ?_
    exact hZ74 x1 x2 x3 x4 y16 S14 h1
theorem kp_X12_solves_74 {K : xm_K} (h : Nat) (x1 : Int32) (x2 : Int32) (x3 : Int32) (x4 : Int32) (x7 : Int32) (S : xm_S) {g : Int32 → xm_S → Prop} {Z9 : Int32 → Int32 → Int32 → Int32 → xm_S → Prop} (C : xm_Cx K cX12_solves RX12 8 (some (FieldType.int)) rm_X12_solves) (N : xm_Nx K) (hg : ∀ v S, g v S → xm_q K (some (xm_i v)) S) (hZ9 : ∀ x1 x2 x3 x4 S, Z9 x1 x2 x3 x4 S → xm_W K 0 0 9 [(0, xm_r (some h)), (1, xm_i x1), (2, xm_i x2), (3, xm_i x3), (4, xm_i x4)] [] S) (h1 : wp_X12_solves_74 h x1 x2 x3 x4 x7 S g Z9) : xm_W K 0 0 74 [(0, xm_r (some h)), (1, xm_i x1), (2, xm_i x2), (3, xm_i x3), (4, xm_i x4), (7, xm_i x7)] [] S :=
  h1 (fun x1 x2 x3 x4 x7 S => xm_W K 0 0 74 [(0, xm_r (some h)), (1, xm_i x1), (2, xm_i x2), (3, xm_i x3), (4, xm_i x4), (7, xm_i x7)] [] S) (fun x1 x2 x3 x4 x7 S hb => kp_X12_solves_74B h x1 x2 x3 x4 x7 S C N hg hZ9 (fun x1 x2 x3 x4 x7 S hz => hz) hb)
def wp_X12_solves_57 (h : Nat) (x1 : Int32) (x2 : Int32) (x3 : Int32) (x4 : Int32) (x6 : Int32) (S : xm_S) (g : Int32 → xm_S → Prop) (Z9 : Int32 → Int32 → Int32 → Int32 → xm_S → Prop) : Prop :=
  st_t S h = some (12, 0) ∧ wp_X12_isClosure h x1 (nI 15) x2 S (fun r20 S19 => (r20 = 0 → wp_X12_solves_101 h x1 x2 x3 x4 S19 g Z9) ∧ (¬ r20 = 0 → wp_X12_solves_74 h x1 x2 x6 x4 (0 : Int32) S19 g Z9))
set_option maxRecDepth 100000 in
set_option maxHeartbeats 4000000 in
theorem kp_X12_solves_57 {K : xm_K} (h : Nat) (x1 : Int32) (x2 : Int32) (x3 : Int32) (x4 : Int32) (x6 : Int32) (S : xm_S) {g : Int32 → xm_S → Prop} {Z9 : Int32 → Int32 → Int32 → Int32 → xm_S → Prop} (C : xm_Cx K cX12_solves RX12 8 (some (FieldType.int)) rm_X12_solves) (N : xm_Nx K) (hg : ∀ v S, g v S → xm_q K (some (xm_i v)) S) (hZ9 : ∀ x1 x2 x3 x4 S, Z9 x1 x2 x3 x4 S → xm_W K 0 0 9 [(0, xm_r (some h)), (1, xm_i x1), (2, xm_i x2), (3, xm_i x3), (4, xm_i x4)] [] S) (h1 : wp_X12_solves_57 h x1 x2 x3 x4 x6 S g Z9) : xm_W K 0 0 57 [(0, xm_r (some h)), (1, xm_i x1), (2, xm_i x2), (3, xm_i x3), (4, xm_i x4), (6, xm_i x6)] [] S := by
  unfold wp_X12_solves_57 at h1
  refine x_aload_n C 0 dX12_solves_57 rfl rfl ?_
  refine x_iload_n C 1 dX12_solves_58 rfl rfl ?_
  refine x_bipush (v := (nI 15)) C dX12_solves_59 (by decide) ?_
  refine x_iload_n C 2 dX12_solves_61 rfl rfl ?_
  obtain ⟨ht18, h1⟩ := h1
  refine x_callV (rm' := rm_X12_isClosure) (n := h) C (kp_X12_isClosure_met h1) lk_116 gw_682 gw_683 xv_12 rfl rfl ht18 rfl (Nat.le_of_ble_eq_true rfl) ⟨Nat.le_of_ble_eq_true rfl, Nat.le_of_ble_eq_true rfl, (Nat.le_of_ble_eq_true rfl), (Nat.le_of_ble_eq_true rfl)⟩ dX12_solves_62 xm_kx (xm_ki (fun r20 S19 h1 => ?_))
  refine x_if_eq (tgt := 101) C dX12_solves_65 (by decide) (fun z9 => ?_) (fun z9 => ?_)
  · have h1 := h1.1 z9
    refine x_keep (L' := [(0, xm_r (some h)), (1, xm_i x1), (2, xm_i x2), (3, xm_i x3), (4, xm_i x4)]) C [0, 1, 2, 3, 4] rfl ?_
    exact kp_X12_solves_101 h x1 x2 x3 x4 S19 C N hg hZ9 h1
  · have h1 := h1.2 z9
    refine x_iload C 5 dX12_solves_68 rfl ?_
    refine x_istore_n (L' := [(3, xm_i x6), (0, xm_r (some h)), (1, xm_i x1), (2, xm_i x2), (4, xm_i x4), (6, xm_i x6)]) C dX12_solves_70 rfl (by decide) rfl ?_
    refine x_iconst (v := (0 : Int32)) C dX12_solves_71 (by decide) ?_
    refine x_istore (L' := [(7, xm_i (0 : Int32)), (3, xm_i x6), (0, xm_r (some h)), (1, xm_i x1), (2, xm_i x2), (4, xm_i x4), (6, xm_i x6)]) C dX12_solves_72 (by decide) rfl ?_
    refine x_keep (L' := [(0, xm_r (some h)), (1, xm_i x1), (2, xm_i x2), (3, xm_i x6), (4, xm_i x4), (7, xm_i (0 : Int32))]) C [2, 3, 4, 1, 5, 0] rfl ?_
    exact kp_X12_solves_74 h x1 x2 x6 x4 (0 : Int32) S19 C N hg hZ9 h1
def wp_X12_solves_9B (h : Nat) (x1 : Int32) (x2 : Int32) (x3 : Int32) (x4 : Int32) (S : xm_S) (g : Int32 → xm_S → Prop) (Z9 : Int32 → Int32 → Int32 → Int32 → xm_S → Prop) : Prop :=
  ((nI 15625) ≤ x4 → g x3 S) ∧ (¬ (nI 15625) ≤ x4 → st_t S h = some (12, 0) ∧ wp_X12_chooses h x4 S (fun r23 S22 => st_t S22 h = some (12, 0) ∧ wp_X12_changes h x1 x2 S22 (fun r26 S25 => st_t S25 h = some (12, 0) ∧ wp_X12_chosenMany h S25 (fun r29 S28 => ∀ y30, y30 = (((nI 10) * r26) + r29) → (r23 = 0 → wp_X12_solves_101 h x1 x2 x3 x4 S28 g Z9) ∧ (¬ r23 = 0 → (x3 = (-1 : Int32) → wp_X12_solves_57 h x1 x2 x3 x4 y30 S28 g Z9) ∧ (¬ x3 = (-1 : Int32) → (x3 ≤ y30 → wp_X12_solves_101 h x1 x2 x3 x4 S28 g Z9) ∧ (¬ x3 ≤ y30 → wp_X12_solves_57 h x1 x2 x3 x4 y30 S28 g Z9)))))))
def wp_X12_solves_9 (h : Nat) (x1 : Int32) (x2 : Int32) (x3 : Int32) (x4 : Int32) (S : xm_S) (g : Int32 → xm_S → Prop) : Prop :=
  ∀ Z9 : Int32 → Int32 → Int32 → Int32 → xm_S → Prop, (∀ x1 x2 x3 x4 S, wp_X12_solves_9B h x1 x2 x3 x4 S g Z9 → Z9 x1 x2 x3 x4 S) → Z9 x1 x2 x3 x4 S
set_option maxRecDepth 100000 in
set_option maxHeartbeats 4000000 in
theorem kp_X12_solves_9B {K : xm_K} (h : Nat) (x1 : Int32) (x2 : Int32) (x3 : Int32) (x4 : Int32) (S : xm_S) {g : Int32 → xm_S → Prop} {Z9 : Int32 → Int32 → Int32 → Int32 → xm_S → Prop} (C : xm_Cx K cX12_solves RX12 8 (some (FieldType.int)) rm_X12_solves) (N : xm_Nx K) (hg : ∀ v S, g v S → xm_q K (some (xm_i v)) S) (hZ9 : ∀ x1 x2 x3 x4 S, Z9 x1 x2 x3 x4 S → xm_W K 0 0 9 [(0, xm_r (some h)), (1, xm_i x1), (2, xm_i x2), (3, xm_i x3), (4, xm_i x4)] [] S) (h1 : wp_X12_solves_9B h x1 x2 x3 x4 S g Z9) : xm_W K 0 0 9 [(0, xm_r (some h)), (1, xm_i x1), (2, xm_i x2), (3, xm_i x3), (4, xm_i x4)] [] S := by
  unfold wp_X12_solves_9B at h1
  refine x_iload C 4 dX12_solves_9 rfl ?_
  refine x_sipush (v := (nI 15625)) C dX12_solves_11 (by decide) ?_
  refine x_icmp_ge (tgt := 107) C dX12_solves_14 (by decide) (fun z9 => ?_) (fun z9 => ?_)
  · have h1 := h1.1 z9
    refine x_iload_n C 3 dX12_solves_107 rfl rfl ?_
    exact x_iret C (Nat.le_of_ble_eq_true rfl) (Nat.le_of_ble_eq_true rfl) rfl dX12_solves_108 (hg _ _ h1)
  · have h1 := h1.2 z9
    refine x_aload_n C 0 dX12_solves_17 rfl rfl ?_
    refine x_iload C 4 dX12_solves_18 rfl ?_
    obtain ⟨ht21, h1⟩ := h1
    refine x_callV (rm' := rm_X12_chooses) (n := h) C (kp_X12_chooses_met h1) lk_115 gw_678 gw_679 xv_12 rfl rfl ht21 rfl (Nat.le_of_ble_eq_true rfl) ⟨Nat.le_of_ble_eq_true rfl, Nat.le_of_ble_eq_true rfl, (Nat.le_of_ble_eq_true rfl), (Nat.le_of_ble_eq_true rfl)⟩ dX12_solves_20 xm_kx (xm_ki (fun r23 S22 h1 => ?_))
    refine x_istore (L' := [(5, xm_i r23), (0, xm_r (some h)), (1, xm_i x1), (2, xm_i x2), (3, xm_i x3), (4, xm_i x4)]) C dX12_solves_23 (by decide) rfl ?_
    refine x_bipush (v := (nI 10)) C dX12_solves_25 (by decide) ?_
    refine x_aload_n C 1 dX12_solves_27 rfl rfl ?_
    refine x_iload_n C 2 dX12_solves_28 rfl rfl ?_
    refine x_iload_n C 3 dX12_solves_29 rfl rfl ?_
    obtain ⟨ht24, h1⟩ := h1
    refine x_callV (rm' := rm_X12_changes) (n := h) C (kp_X12_changes_met h1) lk_131 gw_772 gw_773 xv_12 rfl rfl ht24 rfl (Nat.le_of_ble_eq_true rfl) ⟨Nat.le_of_ble_eq_true rfl, Nat.le_of_ble_eq_true rfl, (Nat.le_of_ble_eq_true rfl), (Nat.le_of_ble_eq_true rfl)⟩ dX12_solves_30 xm_kx (xm_ki (fun r26 S25 h1 => ?_))
    refine x_imul C dX12_solves_33 ?_
    refine x_aload_n C 1 dX12_solves_34 rfl rfl ?_
    obtain ⟨ht27, h1⟩ := h1
    refine x_callV (rm' := rm_X12_chosenMany) (n := h) C (kp_X12_chosenMany_met h1) lk_132 gw_776 gw_777 xv_12 rfl rfl ht27 rfl (Nat.le_of_ble_eq_true rfl) ⟨Nat.le_of_ble_eq_true rfl, Nat.le_of_ble_eq_true rfl, (Nat.le_of_ble_eq_true rfl), (Nat.le_of_ble_eq_true rfl)⟩ dX12_solves_35 xm_kx (xm_ki (fun r29 S28 h1 => ?_))
    refine x_iadd C dX12_solves_38 ?_
    refine x_topi (fun y30 e31 => ?_)
    have h1 := h1 y30 e31
    refine x_istore (L' := [(6, xm_i y30), (5, xm_i r23), (0, xm_r (some h)), (1, xm_i x1), (2, xm_i x2), (3, xm_i x3), (4, xm_i x4)]) C dX12_solves_39 (by decide) rfl ?_
    refine x_iload C 1 dX12_solves_41 rfl ?_
    refine x_if_eq (tgt := 101) C dX12_solves_43 (by decide) (fun z9 => ?_) (fun z9 => ?_)
    · have h1 := h1.1 z9
      refine x_keep (L' := [(0, xm_r (some h)), (1, xm_i x1), (2, xm_i x2), (3, xm_i x3), (4, xm_i x4)]) C [2, 3, 4, 5, 6] rfl ?_
      exact kp_X12_solves_101 h x1 x2 x3 x4 S28 C N hg hZ9 h1
    · have h1 := h1.2 z9
      refine x_iload_n C 5 dX12_solves_46 rfl rfl ?_
      refine x_iconst (v := (-1 : Int32)) C dX12_solves_47 (by decide) ?_
      refine x_icmp_eq (tgt := 57) C dX12_solves_48 (by decide) (fun z9 => ?_) (fun z9 => ?_)
      · have h1 := h1.1 z9
        refine x_keep (L' := [(0, xm_r (some h)), (1, xm_i x1), (2, xm_i x2), (3, xm_i x3), (4, xm_i x4), (6, xm_i y30)]) C [2, 3, 4, 5, 6, 0] rfl ?_
        exact kp_X12_solves_57 h x1 x2 x3 x4 y30 S28 C N hg hZ9 h1
      · have h1 := h1.2 z9
        refine x_iload C 0 dX12_solves_51 rfl ?_
        refine x_iload_n C 5 dX12_solves_53 rfl rfl ?_
        refine x_icmp_ge (tgt := 101) C dX12_solves_54 (by decide) (fun z9 => ?_) (fun z9 => ?_)
        · have h1 := h1.1 z9
          refine x_keep (L' := [(0, xm_r (some h)), (1, xm_i x1), (2, xm_i x2), (3, xm_i x3), (4, xm_i x4)]) C [2, 3, 4, 5, 6] rfl ?_
          exact kp_X12_solves_101 h x1 x2 x3 x4 S28 C N hg hZ9 h1
        · have h1 := h1.2 z9
          refine x_keep (L' := [(0, xm_r (some h)), (1, xm_i x1), (2, xm_i x2), (3, xm_i x3), (4, xm_i x4), (6, xm_i y30)]) C [2, 3, 4, 5, 6, 0] rfl ?_
          exact kp_X12_solves_57 h x1 x2 x3 x4 y30 S28 C N hg hZ9 h1
theorem kp_X12_solves_9 {K : xm_K} (h : Nat) (x1 : Int32) (x2 : Int32) (x3 : Int32) (x4 : Int32) (S : xm_S) {g : Int32 → xm_S → Prop} (C : xm_Cx K cX12_solves RX12 8 (some (FieldType.int)) rm_X12_solves) (N : xm_Nx K) (hg : ∀ v S, g v S → xm_q K (some (xm_i v)) S)  (h1 : wp_X12_solves_9 h x1 x2 x3 x4 S g) : xm_W K 0 0 9 [(0, xm_r (some h)), (1, xm_i x1), (2, xm_i x2), (3, xm_i x3), (4, xm_i x4)] [] S :=
  h1 (fun x1 x2 x3 x4 S => xm_W K 0 0 9 [(0, xm_r (some h)), (1, xm_i x1), (2, xm_i x2), (3, xm_i x3), (4, xm_i x4)] [] S) (fun x1 x2 x3 x4 S hb => kp_X12_solves_9B h x1 x2 x3 x4 S C N hg (fun x1 x2 x3 x4 S hz => hz) hb)
def wp_X12_solves (h : Nat) (x1 : Int32) (x2 : Int32) (S : xm_S) (g : Int32 → xm_S → Prop) : Prop :=
  st_t S h = some (12, 0) ∧ wp_X12_laysRanges h S (fun S33 => wp_X12_solves_9 h x1 x2 (-1 : Int32) (0 : Int32) S33 g)
set_option maxRecDepth 100000 in
set_option maxHeartbeats 4000000 in
theorem kp_X12_solves {K : xm_K} (h : Nat) (x1 : Int32) (x2 : Int32) (S : xm_S) {g : Int32 → xm_S → Prop} (C : xm_Cx K cX12_solves RX12 8 (some (FieldType.int)) rm_X12_solves) (N : xm_Nx K) (hg : ∀ v S, g v S → xm_q K (some (xm_i v)) S)  (h1 : wp_X12_solves h x1 x2 S g) : xm_W K 0 0 0 [(0, xm_r (some h)), (1, xm_i x1), (2, xm_i x2)] [] S := by
  unfold wp_X12_solves at h1
  refine x_iconst (v := (-1 : Int32)) C dX12_solves_0 (by decide) ?_
  refine x_istore_n (L' := [(3, xm_i (-1 : Int32)), (0, xm_r (some h)), (1, xm_i x1), (2, xm_i x2)]) C dX12_solves_1 rfl (by decide) rfl ?_
  refine x_aload_n C 1 dX12_solves_2 rfl rfl ?_
  obtain ⟨ht32, h1⟩ := h1
  refine x_callV (rm' := rm_X12_laysRanges) (n := h) C (kp_X12_laysRanges_met h1) lk_117 gw_686 gw_687 xv_12 rfl rfl ht32 rfl (Nat.le_of_ble_eq_true rfl) ⟨Nat.le_of_ble_eq_true rfl, Nat.le_of_ble_eq_true rfl, (Nat.le_of_ble_eq_true rfl), (Nat.le_of_ble_eq_true rfl)⟩ dX12_solves_3 xm_kx (xm_kv (fun S33 h1 => ?_))
  refine x_iconst (v := (0 : Int32)) C dX12_solves_6 (by decide) ?_
  refine x_istore (L' := [(4, xm_i (0 : Int32)), (3, xm_i (-1 : Int32)), (0, xm_r (some h)), (1, xm_i x1), (2, xm_i x2)]) C dX12_solves_7 (by decide) rfl ?_
  refine x_keep (L' := [(0, xm_r (some h)), (1, xm_i x1), (2, xm_i x2), (3, xm_i (-1 : Int32)), (4, xm_i (0 : Int32))]) C [2, 3, 4, 1, 0] rfl ?_
  exact kp_X12_solves_9 h x1 x2 (-1 : Int32) (0 : Int32) S33 C N hg  h1
theorem kp_X12_solves_met {h : Nat} {x1 : Int32} {x2 : Int32} {S : xm_S} {g : Int32 → xm_S → Prop}  (h1 : wp_X12_solves h x1 x2 S g) : xm_Met yX12_solves cX12_solves 8 (some (FieldType.int)) rm_X12_solves [xm_r (some h), xm_i x1, xm_i x2] S (xm_qi g) xm_nox :=
  xm_ofW RX12 (by decide +kernel) rfl (Nat.le_of_ble_eq_true rfl) (fun K C N hq hx hi => kp_X12_solves h x1 x2 S C N (fun v S h => by rw [hq]; exact ⟨v, rfl, h⟩)  h1)
def rm_X12_solve : Room := { frames := 11, cells := 0, slots := 0, locals := 255 }
theorem dX12_solve_0 : decode cX12_solve 0 = .ok (.aload_n 0, 1) := by decide +kernel
theorem dX12_solve_1 : decode cX12_solve 1 = .ok (.iload_n 1, 1) := by decide +kernel
theorem dX12_solve_2 : decode cX12_solve 2 = .ok (.invokestatic 302, 3) := by decide +kernel
theorem dX12_solve_5 : decode cX12_solve 5 = .ok (.ifCond .eq 19, 3) := by decide +kernel
theorem dX12_solve_8 : decode cX12_solve 8 = .ok (.iload_n 2, 1) := by decide +kernel
theorem dX12_solve_9 : decode cX12_solve 9 = .ok (.iconst (-1), 1) := by decide +kernel
theorem dX12_solve_10 : decode cX12_solve 10 = .ok (.if_icmp .eq 10, 3) := by decide +kernel
theorem dX12_solve_13 : decode cX12_solve 13 = .ok (.iload_n 2, 1) := by decide +kernel
theorem dX12_solve_14 : decode cX12_solve 14 = .ok (.invokestatic 176, 3) := by decide +kernel
theorem dX12_solve_17 : decode cX12_solve 17 = .ok (.ifCond .eq 7, 3) := by decide +kernel
theorem dX12_solve_20 : decode cX12_solve 20 = .ok (.iconst 0, 1) := by decide +kernel
theorem dX12_solve_21 : decode cX12_solve 21 = .ok (.goto 4, 3) := by decide +kernel
theorem dX12_solve_24 : decode cX12_solve 24 = .ok (.iconst 1, 1) := by decide +kernel
theorem dX12_solve_25 : decode cX12_solve 25 = .ok (.invokevirtual 182, 3) := by decide +kernel
theorem dX12_solve_28 : decode cX12_solve 28 = .ok (.ifCond .ne 5, 3) := by decide +kernel
theorem dX12_solve_31 : decode cX12_solve 31 = .ok (.iconst 0, 1) := by decide +kernel
theorem dX12_solve_32 : decode cX12_solve 32 = .ok (.ireturn, 1) := by decide +kernel
theorem dX12_solve_33 : decode cX12_solve 33 = .ok (.aload_n 0, 1) := by decide +kernel
theorem dX12_solve_34 : decode cX12_solve 34 = .ok (.iload_n 1, 1) := by decide +kernel
theorem dX12_solve_35 : decode cX12_solve 35 = .ok (.iload_n 2, 1) := by decide +kernel
theorem dX12_solve_36 : decode cX12_solve 36 = .ok (.invokevirtual 305, 3) := by decide +kernel
theorem dX12_solve_39 : decode cX12_solve 39 = .ok (.istore_n 3, 1) := by decide +kernel
theorem dX12_solve_40 : decode cX12_solve 40 = .ok (.aload_n 0, 1) := by decide +kernel
theorem dX12_solve_41 : decode cX12_solve 41 = .ok (.getfield 87, 3) := by decide +kernel
theorem dX12_solve_44 : decode cX12_solve 44 = .ok (.iload_n 1, 1) := by decide +kernel
theorem dX12_solve_45 : decode cX12_solve 45 = .ok (.iload_n 3, 1) := by decide +kernel
theorem dX12_solve_46 : decode cX12_solve 46 = .ok (.iconst (-1), 1) := by decide +kernel
theorem dX12_solve_47 : decode cX12_solve 47 = .ok (.if_icmp .eq 7, 3) := by decide +kernel
theorem dX12_solve_50 : decode cX12_solve 50 = .ok (.iconst 1, 1) := by decide +kernel
theorem dX12_solve_51 : decode cX12_solve 51 = .ok (.goto 4, 3) := by decide +kernel
theorem dX12_solve_54 : decode cX12_solve 54 = .ok (.iconst 0, 1) := by decide +kernel
theorem dX12_solve_55 : decode cX12_solve 55 = .ok (.bastore, 1) := by decide +kernel
theorem dX12_solve_56 : decode cX12_solve 56 = .ok (.iconst 0, 1) := by decide +kernel
theorem dX12_solve_57 : decode cX12_solve 57 = .ok (.istore 4, 2) := by decide +kernel
theorem dX12_solve_59 : decode cX12_solve 59 = .ok (.iload 4, 2) := by decide +kernel
theorem dX12_solve_61 : decode cX12_solve 61 = .ok (.bipush 6, 2) := by decide +kernel
theorem dX12_solve_63 : decode cX12_solve 63 = .ok (.if_icmp .ge 37, 3) := by decide +kernel
theorem dX12_solve_66 : decode cX12_solve 66 = .ok (.aload_n 0, 1) := by decide +kernel
theorem dX12_solve_67 : decode cX12_solve 67 = .ok (.getfield 84, 3) := by decide +kernel
theorem dX12_solve_70 : decode cX12_solve 70 = .ok (.bipush 6, 2) := by decide +kernel
theorem dX12_solve_72 : decode cX12_solve 72 = .ok (.iload_n 1, 1) := by decide +kernel
theorem dX12_solve_73 : decode cX12_solve 73 = .ok (.imul, 1) := by decide +kernel
theorem dX12_solve_74 : decode cX12_solve 74 = .ok (.iload 4, 2) := by decide +kernel
theorem dX12_solve_76 : decode cX12_solve 76 = .ok (.iadd, 1) := by decide +kernel
theorem dX12_solve_77 : decode cX12_solve 77 = .ok (.iload_n 3, 1) := by decide +kernel
theorem dX12_solve_78 : decode cX12_solve 78 = .ok (.iconst (-1), 1) := by decide +kernel
theorem dX12_solve_79 : decode cX12_solve 79 = .ok (.if_icmp .ne 7, 3) := by decide +kernel
theorem dX12_solve_82 : decode cX12_solve 82 = .ok (.iconst (-1), 1) := by decide +kernel
theorem dX12_solve_83 : decode cX12_solve 83 = .ok (.goto 10, 3) := by decide +kernel
theorem dX12_solve_86 : decode cX12_solve 86 = .ok (.aload_n 0, 1) := by decide +kernel
theorem dX12_solve_87 : decode cX12_solve 87 = .ok (.getfield 109, 3) := by decide +kernel
theorem dX12_solve_90 : decode cX12_solve 90 = .ok (.iload 4, 2) := by decide +kernel
theorem dX12_solve_92 : decode cX12_solve 92 = .ok (.iaload, 1) := by decide +kernel
theorem dX12_solve_93 : decode cX12_solve 93 = .ok (.iastore, 1) := by decide +kernel
theorem dX12_solve_94 : decode cX12_solve 94 = .ok (.iinc 4 1, 3) := by decide +kernel
theorem dX12_solve_97 : decode cX12_solve 97 = .ok (.goto (-38), 3) := by decide +kernel
theorem dX12_solve_100 : decode cX12_solve 100 = .ok (.iload_n 3, 1) := by decide +kernel
theorem dX12_solve_101 : decode cX12_solve 101 = .ok (.iconst (-1), 1) := by decide +kernel
theorem dX12_solve_102 : decode cX12_solve 102 = .ok (.if_icmp .ne 7, 3) := by decide +kernel
theorem dX12_solve_105 : decode cX12_solve 105 = .ok (.iconst (-1), 1) := by decide +kernel
theorem dX12_solve_106 : decode cX12_solve 106 = .ok (.goto 7, 3) := by decide +kernel
theorem dX12_solve_109 : decode cX12_solve 109 = .ok (.iload_n 3, 1) := by decide +kernel
theorem dX12_solve_110 : decode cX12_solve 110 = .ok (.bipush 10, 2) := by decide +kernel
theorem dX12_solve_112 : decode cX12_solve 112 = .ok (.idiv, 1) := by decide +kernel
theorem dX12_solve_113 : decode cX12_solve 113 = .ok (.ireturn, 1) := by decide +kernel
def wp_X12_solve_93 (h : Nat) (x1 : Int32) (x3 : Int32) (x4 : Int32) (s0 : Int32) (s1 : Int32) (s2 : Option Nat) (S : xm_S) (g : Int32 → xm_S → Prop) (Z59 : Int32 → Int32 → Int32 → xm_S → Prop) : Prop :=
  ∃ n1, s2 = some n1 ∧ ∃ z4, st_t S n1 = some (100, z4) ∧ vp_in s1 z4 ∧ ∀ S6, S6 = st_pi S n1 (s1).toNatClampNeg s0 → ∀ y8, y8 = (x4 + (1 : Int32)) → Z59 x1 x3 y8 S6
set_option maxRecDepth 100000 in
set_option maxHeartbeats 4000000 in
theorem kp_X12_solve_93 {K : xm_K} (h : Nat) (x1 : Int32) (x3 : Int32) (x4 : Int32) (s0 : Int32) (s1 : Int32) (s2 : Option Nat) (S : xm_S) {g : Int32 → xm_S → Prop} {Z59 : Int32 → Int32 → Int32 → xm_S → Prop} (C : xm_Cx K cX12_solve RX12 5 (some (FieldType.int)) rm_X12_solve) (N : xm_Nx K) (hg : ∀ v S, g v S → xm_q K (some (xm_i v)) S) (hZ59 : ∀ x1 x3 x4 S, Z59 x1 x3 x4 S → xm_W K 0 0 59 [(0, xm_r (some h)), (1, xm_i x1), (3, xm_i x3), (4, xm_i x4)] [] S) (h1 : wp_X12_solve_93 h x1 x3 x4 s0 s1 s2 S g Z59) : xm_W K 0 0 93 [(0, xm_r (some h)), (1, xm_i x1), (3, xm_i x3), (4, xm_i x4)] [xm_i s0, xm_i s1, xm_r s2] S := by
  unfold wp_X12_solve_93 at h1
  obtain ⟨n1, hr2, h1⟩ := h1
  obtain ⟨z4, ht3, h1⟩ := h1
  obtain ⟨hi5, h1⟩ := h1
  refine x_iast (n := n1) C hr2 ht3 hi5 dX12_solve_93 ?_
  refine x_topS (fun S6 e7 => ?_)
  have h1 := h1 S6 e7
  obtain ⟨y8, e9⟩ : ∃ y8, y8 = (x4 + (1 : Int32)) := ⟨_, rfl⟩
  have h1 := h1 y8 e9
  refine x_iinc (v := y8) (L' := [(4, xm_i y8), (0, xm_r (some h)), (1, xm_i x1), (3, xm_i x3)]) C 3 dX12_solve_94 rfl (by rw [e9]; rfl) (by decide) rfl ?_
  refine x_goto (tgt := 59) C dX12_solve_97 (by decide) ?_
  refine x_keep (L' := [(0, xm_r (some h)), (1, xm_i x1), (3, xm_i x3), (4, xm_i y8)]) C [1, 2, 3, 0] rfl ?_
  exact hZ59 x1 x3 y8 S6 h1
def wp_X12_solve_113 (h : Nat) (s0 : Int32) (S : xm_S) (g : Int32 → xm_S → Prop) : Prop :=
  g s0 S
set_option maxRecDepth 100000 in
set_option maxHeartbeats 4000000 in
theorem kp_X12_solve_113 {K : xm_K} (h : Nat) (s0 : Int32) (S : xm_S) {g : Int32 → xm_S → Prop} (C : xm_Cx K cX12_solve RX12 5 (some (FieldType.int)) rm_X12_solve) (N : xm_Nx K) (hg : ∀ v S, g v S → xm_q K (some (xm_i v)) S)  (h1 : wp_X12_solve_113 h s0 S g) : xm_W K 0 0 113 [] [xm_i s0] S := by
  unfold wp_X12_solve_113 at h1
  exact x_iret C (Nat.le_of_ble_eq_true rfl) (Nat.le_of_ble_eq_true rfl) rfl dX12_solve_113 (hg _ _ h1)
def wp_X12_solve_59B (h : Nat) (x1 : Int32) (x3 : Int32) (x4 : Int32) (S : xm_S) (g : Int32 → xm_S → Prop) (Z59 : Int32 → Int32 → Int32 → xm_S → Prop) : Prop :=
  ((nI 6) ≤ x4 → (¬ x3 = (-1 : Int32) → wp_X12_solve_113 h (x3 / (nI 10)) S g) ∧ (x3 = (-1 : Int32) → wp_X12_solve_113 h (-1 : Int32) S g)) ∧ (¬ (nI 6) ≤ x4 → st_t S h = some (12, 0) ∧ (¬ x3 = (-1 : Int32) → ∃ n11, (st_r S h 35) = some n11 ∧ ∃ z14, st_t S n11 = some (100, z14) ∧ vp_in x4 z14 ∧ wp_X12_solve_93 h x1 x3 x4 (st_i S n11 (x4).toNatClampNeg) (((nI 6) * x1) + x4) (st_r S h 27) S g Z59) ∧ (x3 = (-1 : Int32) → wp_X12_solve_93 h x1 x3 x4 (-1 : Int32) (((nI 6) * x1) + x4) (st_r S h 27) S g Z59))
def wp_X12_solve_59 (h : Nat) (x1 : Int32) (x3 : Int32) (x4 : Int32) (S : xm_S) (g : Int32 → xm_S → Prop) : Prop :=
  ∀ Z59 : Int32 → Int32 → Int32 → xm_S → Prop, (∀ x1 x3 x4 S, wp_X12_solve_59B h x1 x3 x4 S g Z59 → Z59 x1 x3 x4 S) → Z59 x1 x3 x4 S
set_option maxRecDepth 100000 in
set_option maxHeartbeats 4000000 in
theorem kp_X12_solve_59B {K : xm_K} (h : Nat) (x1 : Int32) (x3 : Int32) (x4 : Int32) (S : xm_S) {g : Int32 → xm_S → Prop} {Z59 : Int32 → Int32 → Int32 → xm_S → Prop} (C : xm_Cx K cX12_solve RX12 5 (some (FieldType.int)) rm_X12_solve) (N : xm_Nx K) (hg : ∀ v S, g v S → xm_q K (some (xm_i v)) S) (hZ59 : ∀ x1 x3 x4 S, Z59 x1 x3 x4 S → xm_W K 0 0 59 [(0, xm_r (some h)), (1, xm_i x1), (3, xm_i x3), (4, xm_i x4)] [] S) (h1 : wp_X12_solve_59B h x1 x3 x4 S g Z59) : xm_W K 0 0 59 [(0, xm_r (some h)), (1, xm_i x1), (3, xm_i x3), (4, xm_i x4)] [] S := by
  unfold wp_X12_solve_59B at h1
  refine x_iload C 3 dX12_solve_59 rfl ?_
  refine x_bipush (v := (nI 6)) C dX12_solve_61 (by decide) ?_
  refine x_icmp_ge (tgt := 100) C dX12_solve_63 (by decide) (fun z9 => ?_) (fun z9 => ?_)
  · have h1 := h1.1 z9
    refine x_iload_n C 2 dX12_solve_100 rfl rfl ?_
    refine x_iconst (v := (-1 : Int32)) C dX12_solve_101 (by decide) ?_
    refine x_icmp_ne (tgt := 109) C dX12_solve_102 (by decide) (fun z9 => ?_) (fun z9 => ?_)
    · have h1 := h1.1 z9
      refine x_iload_n C 2 dX12_solve_109 rfl rfl ?_
      refine x_bipush (v := (nI 10)) C dX12_solve_110 (by decide) ?_
      refine x_idiv C dX12_solve_112 (by decide) ?_
      refine x_keep (L' := []) C [] rfl ?_
      exact kp_X12_solve_113 h (x3 / (nI 10)) S C N hg  h1
    · have h1 := h1.2 z9
      refine x_iconst (v := (-1 : Int32)) C dX12_solve_105 (by decide) ?_
      refine x_goto (tgt := 113) C dX12_solve_106 (by decide) ?_
      refine x_keep (L' := []) C [] rfl ?_
      exact kp_X12_solve_113 h (-1 : Int32) S C N hg  h1
  · have h1 := h1.2 z9
    refine x_aload_n C 0 dX12_solve_66 rfl rfl ?_
    obtain ⟨ht10, h1⟩ := h1
    refine x_getf_r (n := h) C rfl ht10 fd_217 (by decide) dX12_solve_67 ?_
    refine x_bipush (v := (nI 6)) C dX12_solve_70 (by decide) ?_
    refine x_iload_n C 1 dX12_solve_72 rfl rfl ?_
    refine x_imul C dX12_solve_73 ?_
    refine x_iload C 3 dX12_solve_74 rfl ?_
    refine x_iadd C dX12_solve_76 ?_
    refine x_iload_n C 2 dX12_solve_77 rfl rfl ?_
    refine x_iconst (v := (-1 : Int32)) C dX12_solve_78 (by decide) ?_
    refine x_icmp_ne (tgt := 86) C dX12_solve_79 (by decide) (fun z9 => ?_) (fun z9 => ?_)
    · have h1 := h1.1 z9
      refine x_aload_n C 0 dX12_solve_86 rfl rfl ?_
      refine x_getf_r (n := h) C rfl ht10 fd_219 (by decide) dX12_solve_87 ?_
      refine x_iload C 3 dX12_solve_90 rfl ?_
      obtain ⟨n11, hr12, h1⟩ := h1
      obtain ⟨z14, ht13, h1⟩ := h1
      obtain ⟨hi15, h1⟩ := h1
      refine x_iald (n := n11) C hr12 ht13 hi15 dX12_solve_92 ?_
      exact kp_X12_solve_93 h x1 x3 x4 (st_i S n11 (x4).toNatClampNeg) (((nI 6) * x1) + x4) (st_r S h 27) S C N hg hZ59 h1
    · have h1 := h1.2 z9
      refine x_iconst (v := (-1 : Int32)) C dX12_solve_82 (by decide) ?_
      refine x_goto (tgt := 93) C dX12_solve_83 (by decide) ?_
      exact kp_X12_solve_93 h x1 x3 x4 (-1 : Int32) (((nI 6) * x1) + x4) (st_r S h 27) S C N hg hZ59 h1
theorem kp_X12_solve_59 {K : xm_K} (h : Nat) (x1 : Int32) (x3 : Int32) (x4 : Int32) (S : xm_S) {g : Int32 → xm_S → Prop} (C : xm_Cx K cX12_solve RX12 5 (some (FieldType.int)) rm_X12_solve) (N : xm_Nx K) (hg : ∀ v S, g v S → xm_q K (some (xm_i v)) S)  (h1 : wp_X12_solve_59 h x1 x3 x4 S g) : xm_W K 0 0 59 [(0, xm_r (some h)), (1, xm_i x1), (3, xm_i x3), (4, xm_i x4)] [] S :=
  h1 (fun x1 x3 x4 S => xm_W K 0 0 59 [(0, xm_r (some h)), (1, xm_i x1), (3, xm_i x3), (4, xm_i x4)] [] S) (fun x1 x3 x4 S hb => kp_X12_solve_59B h x1 x3 x4 S C N hg (fun x1 x3 x4 S hz => hz) hb)
def wp_X12_solve_55 (h : Nat) (x1 : Int32) (x3 : Int32) (s0 : Int32) (s1 : Int32) (s2 : Option Nat) (S : xm_S) (g : Int32 → xm_S → Prop) : Prop :=
  ∃ n16, s2 = some n16 ∧ ∃ z19, st_t S n16 = some (101, z19) ∧ vp_in s1 z19 ∧ (s0 = 0 ∨ s0 = 1) ∧ ∀ S22, S22 = st_pi S n16 (s1).toNatClampNeg s0 → wp_X12_solve_59 h x1 x3 (0 : Int32) S22 g
set_option maxRecDepth 100000 in
set_option maxHeartbeats 4000000 in
theorem kp_X12_solve_55 {K : xm_K} (h : Nat) (x1 : Int32) (x3 : Int32) (s0 : Int32) (s1 : Int32) (s2 : Option Nat) (S : xm_S) {g : Int32 → xm_S → Prop} (C : xm_Cx K cX12_solve RX12 5 (some (FieldType.int)) rm_X12_solve) (N : xm_Nx K) (hg : ∀ v S, g v S → xm_q K (some (xm_i v)) S)  (h1 : wp_X12_solve_55 h x1 x3 s0 s1 s2 S g) : xm_W K 0 0 55 [(0, xm_r (some h)), (1, xm_i x1), (3, xm_i x3)] [xm_i s0, xm_i s1, xm_r s2] S := by
  unfold wp_X12_solve_55 at h1
  obtain ⟨n16, hr17, h1⟩ := h1
  obtain ⟨z19, ht18, h1⟩ := h1
  obtain ⟨hi20, h1⟩ := h1
  obtain ⟨hz21, h1⟩ := h1
  refine x_zast (n := n16) C hr17 ht18 hi20 hz21 dX12_solve_55 ?_
  refine x_topS (fun S22 e23 => ?_)
  have h1 := h1 S22 e23
  refine x_iconst (v := (0 : Int32)) C dX12_solve_56 (by decide) ?_
  refine x_istore (L' := [(4, xm_i (0 : Int32)), (0, xm_r (some h)), (1, xm_i x1), (3, xm_i x3)]) C dX12_solve_57 (by decide) rfl ?_
  refine x_keep (L' := [(0, xm_r (some h)), (1, xm_i x1), (3, xm_i x3), (4, xm_i (0 : Int32))]) C [1, 2, 3, 0] rfl ?_
  exact kp_X12_solve_59 h x1 x3 (0 : Int32) S22 C N hg  h1
def wp_X12_solve_25 (h : Nat) (x1 : Int32) (x2 : Int32) (s0 : Int32) (s1 : Option Nat) (S : xm_S) (g : Int32 → xm_S → Prop) : Prop :=
  ∃ n24, s1 = some n24 ∧ st_t S n24 = some (12, 0) ∧ wp_X12_may n24 s0 S (fun r28 S27 => (¬ r28 = 0 → st_t S27 h = some (12, 0) ∧ wp_X12_solves h x1 x2 S27 (fun r31 S30 => st_t S30 h = some (12, 0) ∧ (r31 = (-1 : Int32) → wp_X12_solve_55 h x1 r31 (0 : Int32) x1 (st_r S30 h 28) S30 g) ∧ (¬ r31 = (-1 : Int32) → wp_X12_solve_55 h x1 r31 (1 : Int32) x1 (st_r S30 h 28) S30 g))) ∧ (r28 = 0 → g (0 : Int32) S27))
set_option maxRecDepth 100000 in
set_option maxHeartbeats 4000000 in
theorem kp_X12_solve_25 {K : xm_K} (h : Nat) (x1 : Int32) (x2 : Int32) (s0 : Int32) (s1 : Option Nat) (S : xm_S) {g : Int32 → xm_S → Prop} (C : xm_Cx K cX12_solve RX12 5 (some (FieldType.int)) rm_X12_solve) (N : xm_Nx K) (hg : ∀ v S, g v S → xm_q K (some (xm_i v)) S)  (h1 : wp_X12_solve_25 h x1 x2 s0 s1 S g) : xm_W K 0 0 25 [(0, xm_r (some h)), (1, xm_i x1), (2, xm_i x2)] [xm_i s0, xm_r s1] S := by
  unfold wp_X12_solve_25 at h1
  obtain ⟨n24, hr25, h1⟩ := h1
  obtain ⟨ht26, h1⟩ := h1
  refine x_callV (rm' := rm_X12_may) (n := n24) C (kp_X12_may_met h1) lk_95 gw_572 gw_573 xv_12 rfl hr25 ht26 rfl (Nat.le_of_ble_eq_true rfl) ⟨Nat.le_of_ble_eq_true rfl, Nat.le_of_ble_eq_true rfl, (Nat.le_of_ble_eq_true rfl), (Nat.le_of_ble_eq_true rfl)⟩ dX12_solve_25 xm_kx (xm_ki (fun r28 S27 h1 => ?_))
  refine x_if_ne (tgt := 33) C dX12_solve_28 (by decide) (fun z9 => ?_) (fun z9 => ?_)
  · have h1 := h1.1 z9
    refine x_aload_n C 0 dX12_solve_33 rfl rfl ?_
    refine x_iload_n C 1 dX12_solve_34 rfl rfl ?_
    refine x_iload_n C 2 dX12_solve_35 rfl rfl ?_
    obtain ⟨ht29, h1⟩ := h1
    refine x_callV (rm' := rm_X12_solves) (n := h) C (kp_X12_solves_met h1) lk_133 gw_780 gw_781 xv_12 rfl rfl ht29 rfl (Nat.le_of_ble_eq_true rfl) ⟨Nat.le_of_ble_eq_true rfl, Nat.le_of_ble_eq_true rfl, (Nat.le_of_ble_eq_true rfl), (Nat.le_of_ble_eq_true rfl)⟩ dX12_solve_36 xm_kx (xm_ki (fun r31 S30 h1 => ?_))
    refine x_istore_n (L' := [(3, xm_i r31), (0, xm_r (some h)), (1, xm_i x1), (2, xm_i x2)]) C dX12_solve_39 rfl (by decide) rfl ?_
    refine x_aload_n C 1 dX12_solve_40 rfl rfl ?_
    obtain ⟨ht32, h1⟩ := h1
    refine x_getf_r (n := h) C rfl ht32 fd_218 (by decide) dX12_solve_41 ?_
    refine x_iload_n C 2 dX12_solve_44 rfl rfl ?_
    refine x_iload_n C 0 dX12_solve_45 rfl rfl ?_
    refine x_iconst (v := (-1 : Int32)) C dX12_solve_46 (by decide) ?_
    refine x_icmp_eq (tgt := 54) C dX12_solve_47 (by decide) (fun z9 => ?_) (fun z9 => ?_)
    · have h1 := h1.1 z9
      refine x_iconst (v := (0 : Int32)) C dX12_solve_54 (by decide) ?_
      refine x_keep (L' := [(0, xm_r (some h)), (1, xm_i x1), (3, xm_i r31)]) C [1, 2, 0] rfl ?_
      exact kp_X12_solve_55 h x1 r31 (0 : Int32) x1 (st_r S30 h 28) S30 C N hg  h1
    · have h1 := h1.2 z9
      refine x_iconst (v := (1 : Int32)) C dX12_solve_50 (by decide) ?_
      refine x_goto (tgt := 55) C dX12_solve_51 (by decide) ?_
      refine x_keep (L' := [(0, xm_r (some h)), (1, xm_i x1), (3, xm_i r31)]) C [1, 2, 0] rfl ?_
      exact kp_X12_solve_55 h x1 r31 (1 : Int32) x1 (st_r S30 h 28) S30 C N hg  h1
  · have h1 := h1.2 z9
    refine x_iconst (v := (0 : Int32)) C dX12_solve_31 (by decide) ?_
    exact x_iret C (Nat.le_of_ble_eq_true rfl) (Nat.le_of_ble_eq_true rfl) rfl dX12_solve_32 (hg _ _ h1)
def wp_X12_solve_24 (h : Nat) (x1 : Int32) (x2 : Int32) (s0 : Option Nat) (S : xm_S) (g : Int32 → xm_S → Prop) : Prop :=
  wp_X12_solve_25 h x1 x2 (1 : Int32) s0 S g
set_option maxRecDepth 100000 in
set_option maxHeartbeats 4000000 in
theorem kp_X12_solve_24 {K : xm_K} (h : Nat) (x1 : Int32) (x2 : Int32) (s0 : Option Nat) (S : xm_S) {g : Int32 → xm_S → Prop} (C : xm_Cx K cX12_solve RX12 5 (some (FieldType.int)) rm_X12_solve) (N : xm_Nx K) (hg : ∀ v S, g v S → xm_q K (some (xm_i v)) S)  (h1 : wp_X12_solve_24 h x1 x2 s0 S g) : xm_W K 0 0 24 [(0, xm_r (some h)), (1, xm_i x1), (2, xm_i x2)] [xm_r s0] S := by
  unfold wp_X12_solve_24 at h1
  refine x_iconst (v := (1 : Int32)) C dX12_solve_24 (by decide) ?_
  exact kp_X12_solve_25 h x1 x2 (1 : Int32) s0 S C N hg  h1
def wp_X12_solve_20 (h : Nat) (x1 : Int32) (x2 : Int32) (s0 : Option Nat) (S : xm_S) (g : Int32 → xm_S → Prop) : Prop :=
  wp_X12_solve_25 h x1 x2 (0 : Int32) s0 S g
set_option maxRecDepth 100000 in
set_option maxHeartbeats 4000000 in
theorem kp_X12_solve_20 {K : xm_K} (h : Nat) (x1 : Int32) (x2 : Int32) (s0 : Option Nat) (S : xm_S) {g : Int32 → xm_S → Prop} (C : xm_Cx K cX12_solve RX12 5 (some (FieldType.int)) rm_X12_solve) (N : xm_Nx K) (hg : ∀ v S, g v S → xm_q K (some (xm_i v)) S)  (h1 : wp_X12_solve_20 h x1 x2 s0 S g) : xm_W K 0 0 20 [(0, xm_r (some h)), (1, xm_i x1), (2, xm_i x2)] [xm_r s0] S := by
  unfold wp_X12_solve_20 at h1
  refine x_iconst (v := (0 : Int32)) C dX12_solve_20 (by decide) ?_
  refine x_goto (tgt := 25) C dX12_solve_21 (by decide) ?_
  exact kp_X12_solve_25 h x1 x2 (0 : Int32) s0 S C N hg  h1
def wp_X12_solve (h : Nat) (x1 : Int32) (x2 : Int32) (S : xm_S) (g : Int32 → xm_S → Prop) : Prop :=
  wp_X12_isPlatform x1 S (fun r34 S33 => (r34 = 0 → wp_X12_solve_24 h x1 x2 (some h) S33 g) ∧ (¬ r34 = 0 → (x2 = (-1 : Int32) → wp_X12_solve_20 h x1 x2 (some h) S33 g) ∧ (¬ x2 = (-1 : Int32) → wp_X12_isPack x2 S33 (fun r36 S35 => (r36 = 0 → wp_X12_solve_24 h x1 x2 (some h) S35 g) ∧ (¬ r36 = 0 → wp_X12_solve_20 h x1 x2 (some h) S35 g)))))
set_option maxRecDepth 100000 in
set_option maxHeartbeats 4000000 in
theorem kp_X12_solve {K : xm_K} (h : Nat) (x1 : Int32) (x2 : Int32) (S : xm_S) {g : Int32 → xm_S → Prop} (C : xm_Cx K cX12_solve RX12 5 (some (FieldType.int)) rm_X12_solve) (N : xm_Nx K) (hg : ∀ v S, g v S → xm_q K (some (xm_i v)) S)  (h1 : wp_X12_solve h x1 x2 S g) : xm_W K 0 0 0 [(0, xm_r (some h)), (1, xm_i x1), (2, xm_i x2)] [] S := by
  unfold wp_X12_solve at h1
  refine x_aload_n C 0 dX12_solve_0 rfl rfl ?_
  refine x_iload_n C 1 dX12_solve_1 rfl rfl ?_
  refine x_callS (rm' := rm_X12_isPlatform) C (kp_X12_isPlatform_met h1) lk_104 gw_611 rfl (Nat.le_of_ble_eq_true rfl) ⟨Nat.le_of_ble_eq_true rfl, Nat.le_of_ble_eq_true rfl, (Nat.le_of_ble_eq_true rfl), (Nat.le_of_ble_eq_true rfl)⟩ dX12_solve_2 xm_kx (xm_ki (fun r34 S33 h1 => ?_))
  refine x_if_eq (tgt := 24) C dX12_solve_5 (by decide) (fun z9 => ?_) (fun z9 => ?_)
  · have h1 := h1.1 z9
    exact kp_X12_solve_24 h x1 x2 (some h) S33 C N hg  h1
  · have h1 := h1.2 z9
    refine x_iload_n C 2 dX12_solve_8 rfl rfl ?_
    refine x_iconst (v := (-1 : Int32)) C dX12_solve_9 (by decide) ?_
    refine x_icmp_eq (tgt := 20) C dX12_solve_10 (by decide) (fun z9 => ?_) (fun z9 => ?_)
    · have h1 := h1.1 z9
      exact kp_X12_solve_20 h x1 x2 (some h) S33 C N hg  h1
    · have h1 := h1.2 z9
      refine x_iload_n C 2 dX12_solve_13 rfl rfl ?_
      refine x_callS (rm' := rm_X12_isPack) C (kp_X12_isPack_met h1) lk_97 gw_583 rfl (Nat.le_of_ble_eq_true rfl) ⟨Nat.le_of_ble_eq_true rfl, Nat.le_of_ble_eq_true rfl, (Nat.le_of_ble_eq_true rfl), (Nat.le_of_ble_eq_true rfl)⟩ dX12_solve_14 xm_kx (xm_ki (fun r36 S35 h1 => ?_))
      refine x_if_eq (tgt := 24) C dX12_solve_17 (by decide) (fun z9 => ?_) (fun z9 => ?_)
      · have h1 := h1.1 z9
        exact kp_X12_solve_24 h x1 x2 (some h) S35 C N hg  h1
      · have h1 := h1.2 z9
        exact kp_X12_solve_20 h x1 x2 (some h) S35 C N hg  h1
theorem kp_X12_solve_met {h : Nat} {x1 : Int32} {x2 : Int32} {S : xm_S} {g : Int32 → xm_S → Prop}  (h1 : wp_X12_solve h x1 x2 S g) : xm_Met yX12_solve cX12_solve 5 (some (FieldType.int)) rm_X12_solve [xm_r (some h), xm_i x1, xm_i x2] S (xm_qi g) xm_nox :=
  xm_ofW RX12 (by decide +kernel) rfl (Nat.le_of_ble_eq_true rfl) (fun K C N hq hx hi => kp_X12_solve h x1 x2 S C N (fun v S h => by rw [hq]; exact ⟨v, rfl, h⟩)  h1)
def rm_X12_steps : Room := { frames := 1, cells := 0, slots := 0, locals := 20 }
theorem dX12_steps_0 : decode cX12_steps 0 = .ok (.aload_n 0, 1) := by decide +kernel
theorem dX12_steps_1 : decode cX12_steps 1 = .ok (.iconst 0, 1) := by decide +kernel
theorem dX12_steps_2 : decode cX12_steps 2 = .ok (.putfield 169, 3) := by decide +kernel
theorem dX12_steps_5 : decode cX12_steps 5 = .ok (.aload_n 0, 1) := by decide +kernel
theorem dX12_steps_6 : decode cX12_steps 6 = .ok (.getfield 361, 3) := by decide +kernel
theorem dX12_steps_9 : decode cX12_steps 9 = .ok (.ireturn, 1) := by decide +kernel
def wp_X12_steps (h : Nat)  (S : xm_S) (g : Int32 → xm_S → Prop) : Prop :=
  st_t S h = some (12, 0) ∧ ∀ S2, S2 = st_pi S h 0 (0 : Int32) → g (st_i S2 h 52) S2
set_option maxRecDepth 100000 in
set_option maxHeartbeats 4000000 in
theorem kp_X12_steps {K : xm_K} (h : Nat)  (S : xm_S) {g : Int32 → xm_S → Prop} (C : xm_Cx K cX12_steps RX12 1 (some (FieldType.int)) rm_X12_steps) (N : xm_Nx K) (hg : ∀ v S, g v S → xm_q K (some (xm_i v)) S)  (h1 : wp_X12_steps h  S g) : xm_W K 0 0 0 [(0, xm_r (some h))] [] S := by
  unfold wp_X12_steps at h1
  refine x_aload_n C 0 dX12_steps_0 rfl rfl ?_
  refine x_iconst (v := (0 : Int32)) C dX12_steps_1 (by decide) ?_
  obtain ⟨ht1, h1⟩ := h1
  refine x_putf_i (n := h) C rfl ht1 fd_165 xc_12 (by decide) rfl ⟨rfl, rfl⟩ dX12_steps_2 ?_
  refine x_topS (fun S2 e3 => ?_)
  have h1 := h1 S2 e3
  refine x_aload_n C 0 dX12_steps_5 rfl rfl ?_
  refine x_getf_i (n := h) C rfl (tk_p e3 ht1) fd_222 (by decide) dX12_steps_6 ?_
  exact x_iret C (Nat.le_of_ble_eq_true rfl) (Nat.le_of_ble_eq_true rfl) rfl dX12_steps_9 (hg _ _ h1)
theorem kp_X12_steps_met {h : Nat}  {S : xm_S} {g : Int32 → xm_S → Prop}  (h1 : wp_X12_steps h  S g) : xm_Met yX12_steps cX12_steps 1 (some (FieldType.int)) rm_X12_steps [xm_r (some h)] S (xm_qi g) xm_nox :=
  xm_ofW RX12 (by decide +kernel) rfl (Nat.le_of_ble_eq_true rfl) (fun K C N hq hx hi => kp_X12_steps h  S C N (fun v S h => by rw [hq]; exact ⟨v, rfl, h⟩)  h1)
def rm_X12_story : Room := { frames := 10, cells := 0, slots := 0, locals := 228 }
theorem dX12_story_0 : decode cX12_story 0 = .ok (.aload_n 0, 1) := by decide +kernel
theorem dX12_story_1 : decode cX12_story 1 = .ok (.iload_n 1, 1) := by decide +kernel
theorem dX12_story_2 : decode cX12_story 2 = .ok (.invokestatic 302, 3) := by decide +kernel
theorem dX12_story_5 : decode cX12_story 5 = .ok (.ifCond .eq 7, 3) := by decide +kernel
theorem dX12_story_8 : decode cX12_story 8 = .ok (.iconst 0, 1) := by decide +kernel
theorem dX12_story_9 : decode cX12_story 9 = .ok (.goto 4, 3) := by decide +kernel
theorem dX12_story_12 : decode cX12_story 12 = .ok (.iconst 1, 1) := by decide +kernel
theorem dX12_story_13 : decode cX12_story 13 = .ok (.invokevirtual 182, 3) := by decide +kernel
theorem dX12_story_16 : decode cX12_story 16 = .ok (.ifCond .ne 5, 3) := by decide +kernel
theorem dX12_story_19 : decode cX12_story 19 = .ok (.iconst 0, 1) := by decide +kernel
theorem dX12_story_20 : decode cX12_story 20 = .ok (.ireturn, 1) := by decide +kernel
theorem dX12_story_21 : decode cX12_story 21 = .ok (.aload_n 0, 1) := by decide +kernel
theorem dX12_story_22 : decode cX12_story 22 = .ok (.invokevirtual 287, 3) := by decide +kernel
theorem dX12_story_25 : decode cX12_story 25 = .ok (.iconst 1, 1) := by decide +kernel
theorem dX12_story_26 : decode cX12_story 26 = .ok (.istore_n 2, 1) := by decide +kernel
theorem dX12_story_27 : decode cX12_story 27 = .ok (.iload_n 2, 1) := by decide +kernel
theorem dX12_story_28 : decode cX12_story 28 = .ok (.aload_n 0, 1) := by decide +kernel
theorem dX12_story_29 : decode cX12_story 29 = .ok (.getfield 257, 3) := by decide +kernel
theorem dX12_story_32 : decode cX12_story 32 = .ok (.if_icmp .gt 46, 3) := by decide +kernel
theorem dX12_story_35 : decode cX12_story 35 = .ok (.iconst 1, 1) := by decide +kernel
theorem dX12_story_36 : decode cX12_story 36 = .ok (.istore_n 3, 1) := by decide +kernel
theorem dX12_story_37 : decode cX12_story 37 = .ok (.iload_n 3, 1) := by decide +kernel
theorem dX12_story_38 : decode cX12_story 38 = .ok (.iconst 1, 1) := by decide +kernel
theorem dX12_story_39 : decode cX12_story 39 = .ok (.aload_n 0, 1) := by decide +kernel
theorem dX12_story_40 : decode cX12_story 40 = .ok (.getfield 257, 3) := by decide +kernel
theorem dX12_story_43 : decode cX12_story 43 = .ok (.ishl, 1) := by decide +kernel
theorem dX12_story_44 : decode cX12_story 44 = .ok (.if_icmp .ge 28, 3) := by decide +kernel
theorem dX12_story_47 : decode cX12_story 47 = .ok (.iload_n 3, 1) := by decide +kernel
theorem dX12_story_48 : decode cX12_story 48 = .ok (.invokestatic 308, 3) := by decide +kernel
theorem dX12_story_51 : decode cX12_story 51 = .ok (.iload_n 2, 1) := by decide +kernel
theorem dX12_story_52 : decode cX12_story 52 = .ok (.if_icmp .ne 14, 3) := by decide +kernel
theorem dX12_story_55 : decode cX12_story 55 = .ok (.aload_n 0, 1) := by decide +kernel
theorem dX12_story_56 : decode cX12_story 56 = .ok (.iload_n 1, 1) := by decide +kernel
theorem dX12_story_57 : decode cX12_story 57 = .ok (.iload_n 3, 1) := by decide +kernel
theorem dX12_story_58 : decode cX12_story 58 = .ok (.invokevirtual 311, 3) := by decide +kernel
theorem dX12_story_61 : decode cX12_story 61 = .ok (.ifCond .ne 5, 3) := by decide +kernel
theorem dX12_story_64 : decode cX12_story 64 = .ok (.iload_n 3, 1) := by decide +kernel
theorem dX12_story_65 : decode cX12_story 65 = .ok (.ireturn, 1) := by decide +kernel
theorem dX12_story_66 : decode cX12_story 66 = .ok (.iinc 3 1, 3) := by decide +kernel
theorem dX12_story_69 : decode cX12_story 69 = .ok (.goto (-32), 3) := by decide +kernel
theorem dX12_story_72 : decode cX12_story 72 = .ok (.iinc 2 1, 3) := by decide +kernel
theorem dX12_story_75 : decode cX12_story 75 = .ok (.goto (-48), 3) := by decide +kernel
theorem dX12_story_78 : decode cX12_story 78 = .ok (.iconst (-1), 1) := by decide +kernel
theorem dX12_story_79 : decode cX12_story 79 = .ok (.ireturn, 1) := by decide +kernel
def wp_X12_story_66 (h : Nat) (x1 : Int32) (x2 : Int32) (x3 : Int32) (S : xm_S) (g : Int32 → xm_S → Prop) (Z27 : Int32 → Int32 → xm_S → Prop) (Z37 : Int32 → Int32 → Int32 → xm_S → Prop) : Prop :=
  ∀ y1, y1 = (x3 + (1 : Int32)) → Z37 x1 x2 y1 S
set_option maxRecDepth 100000 in
set_option maxHeartbeats 4000000 in
theorem kp_X12_story_66 {K : xm_K} (h : Nat) (x1 : Int32) (x2 : Int32) (x3 : Int32) (S : xm_S) {g : Int32 → xm_S → Prop} {Z27 : Int32 → Int32 → xm_S → Prop} {Z37 : Int32 → Int32 → Int32 → xm_S → Prop} (C : xm_Cx K cX12_story RX12 4 (some (FieldType.int)) rm_X12_story) (N : xm_Nx K) (hg : ∀ v S, g v S → xm_q K (some (xm_i v)) S) (hZ27 : ∀ x1 x2 S, Z27 x1 x2 S → xm_W K 0 0 27 [(0, xm_r (some h)), (1, xm_i x1), (2, xm_i x2)] [] S) (hZ37 : ∀ x1 x2 x3 S, Z37 x1 x2 x3 S → xm_W K 0 0 37 [(0, xm_r (some h)), (1, xm_i x1), (2, xm_i x2), (3, xm_i x3)] [] S) (h1 : wp_X12_story_66 h x1 x2 x3 S g Z27 Z37) : xm_W K 0 0 66 [(0, xm_r (some h)), (1, xm_i x1), (2, xm_i x2), (3, xm_i x3)] [] S := by
  unfold wp_X12_story_66 at h1
  obtain ⟨y1, e2⟩ : ∃ y1, y1 = (x3 + (1 : Int32)) := ⟨_, rfl⟩
  have h1 := h1 y1 e2
  refine x_iinc (v := y1) (L' := [(3, xm_i y1), (0, xm_r (some h)), (1, xm_i x1), (2, xm_i x2)]) C 3 dX12_story_66 rfl (by rw [e2]; rfl) (by decide) rfl ?_
  refine x_goto (tgt := 37) C dX12_story_69 (by decide) ?_
  refine x_keep (L' := [(0, xm_r (some h)), (1, xm_i x1), (2, xm_i x2), (3, xm_i y1)]) C [1, 2, 3, 0] rfl ?_
  exact hZ37 x1 x2 y1 S h1
def wp_X12_story_37B (h : Nat) (x1 : Int32) (x2 : Int32) (x3 : Int32) (S : xm_S) (g : Int32 → xm_S → Prop) (Z27 : Int32 → Int32 → xm_S → Prop) (Z37 : Int32 → Int32 → Int32 → xm_S → Prop) : Prop :=
  st_t S h = some (12, 0) ∧ (((1 : Int32) <<< ((st_i S h 18) &&& 31)) ≤ x3 → ∀ y4, y4 = (x2 + (1 : Int32)) → Z27 x1 y4 S) ∧ (¬ ((1 : Int32) <<< ((st_i S h 18) &&& 31)) ≤ x3 → wp_X12_size x3 S (fun r7 S6 => (¬ r7 = x2 → wp_X12_story_66 h x1 x2 x3 S6 g Z27 Z37) ∧ (r7 = x2 → st_t S6 h = some (12, 0) ∧ wp_X12_hasClosure h x1 x3 S6 (fun r10 S9 => (¬ r10 = 0 → wp_X12_story_66 h x1 x2 x3 S9 g Z27 Z37) ∧ (r10 = 0 → g x3 S9)))))
def wp_X12_story_37 (h : Nat) (x1 : Int32) (x2 : Int32) (x3 : Int32) (S : xm_S) (g : Int32 → xm_S → Prop) (Z27 : Int32 → Int32 → xm_S → Prop) : Prop :=
  ∀ Z37 : Int32 → Int32 → Int32 → xm_S → Prop, (∀ x1 x2 x3 S, wp_X12_story_37B h x1 x2 x3 S g Z27 Z37 → Z37 x1 x2 x3 S) → Z37 x1 x2 x3 S
set_option maxRecDepth 100000 in
set_option maxHeartbeats 4000000 in
theorem kp_X12_story_37B {K : xm_K} (h : Nat) (x1 : Int32) (x2 : Int32) (x3 : Int32) (S : xm_S) {g : Int32 → xm_S → Prop} {Z27 : Int32 → Int32 → xm_S → Prop} {Z37 : Int32 → Int32 → Int32 → xm_S → Prop} (C : xm_Cx K cX12_story RX12 4 (some (FieldType.int)) rm_X12_story) (N : xm_Nx K) (hg : ∀ v S, g v S → xm_q K (some (xm_i v)) S) (hZ27 : ∀ x1 x2 S, Z27 x1 x2 S → xm_W K 0 0 27 [(0, xm_r (some h)), (1, xm_i x1), (2, xm_i x2)] [] S) (hZ37 : ∀ x1 x2 x3 S, Z37 x1 x2 x3 S → xm_W K 0 0 37 [(0, xm_r (some h)), (1, xm_i x1), (2, xm_i x2), (3, xm_i x3)] [] S) (h1 : wp_X12_story_37B h x1 x2 x3 S g Z27 Z37) : xm_W K 0 0 37 [(0, xm_r (some h)), (1, xm_i x1), (2, xm_i x2), (3, xm_i x3)] [] S := by
  unfold wp_X12_story_37B at h1
  refine x_iload_n C 3 dX12_story_37 rfl rfl ?_
  refine x_iconst (v := (1 : Int32)) C dX12_story_38 (by decide) ?_
  refine x_aload_n C 0 dX12_story_39 rfl rfl ?_
  obtain ⟨ht3, h1⟩ := h1
  refine x_getf_i (n := h) C rfl ht3 fd_187 (by decide) dX12_story_40 ?_
  refine x_ishl C dX12_story_43 ?_
  refine x_icmp_ge (tgt := 72) C dX12_story_44 (by decide) (fun z9 => ?_) (fun z9 => ?_)
  · have h1 := h1.1 z9
    obtain ⟨y4, e5⟩ : ∃ y4, y4 = (x2 + (1 : Int32)) := ⟨_, rfl⟩
    have h1 := h1 y4 e5
    refine x_iinc (v := y4) (L' := [(2, xm_i y4), (0, xm_r (some h)), (1, xm_i x1), (3, xm_i x3)]) C 2 dX12_story_72 rfl (by rw [e5]; rfl) (by decide) rfl ?_
    refine x_goto (tgt := 27) C dX12_story_75 (by decide) ?_
    refine x_keep (L' := [(0, xm_r (some h)), (1, xm_i x1), (2, xm_i y4)]) C [1, 2, 0] rfl ?_
    exact hZ27 x1 y4 S h1
  · have h1 := h1.2 z9
    refine x_iload_n C 3 dX12_story_47 rfl rfl ?_
    refine x_callS (rm' := rm_X12_size) C (kp_X12_size_met h1) lk_124 gw_733 rfl (Nat.le_of_ble_eq_true rfl) ⟨Nat.le_of_ble_eq_true rfl, Nat.le_of_ble_eq_true rfl, (Nat.le_of_ble_eq_true rfl), (Nat.le_of_ble_eq_true rfl)⟩ dX12_story_48 xm_kx (xm_ki (fun r7 S6 h1 => ?_))
    refine x_iload_n C 2 dX12_story_51 rfl rfl ?_
    refine x_icmp_ne (tgt := 66) C dX12_story_52 (by decide) (fun z9 => ?_) (fun z9 => ?_)
    · have h1 := h1.1 z9
      exact kp_X12_story_66 h x1 x2 x3 S6 C N hg hZ27 hZ37 h1
    · have h1 := h1.2 z9
      refine x_aload_n C 0 dX12_story_55 rfl rfl ?_
      refine x_iload_n C 1 dX12_story_56 rfl rfl ?_
      refine x_iload_n C 3 dX12_story_57 rfl rfl ?_
      obtain ⟨ht8, h1⟩ := h1
      refine x_callV (rm' := rm_X12_hasClosure) (n := h) C (kp_X12_hasClosure_met h1) lk_134 gw_784 gw_785 xv_12 rfl rfl ht8 rfl (Nat.le_of_ble_eq_true rfl) ⟨Nat.le_of_ble_eq_true rfl, Nat.le_of_ble_eq_true rfl, (Nat.le_of_ble_eq_true rfl), (Nat.le_of_ble_eq_true rfl)⟩ dX12_story_58 xm_kx (xm_ki (fun r10 S9 h1 => ?_))
      refine x_if_ne (tgt := 66) C dX12_story_61 (by decide) (fun z9 => ?_) (fun z9 => ?_)
      · have h1 := h1.1 z9
        exact kp_X12_story_66 h x1 x2 x3 S9 C N hg hZ27 hZ37 h1
      · have h1 := h1.2 z9
        refine x_iload_n C 3 dX12_story_64 rfl rfl ?_
        exact x_iret C (Nat.le_of_ble_eq_true rfl) (Nat.le_of_ble_eq_true rfl) rfl dX12_story_65 (hg _ _ h1)
theorem kp_X12_story_37 {K : xm_K} (h : Nat) (x1 : Int32) (x2 : Int32) (x3 : Int32) (S : xm_S) {g : Int32 → xm_S → Prop} {Z27 : Int32 → Int32 → xm_S → Prop} (C : xm_Cx K cX12_story RX12 4 (some (FieldType.int)) rm_X12_story) (N : xm_Nx K) (hg : ∀ v S, g v S → xm_q K (some (xm_i v)) S) (hZ27 : ∀ x1 x2 S, Z27 x1 x2 S → xm_W K 0 0 27 [(0, xm_r (some h)), (1, xm_i x1), (2, xm_i x2)] [] S) (h1 : wp_X12_story_37 h x1 x2 x3 S g Z27) : xm_W K 0 0 37 [(0, xm_r (some h)), (1, xm_i x1), (2, xm_i x2), (3, xm_i x3)] [] S :=
  h1 (fun x1 x2 x3 S => xm_W K 0 0 37 [(0, xm_r (some h)), (1, xm_i x1), (2, xm_i x2), (3, xm_i x3)] [] S) (fun x1 x2 x3 S hb => kp_X12_story_37B h x1 x2 x3 S C N hg hZ27 (fun x1 x2 x3 S hz => hz) hb)
def wp_X12_story_27B (h : Nat) (x1 : Int32) (x2 : Int32) (S : xm_S) (g : Int32 → xm_S → Prop) (Z27 : Int32 → Int32 → xm_S → Prop) : Prop :=
  st_t S h = some (12, 0) ∧ ((st_i S h 18) < x2 → g (-1 : Int32) S) ∧ (¬ (st_i S h 18) < x2 → wp_X12_story_37 h x1 x2 (1 : Int32) S g Z27)
def wp_X12_story_27 (h : Nat) (x1 : Int32) (x2 : Int32) (S : xm_S) (g : Int32 → xm_S → Prop) : Prop :=
  ∀ Z27 : Int32 → Int32 → xm_S → Prop, (∀ x1 x2 S, wp_X12_story_27B h x1 x2 S g Z27 → Z27 x1 x2 S) → Z27 x1 x2 S
set_option maxRecDepth 100000 in
set_option maxHeartbeats 4000000 in
theorem kp_X12_story_27B {K : xm_K} (h : Nat) (x1 : Int32) (x2 : Int32) (S : xm_S) {g : Int32 → xm_S → Prop} {Z27 : Int32 → Int32 → xm_S → Prop} (C : xm_Cx K cX12_story RX12 4 (some (FieldType.int)) rm_X12_story) (N : xm_Nx K) (hg : ∀ v S, g v S → xm_q K (some (xm_i v)) S) (hZ27 : ∀ x1 x2 S, Z27 x1 x2 S → xm_W K 0 0 27 [(0, xm_r (some h)), (1, xm_i x1), (2, xm_i x2)] [] S) (h1 : wp_X12_story_27B h x1 x2 S g Z27) : xm_W K 0 0 27 [(0, xm_r (some h)), (1, xm_i x1), (2, xm_i x2)] [] S := by
  unfold wp_X12_story_27B at h1
  refine x_iload_n C 2 dX12_story_27 rfl rfl ?_
  refine x_aload_n C 0 dX12_story_28 rfl rfl ?_
  obtain ⟨ht11, h1⟩ := h1
  refine x_getf_i (n := h) C rfl ht11 fd_187 (by decide) dX12_story_29 ?_
  refine x_icmp_gt (tgt := 78) C dX12_story_32 (by decide) (fun z9 => ?_) (fun z9 => ?_)
  · have h1 := h1.1 z9
    refine x_iconst (v := (-1 : Int32)) C dX12_story_78 (by decide) ?_
    exact x_iret C (Nat.le_of_ble_eq_true rfl) (Nat.le_of_ble_eq_true rfl) rfl dX12_story_79 (hg _ _ h1)
  · have h1 := h1.2 z9
    refine x_iconst (v := (1 : Int32)) C dX12_story_35 (by decide) ?_
    refine x_istore_n (L' := [(3, xm_i (1 : Int32)), (0, xm_r (some h)), (1, xm_i x1), (2, xm_i x2)]) C dX12_story_36 rfl (by decide) rfl ?_
    refine x_keep (L' := [(0, xm_r (some h)), (1, xm_i x1), (2, xm_i x2), (3, xm_i (1 : Int32))]) C [1, 2, 3, 0] rfl ?_
    exact kp_X12_story_37 h x1 x2 (1 : Int32) S C N hg hZ27 h1
theorem kp_X12_story_27 {K : xm_K} (h : Nat) (x1 : Int32) (x2 : Int32) (S : xm_S) {g : Int32 → xm_S → Prop} (C : xm_Cx K cX12_story RX12 4 (some (FieldType.int)) rm_X12_story) (N : xm_Nx K) (hg : ∀ v S, g v S → xm_q K (some (xm_i v)) S)  (h1 : wp_X12_story_27 h x1 x2 S g) : xm_W K 0 0 27 [(0, xm_r (some h)), (1, xm_i x1), (2, xm_i x2)] [] S :=
  h1 (fun x1 x2 S => xm_W K 0 0 27 [(0, xm_r (some h)), (1, xm_i x1), (2, xm_i x2)] [] S) (fun x1 x2 S hb => kp_X12_story_27B h x1 x2 S C N hg (fun x1 x2 S hz => hz) hb)
def wp_X12_story_13 (h : Nat) (x1 : Int32) (s0 : Int32) (s1 : Option Nat) (S : xm_S) (g : Int32 → xm_S → Prop) : Prop :=
  ∃ n12, s1 = some n12 ∧ st_t S n12 = some (12, 0) ∧ wp_X12_may n12 s0 S (fun r16 S15 => (¬ r16 = 0 → st_t S15 h = some (12, 0) ∧ wp_X12_laysRanges h S15 (fun S18 => wp_X12_story_27 h x1 (1 : Int32) S18 g)) ∧ (r16 = 0 → g (0 : Int32) S15))
set_option maxRecDepth 100000 in
set_option maxHeartbeats 4000000 in
theorem kp_X12_story_13 {K : xm_K} (h : Nat) (x1 : Int32) (s0 : Int32) (s1 : Option Nat) (S : xm_S) {g : Int32 → xm_S → Prop} (C : xm_Cx K cX12_story RX12 4 (some (FieldType.int)) rm_X12_story) (N : xm_Nx K) (hg : ∀ v S, g v S → xm_q K (some (xm_i v)) S)  (h1 : wp_X12_story_13 h x1 s0 s1 S g) : xm_W K 0 0 13 [(0, xm_r (some h)), (1, xm_i x1)] [xm_i s0, xm_r s1] S := by
  unfold wp_X12_story_13 at h1
  obtain ⟨n12, hr13, h1⟩ := h1
  obtain ⟨ht14, h1⟩ := h1
  refine x_callV (rm' := rm_X12_may) (n := n12) C (kp_X12_may_met h1) lk_95 gw_572 gw_573 xv_12 rfl hr13 ht14 rfl (Nat.le_of_ble_eq_true rfl) ⟨Nat.le_of_ble_eq_true rfl, Nat.le_of_ble_eq_true rfl, (Nat.le_of_ble_eq_true rfl), (Nat.le_of_ble_eq_true rfl)⟩ dX12_story_13 xm_kx (xm_ki (fun r16 S15 h1 => ?_))
  refine x_if_ne (tgt := 21) C dX12_story_16 (by decide) (fun z9 => ?_) (fun z9 => ?_)
  · have h1 := h1.1 z9
    refine x_aload_n C 0 dX12_story_21 rfl rfl ?_
    obtain ⟨ht17, h1⟩ := h1
    refine x_callV (rm' := rm_X12_laysRanges) (n := h) C (kp_X12_laysRanges_met h1) lk_117 gw_686 gw_687 xv_12 rfl rfl ht17 rfl (Nat.le_of_ble_eq_true rfl) ⟨Nat.le_of_ble_eq_true rfl, Nat.le_of_ble_eq_true rfl, (Nat.le_of_ble_eq_true rfl), (Nat.le_of_ble_eq_true rfl)⟩ dX12_story_22 xm_kx (xm_kv (fun S18 h1 => ?_))
    refine x_iconst (v := (1 : Int32)) C dX12_story_25 (by decide) ?_
    refine x_istore_n (L' := [(2, xm_i (1 : Int32)), (0, xm_r (some h)), (1, xm_i x1)]) C dX12_story_26 rfl (by decide) rfl ?_
    refine x_keep (L' := [(0, xm_r (some h)), (1, xm_i x1), (2, xm_i (1 : Int32))]) C [1, 2, 0] rfl ?_
    exact kp_X12_story_27 h x1 (1 : Int32) S18 C N hg  h1
  · have h1 := h1.2 z9
    refine x_iconst (v := (0 : Int32)) C dX12_story_19 (by decide) ?_
    exact x_iret C (Nat.le_of_ble_eq_true rfl) (Nat.le_of_ble_eq_true rfl) rfl dX12_story_20 (hg _ _ h1)
def wp_X12_story (h : Nat) (x1 : Int32) (S : xm_S) (g : Int32 → xm_S → Prop) : Prop :=
  wp_X12_isPlatform x1 S (fun r21 S20 => (r21 = 0 → wp_X12_story_13 h x1 (1 : Int32) (some h) S20 g) ∧ (¬ r21 = 0 → wp_X12_story_13 h x1 (0 : Int32) (some h) S20 g))
set_option maxRecDepth 100000 in
set_option maxHeartbeats 4000000 in
theorem kp_X12_story {K : xm_K} (h : Nat) (x1 : Int32) (S : xm_S) {g : Int32 → xm_S → Prop} (C : xm_Cx K cX12_story RX12 4 (some (FieldType.int)) rm_X12_story) (N : xm_Nx K) (hg : ∀ v S, g v S → xm_q K (some (xm_i v)) S)  (h1 : wp_X12_story h x1 S g) : xm_W K 0 0 0 [(0, xm_r (some h)), (1, xm_i x1)] [] S := by
  unfold wp_X12_story at h1
  refine x_aload_n C 0 dX12_story_0 rfl rfl ?_
  refine x_iload_n C 1 dX12_story_1 rfl rfl ?_
  refine x_callS (rm' := rm_X12_isPlatform) C (kp_X12_isPlatform_met h1) lk_104 gw_611 rfl (Nat.le_of_ble_eq_true rfl) ⟨Nat.le_of_ble_eq_true rfl, Nat.le_of_ble_eq_true rfl, (Nat.le_of_ble_eq_true rfl), (Nat.le_of_ble_eq_true rfl)⟩ dX12_story_2 xm_kx (xm_ki (fun r21 S20 h1 => ?_))
  refine x_if_eq (tgt := 12) C dX12_story_5 (by decide) (fun z9 => ?_) (fun z9 => ?_)
  · have h1 := h1.1 z9
    refine x_iconst (v := (1 : Int32)) C dX12_story_12 (by decide) ?_
    exact kp_X12_story_13 h x1 (1 : Int32) (some h) S20 C N hg  h1
  · have h1 := h1.2 z9
    refine x_iconst (v := (0 : Int32)) C dX12_story_8 (by decide) ?_
    refine x_goto (tgt := 13) C dX12_story_9 (by decide) ?_
    exact kp_X12_story_13 h x1 (0 : Int32) (some h) S20 C N hg  h1
theorem kp_X12_story_met {h : Nat} {x1 : Int32} {S : xm_S} {g : Int32 → xm_S → Prop}  (h1 : wp_X12_story h x1 S g) : xm_Met yX12_story cX12_story 4 (some (FieldType.int)) rm_X12_story [xm_r (some h), xm_i x1] S (xm_qi g) xm_nox :=
  xm_ofW RX12 (by decide +kernel) rfl (Nat.le_of_ble_eq_true rfl) (fun K C N hq hx hi => kp_X12_story h x1 S C N (fun v S h => by rw [hq]; exact ⟨v, rfl, h⟩)  h1)
def rm_X12_thrown : Room := { frames := 1, cells := 0, slots := 0, locals := 20 }
theorem dX12_thrown_0 : decode cX12_thrown 0 = .ok (.aload_n 0, 1) := by decide +kernel
theorem dX12_thrown_1 : decode cX12_thrown 1 = .ok (.getfield 169, 3) := by decide +kernel
theorem dX12_thrown_4 : decode cX12_thrown 4 = .ok (.ireturn, 1) := by decide +kernel
def wp_X12_thrown (h : Nat)  (S : xm_S) (g : Int32 → xm_S → Prop) : Prop :=
  st_t S h = some (12, 0) ∧ g (st_i S h 0) S
set_option maxRecDepth 100000 in
set_option maxHeartbeats 4000000 in
theorem kp_X12_thrown {K : xm_K} (h : Nat)  (S : xm_S) {g : Int32 → xm_S → Prop} (C : xm_Cx K cX12_thrown RX12 1 (some (FieldType.int)) rm_X12_thrown) (N : xm_Nx K) (hg : ∀ v S, g v S → xm_q K (some (xm_i v)) S)  (h1 : wp_X12_thrown h  S g) : xm_W K 0 0 0 [(0, xm_r (some h))] [] S := by
  unfold wp_X12_thrown at h1
  refine x_aload_n C 0 dX12_thrown_0 rfl rfl ?_
  obtain ⟨ht1, h1⟩ := h1
  refine x_getf_i (n := h) C rfl ht1 fd_165 (by decide) dX12_thrown_1 ?_
  exact x_iret C (Nat.le_of_ble_eq_true rfl) (Nat.le_of_ble_eq_true rfl) rfl dX12_thrown_4 (hg _ _ h1)
theorem kp_X12_thrown_met {h : Nat}  {S : xm_S} {g : Int32 → xm_S → Prop}  (h1 : wp_X12_thrown h  S g) : xm_Met yX12_thrown cX12_thrown 1 (some (FieldType.int)) rm_X12_thrown [xm_r (some h)] S (xm_qi g) xm_nox :=
  xm_ofW RX12 (by decide +kernel) rfl (Nat.le_of_ble_eq_true rfl) (fun K C N hq hx hi => kp_X12_thrown h  S C N (fun v S h => by rw [hq]; exact ⟨v, rfl, h⟩)  h1)
def rm_X12_type : Room := { frames := 2, cells := 0, slots := 0, locals := 42 }
theorem dX12_type_0 : decode cX12_type 0 = .ok (.iload_n 3, 1) := by decide +kernel
theorem dX12_type_1 : decode cX12_type 1 = .ok (.iconst 1, 1) := by decide +kernel
theorem dX12_type_2 : decode cX12_type 2 = .ok (.bipush 8, 2) := by decide +kernel
theorem dX12_type_4 : decode cX12_type 4 = .ok (.invokestatic 172, 3) := by decide +kernel
theorem dX12_type_7 : decode cX12_type 7 = .ok (.istore 4, 2) := by decide +kernel
theorem dX12_type_9 : decode cX12_type 9 = .ok (.iconst 0, 1) := by decide +kernel
theorem dX12_type_10 : decode cX12_type 10 = .ok (.istore 5, 2) := by decide +kernel
theorem dX12_type_12 : decode cX12_type 12 = .ok (.iload 5, 2) := by decide +kernel
theorem dX12_type_14 : decode cX12_type 14 = .ok (.iload_n 3, 1) := by decide +kernel
theorem dX12_type_15 : decode cX12_type 15 = .ok (.if_icmp .ge 35, 3) := by decide +kernel
theorem dX12_type_18 : decode cX12_type 18 = .ok (.iload 4, 2) := by decide +kernel
theorem dX12_type_20 : decode cX12_type 20 = .ok (.ifCond .eq 30, 3) := by decide +kernel
theorem dX12_type_23 : decode cX12_type 23 = .ok (.lload_n 1, 1) := by decide +kernel
theorem dX12_type_24 : decode cX12_type 24 = .ok (.bipush 8, 2) := by decide +kernel
theorem dX12_type_26 : decode cX12_type 26 = .ok (.iload 5, 2) := by decide +kernel
theorem dX12_type_28 : decode cX12_type 28 = .ok (.imul, 1) := by decide +kernel
theorem dX12_type_29 : decode cX12_type 29 = .ok (.lushr, 1) := by decide +kernel
theorem dX12_type_30 : decode cX12_type 30 = .ok (.ldc2_w 180, 3) := by decide +kernel
theorem dX12_type_33 : decode cX12_type 33 = .ok (.land, 1) := by decide +kernel
theorem dX12_type_34 : decode cX12_type 34 = .ok (.l2i, 1) := by decide +kernel
theorem dX12_type_35 : decode cX12_type 35 = .ok (.bipush 33, 2) := by decide +kernel
theorem dX12_type_37 : decode cX12_type 37 = .ok (.bipush 126, 2) := by decide +kernel
theorem dX12_type_39 : decode cX12_type 39 = .ok (.invokestatic 172, 3) := by decide +kernel
theorem dX12_type_42 : decode cX12_type 42 = .ok (.istore 4, 2) := by decide +kernel
theorem dX12_type_44 : decode cX12_type 44 = .ok (.iinc 5 1, 3) := by decide +kernel
theorem dX12_type_47 : decode cX12_type 47 = .ok (.goto (-35), 3) := by decide +kernel
theorem dX12_type_50 : decode cX12_type 50 = .ok (.aload_n 0, 1) := by decide +kernel
theorem dX12_type_51 : decode cX12_type 51 = .ok (.iload 4, 2) := by decide +kernel
theorem dX12_type_53 : decode cX12_type 53 = .ok (.ifCond .ne 7, 3) := by decide +kernel
theorem dX12_type_56 : decode cX12_type 56 = .ok (.iconst 1, 1) := by decide +kernel
theorem dX12_type_57 : decode cX12_type 57 = .ok (.goto 23, 3) := by decide +kernel
theorem dX12_type_60 : decode cX12_type 60 = .ok (.aload_n 0, 1) := by decide +kernel
theorem dX12_type_61 : decode cX12_type 61 = .ok (.getfield 77, 3) := by decide +kernel
theorem dX12_type_64 : decode cX12_type 64 = .ok (.sipush 154, 3) := by decide +kernel
theorem dX12_type_67 : decode cX12_type 67 = .ok (.iaload, 1) := by decide +kernel
theorem dX12_type_68 : decode cX12_type 68 = .ok (.iload_n 3, 1) := by decide +kernel
theorem dX12_type_69 : decode cX12_type 69 = .ok (.iadd, 1) := by decide +kernel
theorem dX12_type_70 : decode cX12_type 70 = .ok (.bipush 40, 2) := by decide +kernel
theorem dX12_type_72 : decode cX12_type 72 = .ok (.if_icmp .le 7, 3) := by decide +kernel
theorem dX12_type_75 : decode cX12_type 75 = .ok (.iconst 2, 1) := by decide +kernel
theorem dX12_type_76 : decode cX12_type 76 = .ok (.goto 4, 3) := by decide +kernel
theorem dX12_type_79 : decode cX12_type 79 = .ok (.iconst 0, 1) := by decide +kernel
theorem dX12_type_80 : decode cX12_type 80 = .ok (.invokevirtual 182, 3) := by decide +kernel
theorem dX12_type_83 : decode cX12_type 83 = .ok (.ifCond .ne 5, 3) := by decide +kernel
theorem dX12_type_86 : decode cX12_type 86 = .ok (.iconst 0, 1) := by decide +kernel
theorem dX12_type_87 : decode cX12_type 87 = .ok (.ireturn, 1) := by decide +kernel
theorem dX12_type_88 : decode cX12_type 88 = .ok (.iconst 0, 1) := by decide +kernel
theorem dX12_type_89 : decode cX12_type 89 = .ok (.istore 5, 2) := by decide +kernel
theorem dX12_type_91 : decode cX12_type 91 = .ok (.iload 5, 2) := by decide +kernel
theorem dX12_type_93 : decode cX12_type 93 = .ok (.iload_n 3, 1) := by decide +kernel
theorem dX12_type_94 : decode cX12_type 94 = .ok (.if_icmp .ge 50, 3) := by decide +kernel
theorem dX12_type_97 : decode cX12_type 97 = .ok (.aload_n 0, 1) := by decide +kernel
theorem dX12_type_98 : decode cX12_type 98 = .ok (.getfield 74, 3) := by decide +kernel
theorem dX12_type_101 : decode cX12_type 101 = .ok (.sipush 6160, 3) := by decide +kernel
theorem dX12_type_104 : decode cX12_type 104 = .ok (.aload_n 0, 1) := by decide +kernel
theorem dX12_type_105 : decode cX12_type 105 = .ok (.getfield 77, 3) := by decide +kernel
theorem dX12_type_108 : decode cX12_type 108 = .ok (.sipush 154, 3) := by decide +kernel
theorem dX12_type_111 : decode cX12_type 111 = .ok (.iaload, 1) := by decide +kernel
theorem dX12_type_112 : decode cX12_type 112 = .ok (.iadd, 1) := by decide +kernel
theorem dX12_type_113 : decode cX12_type 113 = .ok (.lload_n 1, 1) := by decide +kernel
theorem dX12_type_114 : decode cX12_type 114 = .ok (.bipush 8, 2) := by decide +kernel
theorem dX12_type_116 : decode cX12_type 116 = .ok (.iload 5, 2) := by decide +kernel
theorem dX12_type_118 : decode cX12_type 118 = .ok (.imul, 1) := by decide +kernel
theorem dX12_type_119 : decode cX12_type 119 = .ok (.lushr, 1) := by decide +kernel
theorem dX12_type_120 : decode cX12_type 120 = .ok (.ldc2_w 180, 3) := by decide +kernel
theorem dX12_type_123 : decode cX12_type 123 = .ok (.land, 1) := by decide +kernel
theorem dX12_type_124 : decode cX12_type 124 = .ok (.l2i, 1) := by decide +kernel
theorem dX12_type_125 : decode cX12_type 125 = .ok (.iastore, 1) := by decide +kernel
theorem dX12_type_126 : decode cX12_type 126 = .ok (.aload_n 0, 1) := by decide +kernel
theorem dX12_type_127 : decode cX12_type 127 = .ok (.getfield 77, 3) := by decide +kernel
theorem dX12_type_130 : decode cX12_type 130 = .ok (.sipush 154, 3) := by decide +kernel
theorem dX12_type_133 : decode cX12_type 133 = .ok (.dup2, 1) := by decide +kernel
theorem dX12_type_134 : decode cX12_type 134 = .ok (.iaload, 1) := by decide +kernel
theorem dX12_type_135 : decode cX12_type 135 = .ok (.iconst 1, 1) := by decide +kernel
theorem dX12_type_136 : decode cX12_type 136 = .ok (.iadd, 1) := by decide +kernel
theorem dX12_type_137 : decode cX12_type 137 = .ok (.iastore, 1) := by decide +kernel
theorem dX12_type_138 : decode cX12_type 138 = .ok (.iinc 5 1, 3) := by decide +kernel
theorem dX12_type_141 : decode cX12_type 141 = .ok (.goto (-50), 3) := by decide +kernel
theorem dX12_type_144 : decode cX12_type 144 = .ok (.aload_n 0, 1) := by decide +kernel
theorem dX12_type_145 : decode cX12_type 145 = .ok (.getfield 77, 3) := by decide +kernel
theorem dX12_type_148 : decode cX12_type 148 = .ok (.sipush 154, 3) := by decide +kernel
theorem dX12_type_151 : decode cX12_type 151 = .ok (.iaload, 1) := by decide +kernel
theorem dX12_type_152 : decode cX12_type 152 = .ok (.ireturn, 1) := by decide +kernel
def wp_X12_type_91B (h : Nat) (x1 : Int64) (x3 : Int32) (x5 : Int32) (S : xm_S) (g : Int32 → xm_S → Prop) (Z91 : Int64 → Int32 → Int32 → xm_S → Prop) : Prop :=
  (x3 ≤ x5 → st_t S h = some (12, 0) ∧ ∃ n2, (st_r S h 25) = some n2 ∧ ∃ z5, st_t S n2 = some (100, z5) ∧ vp_in (nI 154) z5 ∧ g (st_i S n2 ((nI 154)).toNatClampNeg) S) ∧ (¬ x3 ≤ x5 → st_t S h = some (12, 0) ∧ ∃ n8, (st_r S h 25) = some n8 ∧ ∃ z11, st_t S n8 = some (100, z11) ∧ vp_in (nI 154) z11 ∧ ∃ n13, (st_r S h 24) = some n13 ∧ ∃ z16, st_t S n13 = some (100, z16) ∧ vp_in ((nI 6160) + (st_i S n8 ((nI 154)).toNatClampNeg)) z16 ∧ ∀ S18, S18 = st_pi S n13 (((nI 6160) + (st_i S n8 ((nI 154)).toNatClampNeg))).toNatClampNeg (((((x1.toUInt64 >>> (((nI 8) * x5).toInt64.toUInt64 &&& Int64.toUInt64 63)).toInt64) &&& (255 : Int64))).toInt32) → ∃ n20, (st_r S18 h 25) = some n20 ∧ ∃ z23, st_t S18 n20 = some (100, z23) ∧ vp_in (nI 154) z23 ∧ ∃ n25, (st_r S18 h 25) = some n25 ∧ ∃ z28, st_t S18 n25 = some (100, z28) ∧ vp_in (nI 154) z28 ∧ ∀ S30, S30 = st_pi S18 n25 ((nI 154)).toNatClampNeg ((st_i S18 n20 ((nI 154)).toNatClampNeg) + (1 : Int32)) → ∀ y32, y32 = (x5 + (1 : Int32)) → Z91 x1 x3 y32 S30)
def wp_X12_type_91 (h : Nat) (x1 : Int64) (x3 : Int32) (x5 : Int32) (S : xm_S) (g : Int32 → xm_S → Prop) : Prop :=
  ∀ Z91 : Int64 → Int32 → Int32 → xm_S → Prop, (∀ x1 x3 x5 S, wp_X12_type_91B h x1 x3 x5 S g Z91 → Z91 x1 x3 x5 S) → Z91 x1 x3 x5 S
set_option maxRecDepth 100000 in
set_option maxHeartbeats 4000000 in
theorem kp_X12_type_91B {K : xm_K} (h : Nat) (x1 : Int64) (x3 : Int32) (x5 : Int32) (S : xm_S) {g : Int32 → xm_S → Prop} {Z91 : Int64 → Int32 → Int32 → xm_S → Prop} (C : xm_Cx K cX12_type RX12 6 (some (FieldType.int)) rm_X12_type) (N : xm_Nx K) (hg : ∀ v S, g v S → xm_q K (some (xm_i v)) S) (hZ91 : ∀ x1 x3 x5 S, Z91 x1 x3 x5 S → xm_W K 0 0 91 [(0, xm_r (some h)), (1, xm_l x1), (3, xm_i x3), (5, xm_i x5)] [] S) (h1 : wp_X12_type_91B h x1 x3 x5 S g Z91) : xm_W K 0 0 91 [(0, xm_r (some h)), (1, xm_l x1), (3, xm_i x3), (5, xm_i x5)] [] S := by
  unfold wp_X12_type_91B at h1
  refine x_iload C 3 dX12_type_91 rfl ?_
  refine x_iload_n C 2 dX12_type_93 rfl rfl ?_
  refine x_icmp_ge (tgt := 144) C dX12_type_94 (by decide) (fun z9 => ?_) (fun z9 => ?_)
  · have h1 := h1.1 z9
    refine x_aload_n C 0 dX12_type_144 rfl rfl ?_
    obtain ⟨ht1, h1⟩ := h1
    refine x_getf_r (n := h) C rfl ht1 fd_159 (by decide) dX12_type_145 ?_
    refine x_sipush (v := (nI 154)) C dX12_type_148 (by decide) ?_
    obtain ⟨n2, hr3, h1⟩ := h1
    obtain ⟨z5, ht4, h1⟩ := h1
    obtain ⟨hi6, h1⟩ := h1
    refine x_iald (n := n2) C hr3 ht4 hi6 dX12_type_151 ?_
    exact x_iret C (Nat.le_of_ble_eq_true rfl) (Nat.le_of_ble_eq_true rfl) rfl dX12_type_152 (hg _ _ h1)
  · have h1 := h1.2 z9
    refine x_aload_n C 0 dX12_type_97 rfl rfl ?_
    obtain ⟨ht7, h1⟩ := h1
    refine x_getf_r (n := h) C rfl ht7 fd_161 (by decide) dX12_type_98 ?_
    refine x_sipush (v := (nI 6160)) C dX12_type_101 (by decide) ?_
    refine x_aload_n C 0 dX12_type_104 rfl rfl ?_
    refine x_getf_r (n := h) C rfl ht7 fd_159 (by decide) dX12_type_105 ?_
    refine x_sipush (v := (nI 154)) C dX12_type_108 (by decide) ?_
    obtain ⟨n8, hr9, h1⟩ := h1
    obtain ⟨z11, ht10, h1⟩ := h1
    obtain ⟨hi12, h1⟩ := h1
    refine x_iald (n := n8) C hr9 ht10 hi12 dX12_type_111 ?_
    refine x_iadd C dX12_type_112 ?_
    refine x_lload_n C 1 dX12_type_113 rfl rfl ?_
    refine x_bipush (v := (nI 8)) C dX12_type_114 (by decide) ?_
    refine x_iload C 3 dX12_type_116 rfl ?_
    refine x_imul C dX12_type_118 ?_
    refine x_lushr C dX12_type_119 ?_
    refine x_ldc2 (v := (255 : Int64)) C gw_786 dX12_type_120 ?_
    refine x_land C dX12_type_123 ?_
    refine x_l2i C dX12_type_124 ?_
    obtain ⟨n13, hr14, h1⟩ := h1
    obtain ⟨z16, ht15, h1⟩ := h1
    obtain ⟨hi17, h1⟩ := h1
    refine x_iast (n := n13) C hr14 ht15 hi17 dX12_type_125 ?_
    refine x_topS (fun S18 e19 => ?_)
    have h1 := h1 S18 e19
    refine x_aload_n C 0 dX12_type_126 rfl rfl ?_
    refine x_getf_r (n := h) C rfl (tk_p e19 ht7) fd_159 (by decide) dX12_type_127 ?_
    refine x_sipush (v := (nI 154)) C dX12_type_130 (by decide) ?_
    refine x_dup2_ir C dX12_type_133 ?_
    obtain ⟨n20, hr21, h1⟩ := h1
    obtain ⟨z23, ht22, h1⟩ := h1
    obtain ⟨hi24, h1⟩ := h1
    refine x_iald (n := n20) C hr21 ht22 hi24 dX12_type_134 ?_
    refine x_iconst (v := (1 : Int32)) C dX12_type_135 (by decide) ?_
    refine x_iadd C dX12_type_136 ?_
    obtain ⟨n25, hr26, h1⟩ := h1
    obtain ⟨z28, ht27, h1⟩ := h1
    obtain ⟨hi29, h1⟩ := h1
    refine x_iast (n := n25) C hr26 ht27 hi29 dX12_type_137 ?_
    refine x_topS (fun S30 e31 => ?_)
    have h1 := h1 S30 e31
    obtain ⟨y32, e33⟩ : ∃ y32, y32 = (x5 + (1 : Int32)) := ⟨_, rfl⟩
    have h1 := h1 y32 e33
    refine x_iinc (v := y32) (L' := [(5, xm_i y32), (0, xm_r (some h)), (1, xm_l x1), (3, xm_i x3)]) C 3 dX12_type_138 rfl (by rw [e33]; rfl) (by decide) rfl ?_
    refine x_goto (tgt := 91) C dX12_type_141 (by decide) ?_
    refine x_keep (L' := [(0, xm_r (some h)), (1, xm_l x1), (3, xm_i x3), (5, xm_i y32)]) C [1, 2, 3, 0] rfl ?_
    exact hZ91 x1 x3 y32 S30 h1
theorem kp_X12_type_91 {K : xm_K} (h : Nat) (x1 : Int64) (x3 : Int32) (x5 : Int32) (S : xm_S) {g : Int32 → xm_S → Prop} (C : xm_Cx K cX12_type RX12 6 (some (FieldType.int)) rm_X12_type) (N : xm_Nx K) (hg : ∀ v S, g v S → xm_q K (some (xm_i v)) S)  (h1 : wp_X12_type_91 h x1 x3 x5 S g) : xm_W K 0 0 91 [(0, xm_r (some h)), (1, xm_l x1), (3, xm_i x3), (5, xm_i x5)] [] S :=
  h1 (fun x1 x3 x5 S => xm_W K 0 0 91 [(0, xm_r (some h)), (1, xm_l x1), (3, xm_i x3), (5, xm_i x5)] [] S) (fun x1 x3 x5 S hb => kp_X12_type_91B h x1 x3 x5 S C N hg (fun x1 x3 x5 S hz => hz) hb)
def wp_X12_type_80 (h : Nat) (x1 : Int64) (x3 : Int32) (s0 : Int32) (s1 : Option Nat) (S : xm_S) (g : Int32 → xm_S → Prop) : Prop :=
  ∃ n34, s1 = some n34 ∧ st_t S n34 = some (12, 0) ∧ wp_X12_may n34 s0 S (fun r38 S37 => (¬ r38 = 0 → wp_X12_type_91 h x1 x3 (0 : Int32) S37 g) ∧ (r38 = 0 → g (0 : Int32) S37))
set_option maxRecDepth 100000 in
set_option maxHeartbeats 4000000 in
theorem kp_X12_type_80 {K : xm_K} (h : Nat) (x1 : Int64) (x3 : Int32) (s0 : Int32) (s1 : Option Nat) (S : xm_S) {g : Int32 → xm_S → Prop} (C : xm_Cx K cX12_type RX12 6 (some (FieldType.int)) rm_X12_type) (N : xm_Nx K) (hg : ∀ v S, g v S → xm_q K (some (xm_i v)) S)  (h1 : wp_X12_type_80 h x1 x3 s0 s1 S g) : xm_W K 0 0 80 [(0, xm_r (some h)), (1, xm_l x1), (3, xm_i x3)] [xm_i s0, xm_r s1] S := by
  unfold wp_X12_type_80 at h1
  obtain ⟨n34, hr35, h1⟩ := h1
  obtain ⟨ht36, h1⟩ := h1
  refine x_callV (rm' := rm_X12_may) (n := n34) C (kp_X12_may_met h1) lk_95 gw_572 gw_573 xv_12 rfl hr35 ht36 rfl (Nat.le_of_ble_eq_true rfl) ⟨Nat.le_of_ble_eq_true rfl, Nat.le_of_ble_eq_true rfl, (Nat.le_of_ble_eq_true rfl), (Nat.le_of_ble_eq_true rfl)⟩ dX12_type_80 xm_kx (xm_ki (fun r38 S37 h1 => ?_))
  refine x_if_ne (tgt := 88) C dX12_type_83 (by decide) (fun z9 => ?_) (fun z9 => ?_)
  · have h1 := h1.1 z9
    refine x_iconst (v := (0 : Int32)) C dX12_type_88 (by decide) ?_
    refine x_istore (L' := [(5, xm_i (0 : Int32)), (0, xm_r (some h)), (1, xm_l x1), (3, xm_i x3)]) C dX12_type_89 (by decide) rfl ?_
    refine x_keep (L' := [(0, xm_r (some h)), (1, xm_l x1), (3, xm_i x3), (5, xm_i (0 : Int32))]) C [1, 2, 3, 0] rfl ?_
    exact kp_X12_type_91 h x1 x3 (0 : Int32) S37 C N hg  h1
  · have h1 := h1.2 z9
    refine x_iconst (v := (0 : Int32)) C dX12_type_86 (by decide) ?_
    exact x_iret C (Nat.le_of_ble_eq_true rfl) (Nat.le_of_ble_eq_true rfl) rfl dX12_type_87 (hg _ _ h1)
def wp_X12_type_50 (h : Nat) (x1 : Int64) (x3 : Int32) (x4 : Int32) (S : xm_S) (g : Int32 → xm_S → Prop) : Prop :=
  (¬ x4 = 0 → st_t S h = some (12, 0) ∧ ∃ n40, (st_r S h 25) = some n40 ∧ ∃ z43, st_t S n40 = some (100, z43) ∧ vp_in (nI 154) z43 ∧ (((st_i S n40 ((nI 154)).toNatClampNeg) + x3) ≤ (nI 40) → wp_X12_type_80 h x1 x3 (0 : Int32) (some h) S g) ∧ (¬ ((st_i S n40 ((nI 154)).toNatClampNeg) + x3) ≤ (nI 40) → wp_X12_type_80 h x1 x3 (nI 2) (some h) S g)) ∧ (x4 = 0 → wp_X12_type_80 h x1 x3 (1 : Int32) (some h) S g)
set_option maxRecDepth 100000 in
set_option maxHeartbeats 4000000 in
theorem kp_X12_type_50 {K : xm_K} (h : Nat) (x1 : Int64) (x3 : Int32) (x4 : Int32) (S : xm_S) {g : Int32 → xm_S → Prop} (C : xm_Cx K cX12_type RX12 6 (some (FieldType.int)) rm_X12_type) (N : xm_Nx K) (hg : ∀ v S, g v S → xm_q K (some (xm_i v)) S)  (h1 : wp_X12_type_50 h x1 x3 x4 S g) : xm_W K 0 0 50 [(0, xm_r (some h)), (1, xm_l x1), (3, xm_i x3), (4, xm_i x4)] [] S := by
  unfold wp_X12_type_50 at h1
  refine x_aload_n C 0 dX12_type_50 rfl rfl ?_
  refine x_iload C 3 dX12_type_51 rfl ?_
  refine x_if_ne (tgt := 60) C dX12_type_53 (by decide) (fun z9 => ?_) (fun z9 => ?_)
  · have h1 := h1.1 z9
    refine x_aload_n C 0 dX12_type_60 rfl rfl ?_
    obtain ⟨ht39, h1⟩ := h1
    refine x_getf_r (n := h) C rfl ht39 fd_159 (by decide) dX12_type_61 ?_
    refine x_sipush (v := (nI 154)) C dX12_type_64 (by decide) ?_
    obtain ⟨n40, hr41, h1⟩ := h1
    obtain ⟨z43, ht42, h1⟩ := h1
    obtain ⟨hi44, h1⟩ := h1
    refine x_iald (n := n40) C hr41 ht42 hi44 dX12_type_67 ?_
    refine x_iload_n C 2 dX12_type_68 rfl rfl ?_
    refine x_iadd C dX12_type_69 ?_
    refine x_bipush (v := (nI 40)) C dX12_type_70 (by decide) ?_
    refine x_icmp_le (tgt := 79) C dX12_type_72 (by decide) (fun z9 => ?_) (fun z9 => ?_)
    · have h1 := h1.1 z9
      refine x_iconst (v := (0 : Int32)) C dX12_type_79 (by decide) ?_
      refine x_keep (L' := [(0, xm_r (some h)), (1, xm_l x1), (3, xm_i x3)]) C [0, 1, 2] rfl ?_
      exact kp_X12_type_80 h x1 x3 (0 : Int32) (some h) S C N hg  h1
    · have h1 := h1.2 z9
      refine x_iconst (v := (nI 2)) C dX12_type_75 (by decide) ?_
      refine x_goto (tgt := 80) C dX12_type_76 (by decide) ?_
      refine x_keep (L' := [(0, xm_r (some h)), (1, xm_l x1), (3, xm_i x3)]) C [0, 1, 2] rfl ?_
      exact kp_X12_type_80 h x1 x3 (nI 2) (some h) S C N hg  h1
  · have h1 := h1.2 z9
    refine x_iconst (v := (1 : Int32)) C dX12_type_56 (by decide) ?_
    refine x_goto (tgt := 80) C dX12_type_57 (by decide) ?_
    refine x_keep (L' := [(0, xm_r (some h)), (1, xm_l x1), (3, xm_i x3)]) C [0, 1, 2] rfl ?_
    exact kp_X12_type_80 h x1 x3 (1 : Int32) (some h) S C N hg  h1
def wp_X12_type_12B (h : Nat) (x1 : Int64) (x3 : Int32) (x4 : Int32) (x5 : Int32) (S : xm_S) (g : Int32 → xm_S → Prop) (Z12 : Int64 → Int32 → Int32 → Int32 → xm_S → Prop) : Prop :=
  (x3 ≤ x5 → wp_X12_type_50 h x1 x3 x4 S g) ∧ (¬ x3 ≤ x5 → (x4 = 0 → wp_X12_type_50 h x1 x3 x4 S g) ∧ (¬ x4 = 0 → wp_X12_in (((((x1.toUInt64 >>> (((nI 8) * x5).toInt64.toUInt64 &&& Int64.toUInt64 63)).toInt64) &&& (255 : Int64))).toInt32) (nI 33) (nI 126) S (fun r46 S45 => ∀ y47, y47 = (x5 + (1 : Int32)) → Z12 x1 x3 r46 y47 S45)))
def wp_X12_type_12 (h : Nat) (x1 : Int64) (x3 : Int32) (x4 : Int32) (x5 : Int32) (S : xm_S) (g : Int32 → xm_S → Prop) : Prop :=
  ∀ Z12 : Int64 → Int32 → Int32 → Int32 → xm_S → Prop, (∀ x1 x3 x4 x5 S, wp_X12_type_12B h x1 x3 x4 x5 S g Z12 → Z12 x1 x3 x4 x5 S) → Z12 x1 x3 x4 x5 S
set_option maxRecDepth 100000 in
set_option maxHeartbeats 4000000 in
theorem kp_X12_type_12B {K : xm_K} (h : Nat) (x1 : Int64) (x3 : Int32) (x4 : Int32) (x5 : Int32) (S : xm_S) {g : Int32 → xm_S → Prop} {Z12 : Int64 → Int32 → Int32 → Int32 → xm_S → Prop} (C : xm_Cx K cX12_type RX12 6 (some (FieldType.int)) rm_X12_type) (N : xm_Nx K) (hg : ∀ v S, g v S → xm_q K (some (xm_i v)) S) (hZ12 : ∀ x1 x3 x4 x5 S, Z12 x1 x3 x4 x5 S → xm_W K 0 0 12 [(0, xm_r (some h)), (1, xm_l x1), (3, xm_i x3), (4, xm_i x4), (5, xm_i x5)] [] S) (h1 : wp_X12_type_12B h x1 x3 x4 x5 S g Z12) : xm_W K 0 0 12 [(0, xm_r (some h)), (1, xm_l x1), (3, xm_i x3), (4, xm_i x4), (5, xm_i x5)] [] S := by
  unfold wp_X12_type_12B at h1
  refine x_iload C 4 dX12_type_12 rfl ?_
  refine x_iload_n C 2 dX12_type_14 rfl rfl ?_
  refine x_icmp_ge (tgt := 50) C dX12_type_15 (by decide) (fun z9 => ?_) (fun z9 => ?_)
  · have h1 := h1.1 z9
    refine x_keep (L' := [(0, xm_r (some h)), (1, xm_l x1), (3, xm_i x3), (4, xm_i x4)]) C [0, 1, 2, 3] rfl ?_
    exact kp_X12_type_50 h x1 x3 x4 S C N hg  h1
  · have h1 := h1.2 z9
    refine x_iload C 3 dX12_type_18 rfl ?_
    refine x_if_eq (tgt := 50) C dX12_type_20 (by decide) (fun z9 => ?_) (fun z9 => ?_)
    · have h1 := h1.1 z9
      refine x_keep (L' := [(0, xm_r (some h)), (1, xm_l x1), (3, xm_i x3), (4, xm_i x4)]) C [0, 1, 2, 3] rfl ?_
      exact kp_X12_type_50 h x1 x3 x4 S C N hg  h1
    · have h1 := h1.2 z9
      refine x_lload_n C 1 dX12_type_23 rfl rfl ?_
      refine x_bipush (v := (nI 8)) C dX12_type_24 (by decide) ?_
      refine x_iload C 4 dX12_type_26 rfl ?_
      refine x_imul C dX12_type_28 ?_
      refine x_lushr C dX12_type_29 ?_
      refine x_ldc2 (v := (255 : Int64)) C gw_786 dX12_type_30 ?_
      refine x_land C dX12_type_33 ?_
      refine x_l2i C dX12_type_34 ?_
      refine x_bipush (v := (nI 33)) C dX12_type_35 (by decide) ?_
      refine x_bipush (v := (nI 126)) C dX12_type_37 (by decide) ?_
      refine x_callS (rm' := rm_X12_in) C (kp_X12_in_met h1) lk_87 gw_533 rfl (Nat.le_of_ble_eq_true rfl) ⟨Nat.le_of_ble_eq_true rfl, Nat.le_of_ble_eq_true rfl, (Nat.le_of_ble_eq_true rfl), (Nat.le_of_ble_eq_true rfl)⟩ dX12_type_39 xm_kx (xm_ki (fun r46 S45 h1 => ?_))
      refine x_istore (L' := [(4, xm_i r46), (0, xm_r (some h)), (1, xm_l x1), (3, xm_i x3), (5, xm_i x5)]) C dX12_type_42 (by decide) rfl ?_
      obtain ⟨y47, e48⟩ : ∃ y47, y47 = (x5 + (1 : Int32)) := ⟨_, rfl⟩
      have h1 := h1 y47 e48
      refine x_iinc (v := y47) (L' := [(5, xm_i y47), (4, xm_i r46), (0, xm_r (some h)), (1, xm_l x1), (3, xm_i x3)]) C 4 dX12_type_44 rfl (by rw [e48]; rfl) (by decide) rfl ?_
      refine x_goto (tgt := 12) C dX12_type_47 (by decide) ?_
      refine x_keep (L' := [(0, xm_r (some h)), (1, xm_l x1), (3, xm_i x3), (4, xm_i r46), (5, xm_i y47)]) C [2, 3, 4, 1, 0] rfl ?_
      exact hZ12 x1 x3 r46 y47 S45 h1
theorem kp_X12_type_12 {K : xm_K} (h : Nat) (x1 : Int64) (x3 : Int32) (x4 : Int32) (x5 : Int32) (S : xm_S) {g : Int32 → xm_S → Prop} (C : xm_Cx K cX12_type RX12 6 (some (FieldType.int)) rm_X12_type) (N : xm_Nx K) (hg : ∀ v S, g v S → xm_q K (some (xm_i v)) S)  (h1 : wp_X12_type_12 h x1 x3 x4 x5 S g) : xm_W K 0 0 12 [(0, xm_r (some h)), (1, xm_l x1), (3, xm_i x3), (4, xm_i x4), (5, xm_i x5)] [] S :=
  h1 (fun x1 x3 x4 x5 S => xm_W K 0 0 12 [(0, xm_r (some h)), (1, xm_l x1), (3, xm_i x3), (4, xm_i x4), (5, xm_i x5)] [] S) (fun x1 x3 x4 x5 S hb => kp_X12_type_12B h x1 x3 x4 x5 S C N hg (fun x1 x3 x4 x5 S hz => hz) hb)
def wp_X12_type (h : Nat) (x1 : Int64) (x3 : Int32) (S : xm_S) (g : Int32 → xm_S → Prop) : Prop :=
  wp_X12_in x3 (1 : Int32) (nI 8) S (fun r50 S49 => wp_X12_type_12 h x1 x3 r50 (0 : Int32) S49 g)
set_option maxRecDepth 100000 in
set_option maxHeartbeats 4000000 in
theorem kp_X12_type {K : xm_K} (h : Nat) (x1 : Int64) (x3 : Int32) (S : xm_S) {g : Int32 → xm_S → Prop} (C : xm_Cx K cX12_type RX12 6 (some (FieldType.int)) rm_X12_type) (N : xm_Nx K) (hg : ∀ v S, g v S → xm_q K (some (xm_i v)) S)  (h1 : wp_X12_type h x1 x3 S g) : xm_W K 0 0 0 [(0, xm_r (some h)), (1, xm_l x1), (3, xm_i x3)] [] S := by
  unfold wp_X12_type at h1
  refine x_iload_n C 2 dX12_type_0 rfl rfl ?_
  refine x_iconst (v := (1 : Int32)) C dX12_type_1 (by decide) ?_
  refine x_bipush (v := (nI 8)) C dX12_type_2 (by decide) ?_
  refine x_callS (rm' := rm_X12_in) C (kp_X12_in_met h1) lk_87 gw_533 rfl (Nat.le_of_ble_eq_true rfl) ⟨Nat.le_of_ble_eq_true rfl, Nat.le_of_ble_eq_true rfl, (Nat.le_of_ble_eq_true rfl), (Nat.le_of_ble_eq_true rfl)⟩ dX12_type_4 xm_kx (xm_ki (fun r50 S49 h1 => ?_))
  refine x_istore (L' := [(4, xm_i r50), (0, xm_r (some h)), (1, xm_l x1), (3, xm_i x3)]) C dX12_type_7 (by decide) rfl ?_
  refine x_iconst (v := (0 : Int32)) C dX12_type_9 (by decide) ?_
  refine x_istore (L' := [(5, xm_i (0 : Int32)), (4, xm_i r50), (0, xm_r (some h)), (1, xm_l x1), (3, xm_i x3)]) C dX12_type_10 (by decide) rfl ?_
  refine x_keep (L' := [(0, xm_r (some h)), (1, xm_l x1), (3, xm_i x3), (4, xm_i r50), (5, xm_i (0 : Int32))]) C [2, 3, 4, 1, 0] rfl ?_
  exact kp_X12_type_12 h x1 x3 r50 (0 : Int32) S49 C N hg  h1
theorem kp_X12_type_met {h : Nat} {x1 : Int64} {x3 : Int32} {S : xm_S} {g : Int32 → xm_S → Prop}  (h1 : wp_X12_type h x1 x3 S g) : xm_Met yX12_type cX12_type 6 (some (FieldType.int)) rm_X12_type [xm_r (some h), xm_l x1, xm_i x3] S (xm_qi g) xm_nox :=
  xm_ofW RX12 (by decide +kernel) rfl (Nat.le_of_ble_eq_true rfl) (fun K C N hq hx hi => kp_X12_type h x1 x3 S C N (fun v S h => by rw [hq]; exact ⟨v, rfl, h⟩)  h1)
def rm_X12_unwish : Room := { frames := 1, cells := 0, slots := 0, locals := 20 }
theorem dX12_unwish_0 : decode cX12_unwish 0 = .ok (.aload_n 0, 1) := by decide +kernel
theorem dX12_unwish_1 : decode cX12_unwish 1 = .ok (.iconst 0, 1) := by decide +kernel
theorem dX12_unwish_2 : decode cX12_unwish 2 = .ok (.putfield 169, 3) := by decide +kernel
theorem dX12_unwish_5 : decode cX12_unwish 5 = .ok (.aload_n 0, 1) := by decide +kernel
theorem dX12_unwish_6 : decode cX12_unwish 6 = .ok (.getfield 257, 3) := by decide +kernel
theorem dX12_unwish_9 : decode cX12_unwish 9 = .ok (.istore_n 1, 1) := by decide +kernel
theorem dX12_unwish_10 : decode cX12_unwish 10 = .ok (.aload_n 0, 1) := by decide +kernel
theorem dX12_unwish_11 : decode cX12_unwish 11 = .ok (.iconst 0, 1) := by decide +kernel
theorem dX12_unwish_12 : decode cX12_unwish 12 = .ok (.putfield 257, 3) := by decide +kernel
theorem dX12_unwish_15 : decode cX12_unwish 15 = .ok (.iload_n 1, 1) := by decide +kernel
theorem dX12_unwish_16 : decode cX12_unwish 16 = .ok (.ireturn, 1) := by decide +kernel
def wp_X12_unwish (h : Nat)  (S : xm_S) (g : Int32 → xm_S → Prop) : Prop :=
  st_t S h = some (12, 0) ∧ ∀ S2, S2 = st_pi S h 0 (0 : Int32) → ∀ S4, S4 = st_pi S2 h 18 (0 : Int32) → g (st_i S2 h 18) S4
set_option maxRecDepth 100000 in
set_option maxHeartbeats 4000000 in
theorem kp_X12_unwish {K : xm_K} (h : Nat)  (S : xm_S) {g : Int32 → xm_S → Prop} (C : xm_Cx K cX12_unwish RX12 2 (some (FieldType.int)) rm_X12_unwish) (N : xm_Nx K) (hg : ∀ v S, g v S → xm_q K (some (xm_i v)) S)  (h1 : wp_X12_unwish h  S g) : xm_W K 0 0 0 [(0, xm_r (some h))] [] S := by
  unfold wp_X12_unwish at h1
  refine x_aload_n C 0 dX12_unwish_0 rfl rfl ?_
  refine x_iconst (v := (0 : Int32)) C dX12_unwish_1 (by decide) ?_
  obtain ⟨ht1, h1⟩ := h1
  refine x_putf_i (n := h) C rfl ht1 fd_165 xc_12 (by decide) rfl ⟨rfl, rfl⟩ dX12_unwish_2 ?_
  refine x_topS (fun S2 e3 => ?_)
  have h1 := h1 S2 e3
  refine x_aload_n C 0 dX12_unwish_5 rfl rfl ?_
  refine x_getf_i (n := h) C rfl (tk_p e3 ht1) fd_187 (by decide) dX12_unwish_6 ?_
  refine x_istore_n (L' := [(1, xm_i (st_i S2 h 18)), (0, xm_r (some h))]) C dX12_unwish_9 rfl (by decide) rfl ?_
  refine x_aload_n C 1 dX12_unwish_10 rfl rfl ?_
  refine x_iconst (v := (0 : Int32)) C dX12_unwish_11 (by decide) ?_
  refine x_putf_i (n := h) C rfl (tk_p e3 ht1) fd_187 xc_12 (by decide) rfl ⟨rfl, rfl⟩ dX12_unwish_12 ?_
  refine x_topS (fun S4 e5 => ?_)
  have h1 := h1 S4 e5
  refine x_iload_n C 0 dX12_unwish_15 rfl rfl ?_
  exact x_iret C (Nat.le_of_ble_eq_true rfl) (Nat.le_of_ble_eq_true rfl) rfl dX12_unwish_16 (hg _ _ h1)
theorem kp_X12_unwish_met {h : Nat}  {S : xm_S} {g : Int32 → xm_S → Prop}  (h1 : wp_X12_unwish h  S g) : xm_Met yX12_unwish cX12_unwish 2 (some (FieldType.int)) rm_X12_unwish [xm_r (some h)] S (xm_qi g) xm_nox :=
  xm_ofW RX12 (by decide +kernel) rfl (Nat.le_of_ble_eq_true rfl) (fun K C N hq hx hi => kp_X12_unwish h  S C N (fun v S h => by rw [hq]; exact ⟨v, rfl, h⟩)  h1)
def rm_X12_version : Room := { frames := 3, cells := 0, slots := 0, locals := 62 }
theorem dX12_version_0 : decode cX12_version 0 = .ok (.iload_n 2, 1) := by decide +kernel
theorem dX12_version_1 : decode cX12_version 1 = .ok (.iconst 0, 1) := by decide +kernel
theorem dX12_version_2 : decode cX12_version 2 = .ok (.ldc 236, 2) := by decide +kernel
theorem dX12_version_4 : decode cX12_version 4 = .ok (.invokestatic 172, 3) := by decide +kernel
theorem dX12_version_7 : decode cX12_version 7 = .ok (.ifCond .eq 39, 3) := by decide +kernel
theorem dX12_version_10 : decode cX12_version 10 = .ok (.iload_n 3, 1) := by decide +kernel
theorem dX12_version_11 : decode cX12_version 11 = .ok (.iconst 0, 1) := by decide +kernel
theorem dX12_version_12 : decode cX12_version 12 = .ok (.bipush 15, 2) := by decide +kernel
theorem dX12_version_14 : decode cX12_version 14 = .ok (.invokestatic 172, 3) := by decide +kernel
theorem dX12_version_17 : decode cX12_version 17 = .ok (.ifCond .eq 29, 3) := by decide +kernel
theorem dX12_version_20 : decode cX12_version 20 = .ok (.iload 4, 2) := by decide +kernel
theorem dX12_version_22 : decode cX12_version 22 = .ok (.iconst 0, 1) := by decide +kernel
theorem dX12_version_23 : decode cX12_version 23 = .ok (.iconst 3, 1) := by decide +kernel
theorem dX12_version_24 : decode cX12_version 24 = .ok (.invokestatic 172, 3) := by decide +kernel
theorem dX12_version_27 : decode cX12_version 27 = .ok (.ifCond .eq 19, 3) := by decide +kernel
theorem dX12_version_30 : decode cX12_version 30 = .ok (.iload 5, 2) := by decide +kernel
theorem dX12_version_32 : decode cX12_version 32 = .ok (.iconst 0, 1) := by decide +kernel
theorem dX12_version_33 : decode cX12_version 33 = .ok (.sipush 999, 3) := by decide +kernel
theorem dX12_version_36 : decode cX12_version 36 = .ok (.invokestatic 172, 3) := by decide +kernel
theorem dX12_version_39 : decode cX12_version 39 = .ok (.ifCond .eq 7, 3) := by decide +kernel
theorem dX12_version_42 : decode cX12_version 42 = .ok (.iconst 1, 1) := by decide +kernel
theorem dX12_version_43 : decode cX12_version 43 = .ok (.goto 4, 3) := by decide +kernel
theorem dX12_version_46 : decode cX12_version 46 = .ok (.iconst 0, 1) := by decide +kernel
theorem dX12_version_47 : decode cX12_version 47 = .ok (.istore 6, 2) := by decide +kernel
theorem dX12_version_49 : decode cX12_version 49 = .ok (.iload_n 1, 1) := by decide +kernel
theorem dX12_version_50 : decode cX12_version 50 = .ok (.invokestatic 176, 3) := by decide +kernel
theorem dX12_version_53 : decode cX12_version 53 = .ok (.istore 7, 2) := by decide +kernel
theorem dX12_version_55 : decode cX12_version 55 = .ok (.aload_n 0, 1) := by decide +kernel
theorem dX12_version_56 : decode cX12_version 56 = .ok (.iload 7, 2) := by decide +kernel
theorem dX12_version_58 : decode cX12_version 58 = .ok (.ifCond .ne 7, 3) := by decide +kernel
theorem dX12_version_61 : decode cX12_version 61 = .ok (.iconst 1, 1) := by decide +kernel
theorem dX12_version_62 : decode cX12_version 62 = .ok (.goto 27, 3) := by decide +kernel
theorem dX12_version_65 : decode cX12_version 65 = .ok (.iload 6, 2) := by decide +kernel
theorem dX12_version_67 : decode cX12_version 67 = .ok (.ifCond .ne 7, 3) := by decide +kernel
theorem dX12_version_70 : decode cX12_version 70 = .ok (.iconst 2, 1) := by decide +kernel
theorem dX12_version_71 : decode cX12_version 71 = .ok (.goto 18, 3) := by decide +kernel
theorem dX12_version_74 : decode cX12_version 74 = .ok (.aload_n 0, 1) := by decide +kernel
theorem dX12_version_75 : decode cX12_version 75 = .ok (.getfield 13, 3) := by decide +kernel
theorem dX12_version_78 : decode cX12_version 78 = .ok (.iload_n 1, 1) := by decide +kernel
theorem dX12_version_79 : decode cX12_version 79 = .ok (.iaload, 1) := by decide +kernel
theorem dX12_version_80 : decode cX12_version 80 = .ok (.iconst 4, 1) := by decide +kernel
theorem dX12_version_81 : decode cX12_version 81 = .ok (.if_icmp .ne 7, 3) := by decide +kernel
theorem dX12_version_84 : decode cX12_version 84 = .ok (.iconst 3, 1) := by decide +kernel
theorem dX12_version_85 : decode cX12_version 85 = .ok (.goto 4, 3) := by decide +kernel
theorem dX12_version_88 : decode cX12_version 88 = .ok (.iconst 0, 1) := by decide +kernel
theorem dX12_version_89 : decode cX12_version 89 = .ok (.invokevirtual 182, 3) := by decide +kernel
theorem dX12_version_92 : decode cX12_version 92 = .ok (.ifCond .ne 5, 3) := by decide +kernel
theorem dX12_version_95 : decode cX12_version 95 = .ok (.iconst 0, 1) := by decide +kernel
theorem dX12_version_96 : decode cX12_version 96 = .ok (.ireturn, 1) := by decide +kernel
theorem dX12_version_97 : decode cX12_version 97 = .ok (.iconst 4, 1) := by decide +kernel
theorem dX12_version_98 : decode cX12_version 98 = .ok (.iload_n 1, 1) := by decide +kernel
theorem dX12_version_99 : decode cX12_version 99 = .ok (.imul, 1) := by decide +kernel
theorem dX12_version_100 : decode cX12_version 100 = .ok (.aload_n 0, 1) := by decide +kernel
theorem dX12_version_101 : decode cX12_version 101 = .ok (.getfield 13, 3) := by decide +kernel
theorem dX12_version_104 : decode cX12_version 104 = .ok (.iload_n 1, 1) := by decide +kernel
theorem dX12_version_105 : decode cX12_version 105 = .ok (.iaload, 1) := by decide +kernel
theorem dX12_version_106 : decode cX12_version 106 = .ok (.iadd, 1) := by decide +kernel
theorem dX12_version_107 : decode cX12_version 107 = .ok (.istore 8, 2) := by decide +kernel
theorem dX12_version_109 : decode cX12_version 109 = .ok (.aload_n 0, 1) := by decide +kernel
theorem dX12_version_110 : decode cX12_version 110 = .ok (.getfield 16, 3) := by decide +kernel
theorem dX12_version_113 : decode cX12_version 113 = .ok (.iload 8, 2) := by decide +kernel
theorem dX12_version_115 : decode cX12_version 115 = .ok (.iload_n 2, 1) := by decide +kernel
theorem dX12_version_116 : decode cX12_version 116 = .ok (.iastore, 1) := by decide +kernel
theorem dX12_version_117 : decode cX12_version 117 = .ok (.aload_n 0, 1) := by decide +kernel
theorem dX12_version_118 : decode cX12_version 118 = .ok (.getfield 19, 3) := by decide +kernel
theorem dX12_version_121 : decode cX12_version 121 = .ok (.iload 8, 2) := by decide +kernel
theorem dX12_version_123 : decode cX12_version 123 = .ok (.iload_n 3, 1) := by decide +kernel
theorem dX12_version_124 : decode cX12_version 124 = .ok (.iastore, 1) := by decide +kernel
theorem dX12_version_125 : decode cX12_version 125 = .ok (.aload_n 0, 1) := by decide +kernel
theorem dX12_version_126 : decode cX12_version 126 = .ok (.getfield 22, 3) := by decide +kernel
theorem dX12_version_129 : decode cX12_version 129 = .ok (.iload 8, 2) := by decide +kernel
theorem dX12_version_131 : decode cX12_version 131 = .ok (.iload 4, 2) := by decide +kernel
theorem dX12_version_133 : decode cX12_version 133 = .ok (.iastore, 1) := by decide +kernel
theorem dX12_version_134 : decode cX12_version 134 = .ok (.aload_n 0, 1) := by decide +kernel
theorem dX12_version_135 : decode cX12_version 135 = .ok (.getfield 25, 3) := by decide +kernel
theorem dX12_version_138 : decode cX12_version 138 = .ok (.iload 8, 2) := by decide +kernel
theorem dX12_version_140 : decode cX12_version 140 = .ok (.iload 5, 2) := by decide +kernel
theorem dX12_version_142 : decode cX12_version 142 = .ok (.iastore, 1) := by decide +kernel
theorem dX12_version_143 : decode cX12_version 143 = .ok (.aload_n 0, 1) := by decide +kernel
theorem dX12_version_144 : decode cX12_version 144 = .ok (.getfield 13, 3) := by decide +kernel
theorem dX12_version_147 : decode cX12_version 147 = .ok (.iload_n 1, 1) := by decide +kernel
theorem dX12_version_148 : decode cX12_version 148 = .ok (.dup2, 1) := by decide +kernel
theorem dX12_version_149 : decode cX12_version 149 = .ok (.iaload, 1) := by decide +kernel
theorem dX12_version_150 : decode cX12_version 150 = .ok (.iconst 1, 1) := by decide +kernel
theorem dX12_version_151 : decode cX12_version 151 = .ok (.iadd, 1) := by decide +kernel
theorem dX12_version_152 : decode cX12_version 152 = .ok (.iastore, 1) := by decide +kernel
theorem dX12_version_153 : decode cX12_version 153 = .ok (.aload_n 0, 1) := by decide +kernel
theorem dX12_version_154 : decode cX12_version 154 = .ok (.getfield 13, 3) := by decide +kernel
theorem dX12_version_157 : decode cX12_version 157 = .ok (.iload_n 1, 1) := by decide +kernel
theorem dX12_version_158 : decode cX12_version 158 = .ok (.iaload, 1) := by decide +kernel
theorem dX12_version_159 : decode cX12_version 159 = .ok (.iconst 1, 1) := by decide +kernel
theorem dX12_version_160 : decode cX12_version 160 = .ok (.isub, 1) := by decide +kernel
theorem dX12_version_161 : decode cX12_version 161 = .ok (.ireturn, 1) := by decide +kernel
def wp_X12_version_89 (h : Nat) (x1 : Int32) (x2 : Int32) (x3 : Int32) (x4 : Int32) (x5 : Int32) (s0 : Int32) (s1 : Option Nat) (S : xm_S) (g : Int32 → xm_S → Prop) : Prop :=
  ∃ n1, s1 = some n1 ∧ st_t S n1 = some (12, 0) ∧ wp_X12_may n1 s0 S (fun r5 S4 => (¬ r5 = 0 → st_t S4 h = some (12, 0) ∧ ∃ n7, (st_r S4 h 2) = some n7 ∧ ∃ z10, st_t S4 n7 = some (100, z10) ∧ vp_in x1 z10 ∧ ∀ y12, y12 = (((nI 4) * x1) + (st_i S4 n7 (x1).toNatClampNeg)) → ∃ n14, (st_r S4 h 3) = some n14 ∧ ∃ z17, st_t S4 n14 = some (100, z17) ∧ vp_in y12 z17 ∧ ∀ S19, S19 = st_pi S4 n14 (y12).toNatClampNeg x2 → ∃ n21, (st_r S19 h 4) = some n21 ∧ ∃ z24, st_t S19 n21 = some (100, z24) ∧ vp_in y12 z24 ∧ ∀ S26, S26 = st_pi S19 n21 (y12).toNatClampNeg x3 → ∃ n28, (st_r S26 h 5) = some n28 ∧ ∃ z31, st_t S26 n28 = some (100, z31) ∧ vp_in y12 z31 ∧ ∀ S33, S33 = st_pi S26 n28 (y12).toNatClampNeg x4 → ∃ n35, (st_r S33 h 6) = some n35 ∧ ∃ z38, st_t S33 n35 = some (100, z38) ∧ vp_in y12 z38 ∧ ∀ S40, S40 = st_pi S33 n35 (y12).toNatClampNeg x5 → ∃ n42, (st_r S40 h 2) = some n42 ∧ ∃ z45, st_t S40 n42 = some (100, z45) ∧ vp_in x1 z45 ∧ ∃ n47, (st_r S40 h 2) = some n47 ∧ ∃ z50, st_t S40 n47 = some (100, z50) ∧ vp_in x1 z50 ∧ ∀ S52, S52 = st_pi S40 n47 (x1).toNatClampNeg ((st_i S40 n42 (x1).toNatClampNeg) + (1 : Int32)) → ∃ n54, (st_r S52 h 2) = some n54 ∧ ∃ z57, st_t S52 n54 = some (100, z57) ∧ vp_in x1 z57 ∧ g ((st_i S52 n54 (x1).toNatClampNeg) - (1 : Int32)) S52) ∧ (r5 = 0 → g (0 : Int32) S4))
set_option maxRecDepth 100000 in
set_option maxHeartbeats 4000000 in
theorem kp_X12_version_89 {K : xm_K} (h : Nat) (x1 : Int32) (x2 : Int32) (x3 : Int32) (x4 : Int32) (x5 : Int32) (s0 : Int32) (s1 : Option Nat) (S : xm_S) {g : Int32 → xm_S → Prop} (C : xm_Cx K cX12_version RX12 9 (some (FieldType.int)) rm_X12_version) (N : xm_Nx K) (hg : ∀ v S, g v S → xm_q K (some (xm_i v)) S)  (h1 : wp_X12_version_89 h x1 x2 x3 x4 x5 s0 s1 S g) : xm_W K 0 0 89 [(0, xm_r (some h)), (1, xm_i x1), (2, xm_i x2), (3, xm_i x3), (4, xm_i x4), (5, xm_i x5)] [xm_i s0, xm_r s1] S := by
  unfold wp_X12_version_89 at h1
  obtain ⟨n1, hr2, h1⟩ := h1
  obtain ⟨ht3, h1⟩ := h1
  refine x_callV (rm' := rm_X12_may) (n := n1) C (kp_X12_may_met h1) lk_95 gw_572 gw_573 xv_12 rfl hr2 ht3 rfl (Nat.le_of_ble_eq_true rfl) ⟨Nat.le_of_ble_eq_true rfl, Nat.le_of_ble_eq_true rfl, (Nat.le_of_ble_eq_true rfl), (Nat.le_of_ble_eq_true rfl)⟩ dX12_version_89 xm_kx (xm_ki (fun r5 S4 h1 => ?_))
  refine x_if_ne (tgt := 97) C dX12_version_92 (by decide) (fun z9 => ?_) (fun z9 => ?_)
  · have h1 := h1.1 z9
    refine x_iconst (v := (nI 4)) C dX12_version_97 (by decide) ?_
    refine x_iload_n C 1 dX12_version_98 rfl rfl ?_
    refine x_imul C dX12_version_99 ?_
    refine x_aload_n C 0 dX12_version_100 rfl rfl ?_
    obtain ⟨ht6, h1⟩ := h1
    refine x_getf_r (n := h) C rfl ht6 fd_175 (by decide) dX12_version_101 ?_
    refine x_iload_n C 1 dX12_version_104 rfl rfl ?_
    obtain ⟨n7, hr8, h1⟩ := h1
    obtain ⟨z10, ht9, h1⟩ := h1
    obtain ⟨hi11, h1⟩ := h1
    refine x_iald (n := n7) C hr8 ht9 hi11 dX12_version_105 ?_
    refine x_iadd C dX12_version_106 ?_
    refine x_topi (fun y12 e13 => ?_)
    have h1 := h1 y12 e13
    refine x_istore (L' := [(8, xm_i y12), (0, xm_r (some h)), (1, xm_i x1), (2, xm_i x2), (3, xm_i x3), (4, xm_i x4), (5, xm_i x5)]) C dX12_version_107 (by decide) rfl ?_
    refine x_aload_n C 1 dX12_version_109 rfl rfl ?_
    refine x_getf_r (n := h) C rfl ht6 fd_171 (by decide) dX12_version_110 ?_
    refine x_iload C 0 dX12_version_113 rfl ?_
    refine x_iload_n C 3 dX12_version_115 rfl rfl ?_
    obtain ⟨n14, hr15, h1⟩ := h1
    obtain ⟨z17, ht16, h1⟩ := h1
    obtain ⟨hi18, h1⟩ := h1
    refine x_iast (n := n14) C hr15 ht16 hi18 dX12_version_116 ?_
    refine x_topS (fun S19 e20 => ?_)
    have h1 := h1 S19 e20
    refine x_aload_n C 1 dX12_version_117 rfl rfl ?_
    refine x_getf_r (n := h) C rfl (tk_p e20 ht6) fd_183 (by decide) dX12_version_118 ?_
    refine x_iload C 0 dX12_version_121 rfl ?_
    refine x_iload_n C 4 dX12_version_123 rfl rfl ?_
    obtain ⟨n21, hr22, h1⟩ := h1
    obtain ⟨z24, ht23, h1⟩ := h1
    obtain ⟨hi25, h1⟩ := h1
    refine x_iast (n := n21) C hr22 ht23 hi25 dX12_version_124 ?_
    refine x_topS (fun S26 e27 => ?_)
    have h1 := h1 S26 e27
    refine x_aload_n C 1 dX12_version_125 rfl rfl ?_
    refine x_getf_r (n := h) C rfl (tk_p e27 (tk_p e20 ht6)) fd_191 (by decide) dX12_version_126 ?_
    refine x_iload C 0 dX12_version_129 rfl ?_
    refine x_iload C 5 dX12_version_131 rfl ?_
    obtain ⟨n28, hr29, h1⟩ := h1
    obtain ⟨z31, ht30, h1⟩ := h1
    obtain ⟨hi32, h1⟩ := h1
    refine x_iast (n := n28) C hr29 ht30 hi32 dX12_version_133 ?_
    refine x_topS (fun S33 e34 => ?_)
    have h1 := h1 S33 e34
    refine x_aload_n C 1 dX12_version_134 rfl rfl ?_
    refine x_getf_r (n := h) C rfl (tk_p e34 (tk_p e27 (tk_p e20 ht6))) fd_205 (by decide) dX12_version_135 ?_
    refine x_iload C 0 dX12_version_138 rfl ?_
    refine x_iload C 6 dX12_version_140 rfl ?_
    obtain ⟨n35, hr36, h1⟩ := h1
    obtain ⟨z38, ht37, h1⟩ := h1
    obtain ⟨hi39, h1⟩ := h1
    refine x_iast (n := n35) C hr36 ht37 hi39 dX12_version_142 ?_
    refine x_topS (fun S40 e41 => ?_)
    have h1 := h1 S40 e41
    refine x_aload_n C 1 dX12_version_143 rfl rfl ?_
    refine x_getf_r (n := h) C rfl (tk_p e41 (tk_p e34 (tk_p e27 (tk_p e20 ht6)))) fd_175 (by decide) dX12_version_144 ?_
    refine x_iload_n C 2 dX12_version_147 rfl rfl ?_
    refine x_dup2_ir C dX12_version_148 ?_
    obtain ⟨n42, hr43, h1⟩ := h1
    obtain ⟨z45, ht44, h1⟩ := h1
    obtain ⟨hi46, h1⟩ := h1
    refine x_iald (n := n42) C hr43 ht44 hi46 dX12_version_149 ?_
    refine x_iconst (v := (1 : Int32)) C dX12_version_150 (by decide) ?_
    refine x_iadd C dX12_version_151 ?_
    obtain ⟨n47, hr48, h1⟩ := h1
    obtain ⟨z50, ht49, h1⟩ := h1
    obtain ⟨hi51, h1⟩ := h1
    refine x_iast (n := n47) C hr48 ht49 hi51 dX12_version_152 ?_
    refine x_topS (fun S52 e53 => ?_)
    have h1 := h1 S52 e53
    refine x_aload_n C 1 dX12_version_153 rfl rfl ?_
    refine x_getf_r (n := h) C rfl (tk_p e53 (tk_p e41 (tk_p e34 (tk_p e27 (tk_p e20 ht6))))) fd_175 (by decide) dX12_version_154 ?_
    refine x_iload_n C 2 dX12_version_157 rfl rfl ?_
    obtain ⟨n54, hr55, h1⟩ := h1
    obtain ⟨z57, ht56, h1⟩ := h1
    obtain ⟨hi58, h1⟩ := h1
    refine x_iald (n := n54) C hr55 ht56 hi58 dX12_version_158 ?_
    refine x_iconst (v := (1 : Int32)) C dX12_version_159 (by decide) ?_
    refine x_isub C dX12_version_160 ?_
    exact x_iret C (Nat.le_of_ble_eq_true rfl) (Nat.le_of_ble_eq_true rfl) rfl dX12_version_161 (hg _ _ h1)
  · have h1 := h1.2 z9
    refine x_iconst (v := (0 : Int32)) C dX12_version_95 (by decide) ?_
    exact x_iret C (Nat.le_of_ble_eq_true rfl) (Nat.le_of_ble_eq_true rfl) rfl dX12_version_96 (hg _ _ h1)
def wp_X12_version_47 (h : Nat) (x1 : Int32) (x2 : Int32) (x3 : Int32) (x4 : Int32) (x5 : Int32) (s0 : Int32) (S : xm_S) (g : Int32 → xm_S → Prop) : Prop :=
  wp_X12_isPack x1 S (fun r60 S59 => (¬ r60 = 0 → (¬ s0 = 0 → st_t S59 h = some (12, 0) ∧ ∃ n62, (st_r S59 h 2) = some n62 ∧ ∃ z65, st_t S59 n62 = some (100, z65) ∧ vp_in x1 z65 ∧ (¬ (st_i S59 n62 (x1).toNatClampNeg) = (nI 4) → wp_X12_version_89 h x1 x2 x3 x4 x5 (0 : Int32) (some h) S59 g) ∧ ((st_i S59 n62 (x1).toNatClampNeg) = (nI 4) → wp_X12_version_89 h x1 x2 x3 x4 x5 (nI 3) (some h) S59 g)) ∧ (s0 = 0 → wp_X12_version_89 h x1 x2 x3 x4 x5 (nI 2) (some h) S59 g)) ∧ (r60 = 0 → wp_X12_version_89 h x1 x2 x3 x4 x5 (1 : Int32) (some h) S59 g))
set_option maxRecDepth 100000 in
set_option maxHeartbeats 4000000 in
theorem kp_X12_version_47 {K : xm_K} (h : Nat) (x1 : Int32) (x2 : Int32) (x3 : Int32) (x4 : Int32) (x5 : Int32) (s0 : Int32) (S : xm_S) {g : Int32 → xm_S → Prop} (C : xm_Cx K cX12_version RX12 9 (some (FieldType.int)) rm_X12_version) (N : xm_Nx K) (hg : ∀ v S, g v S → xm_q K (some (xm_i v)) S)  (h1 : wp_X12_version_47 h x1 x2 x3 x4 x5 s0 S g) : xm_W K 0 0 47 [(0, xm_r (some h)), (1, xm_i x1), (2, xm_i x2), (3, xm_i x3), (4, xm_i x4), (5, xm_i x5)] [xm_i s0] S := by
  unfold wp_X12_version_47 at h1
  refine x_istore (L' := [(6, xm_i s0), (0, xm_r (some h)), (1, xm_i x1), (2, xm_i x2), (3, xm_i x3), (4, xm_i x4), (5, xm_i x5)]) C dX12_version_47 (by decide) rfl ?_
  refine x_iload_n C 2 dX12_version_49 rfl rfl ?_
  refine x_callS (rm' := rm_X12_isPack) C (kp_X12_isPack_met h1) lk_97 gw_583 rfl (Nat.le_of_ble_eq_true rfl) ⟨Nat.le_of_ble_eq_true rfl, Nat.le_of_ble_eq_true rfl, (Nat.le_of_ble_eq_true rfl), (Nat.le_of_ble_eq_true rfl)⟩ dX12_version_50 xm_kx (xm_ki (fun r60 S59 h1 => ?_))
  refine x_istore (L' := [(7, xm_i r60), (6, xm_i s0), (0, xm_r (some h)), (1, xm_i x1), (2, xm_i x2), (3, xm_i x3), (4, xm_i x4), (5, xm_i x5)]) C dX12_version_53 (by decide) rfl ?_
  refine x_aload_n C 2 dX12_version_55 rfl rfl ?_
  refine x_iload C 0 dX12_version_56 rfl ?_
  refine x_if_ne (tgt := 65) C dX12_version_58 (by decide) (fun z9 => ?_) (fun z9 => ?_)
  · have h1 := h1.1 z9
    refine x_iload C 1 dX12_version_65 rfl ?_
    refine x_if_ne (tgt := 74) C dX12_version_67 (by decide) (fun z9 => ?_) (fun z9 => ?_)
    · have h1 := h1.1 z9
      refine x_aload_n C 2 dX12_version_74 rfl rfl ?_
      obtain ⟨ht61, h1⟩ := h1
      refine x_getf_r (n := h) C rfl ht61 fd_175 (by decide) dX12_version_75 ?_
      refine x_iload_n C 3 dX12_version_78 rfl rfl ?_
      obtain ⟨n62, hr63, h1⟩ := h1
      obtain ⟨z65, ht64, h1⟩ := h1
      obtain ⟨hi66, h1⟩ := h1
      refine x_iald (n := n62) C hr63 ht64 hi66 dX12_version_79 ?_
      refine x_iconst (v := (nI 4)) C dX12_version_80 (by decide) ?_
      refine x_icmp_ne (tgt := 88) C dX12_version_81 (by decide) (fun z9 => ?_) (fun z9 => ?_)
      · have h1 := h1.1 z9
        refine x_iconst (v := (0 : Int32)) C dX12_version_88 (by decide) ?_
        refine x_keep (L' := [(0, xm_r (some h)), (1, xm_i x1), (2, xm_i x2), (3, xm_i x3), (4, xm_i x4), (5, xm_i x5)]) C [2, 3, 4, 5, 6, 7] rfl ?_
        exact kp_X12_version_89 h x1 x2 x3 x4 x5 (0 : Int32) (some h) S59 C N hg  h1
      · have h1 := h1.2 z9
        refine x_iconst (v := (nI 3)) C dX12_version_84 (by decide) ?_
        refine x_goto (tgt := 89) C dX12_version_85 (by decide) ?_
        refine x_keep (L' := [(0, xm_r (some h)), (1, xm_i x1), (2, xm_i x2), (3, xm_i x3), (4, xm_i x4), (5, xm_i x5)]) C [2, 3, 4, 5, 6, 7] rfl ?_
        exact kp_X12_version_89 h x1 x2 x3 x4 x5 (nI 3) (some h) S59 C N hg  h1
    · have h1 := h1.2 z9
      refine x_iconst (v := (nI 2)) C dX12_version_70 (by decide) ?_
      refine x_goto (tgt := 89) C dX12_version_71 (by decide) ?_
      refine x_keep (L' := [(0, xm_r (some h)), (1, xm_i x1), (2, xm_i x2), (3, xm_i x3), (4, xm_i x4), (5, xm_i x5)]) C [2, 3, 4, 5, 6, 7] rfl ?_
      exact kp_X12_version_89 h x1 x2 x3 x4 x5 (nI 2) (some h) S59 C N hg  h1
  · have h1 := h1.2 z9
    refine x_iconst (v := (1 : Int32)) C dX12_version_61 (by decide) ?_
    refine x_goto (tgt := 89) C dX12_version_62 (by decide) ?_
    refine x_keep (L' := [(0, xm_r (some h)), (1, xm_i x1), (2, xm_i x2), (3, xm_i x3), (4, xm_i x4), (5, xm_i x5)]) C [2, 3, 4, 5, 6, 7] rfl ?_
    exact kp_X12_version_89 h x1 x2 x3 x4 x5 (1 : Int32) (some h) S59 C N hg  h1
def wp_X12_version_46 (h : Nat) (x1 : Int32) (x2 : Int32) (x3 : Int32) (x4 : Int32) (x5 : Int32) (S : xm_S) (g : Int32 → xm_S → Prop) : Prop :=
  wp_X12_version_47 h x1 x2 x3 x4 x5 (0 : Int32) S g
set_option maxRecDepth 100000 in
set_option maxHeartbeats 4000000 in
theorem kp_X12_version_46 {K : xm_K} (h : Nat) (x1 : Int32) (x2 : Int32) (x3 : Int32) (x4 : Int32) (x5 : Int32) (S : xm_S) {g : Int32 → xm_S → Prop} (C : xm_Cx K cX12_version RX12 9 (some (FieldType.int)) rm_X12_version) (N : xm_Nx K) (hg : ∀ v S, g v S → xm_q K (some (xm_i v)) S)  (h1 : wp_X12_version_46 h x1 x2 x3 x4 x5 S g) : xm_W K 0 0 46 [(0, xm_r (some h)), (1, xm_i x1), (2, xm_i x2), (3, xm_i x3), (4, xm_i x4), (5, xm_i x5)] [] S := by
  unfold wp_X12_version_46 at h1
  refine x_iconst (v := (0 : Int32)) C dX12_version_46 (by decide) ?_
  exact kp_X12_version_47 h x1 x2 x3 x4 x5 (0 : Int32) S C N hg  h1
def wp_X12_version (h : Nat) (x1 : Int32) (x2 : Int32) (x3 : Int32) (x4 : Int32) (x5 : Int32) (S : xm_S) (g : Int32 → xm_S → Prop) : Prop :=
  wp_X12_in x2 (0 : Int32) (nI 99999) S (fun r68 S67 => (r68 = 0 → wp_X12_version_46 h x1 x2 x3 x4 x5 S67 g) ∧ (¬ r68 = 0 → wp_X12_in x3 (0 : Int32) (nI 15) S67 (fun r70 S69 => (r70 = 0 → wp_X12_version_46 h x1 x2 x3 x4 x5 S69 g) ∧ (¬ r70 = 0 → wp_X12_in x4 (0 : Int32) (nI 3) S69 (fun r72 S71 => (r72 = 0 → wp_X12_version_46 h x1 x2 x3 x4 x5 S71 g) ∧ (¬ r72 = 0 → wp_X12_in x5 (0 : Int32) (nI 999) S71 (fun r74 S73 => (r74 = 0 → wp_X12_version_46 h x1 x2 x3 x4 x5 S73 g) ∧ (¬ r74 = 0 → wp_X12_version_47 h x1 x2 x3 x4 x5 (1 : Int32) S73 g))))))))
set_option maxRecDepth 100000 in
set_option maxHeartbeats 4000000 in
theorem kp_X12_version {K : xm_K} (h : Nat) (x1 : Int32) (x2 : Int32) (x3 : Int32) (x4 : Int32) (x5 : Int32) (S : xm_S) {g : Int32 → xm_S → Prop} (C : xm_Cx K cX12_version RX12 9 (some (FieldType.int)) rm_X12_version) (N : xm_Nx K) (hg : ∀ v S, g v S → xm_q K (some (xm_i v)) S)  (h1 : wp_X12_version h x1 x2 x3 x4 x5 S g) : xm_W K 0 0 0 [(0, xm_r (some h)), (1, xm_i x1), (2, xm_i x2), (3, xm_i x3), (4, xm_i x4), (5, xm_i x5)] [] S := by
  unfold wp_X12_version at h1
  refine x_iload_n C 2 dX12_version_0 rfl rfl ?_
  refine x_iconst (v := (0 : Int32)) C dX12_version_1 (by decide) ?_
  refine x_ldc (v := nI 99999) C gw_765 dX12_version_2 ?_
  refine x_callS (rm' := rm_X12_in) C (kp_X12_in_met h1) lk_87 gw_533 rfl (Nat.le_of_ble_eq_true rfl) ⟨Nat.le_of_ble_eq_true rfl, Nat.le_of_ble_eq_true rfl, (Nat.le_of_ble_eq_true rfl), (Nat.le_of_ble_eq_true rfl)⟩ dX12_version_4 xm_kx (xm_ki (fun r68 S67 h1 => ?_))
  refine x_if_eq (tgt := 46) C dX12_version_7 (by decide) (fun z9 => ?_) (fun z9 => ?_)
  · have h1 := h1.1 z9
    exact kp_X12_version_46 h x1 x2 x3 x4 x5 S67 C N hg  h1
  · have h1 := h1.2 z9
    refine x_iload_n C 3 dX12_version_10 rfl rfl ?_
    refine x_iconst (v := (0 : Int32)) C dX12_version_11 (by decide) ?_
    refine x_bipush (v := (nI 15)) C dX12_version_12 (by decide) ?_
    refine x_callS (rm' := rm_X12_in) C (kp_X12_in_met h1) lk_87 gw_533 rfl (Nat.le_of_ble_eq_true rfl) ⟨Nat.le_of_ble_eq_true rfl, Nat.le_of_ble_eq_true rfl, (Nat.le_of_ble_eq_true rfl), (Nat.le_of_ble_eq_true rfl)⟩ dX12_version_14 xm_kx (xm_ki (fun r70 S69 h1 => ?_))
    refine x_if_eq (tgt := 46) C dX12_version_17 (by decide) (fun z9 => ?_) (fun z9 => ?_)
    · have h1 := h1.1 z9
      exact kp_X12_version_46 h x1 x2 x3 x4 x5 S69 C N hg  h1
    · have h1 := h1.2 z9
      refine x_iload C 4 dX12_version_20 rfl ?_
      refine x_iconst (v := (0 : Int32)) C dX12_version_22 (by decide) ?_
      refine x_iconst (v := (nI 3)) C dX12_version_23 (by decide) ?_
      refine x_callS (rm' := rm_X12_in) C (kp_X12_in_met h1) lk_87 gw_533 rfl (Nat.le_of_ble_eq_true rfl) ⟨Nat.le_of_ble_eq_true rfl, Nat.le_of_ble_eq_true rfl, (Nat.le_of_ble_eq_true rfl), (Nat.le_of_ble_eq_true rfl)⟩ dX12_version_24 xm_kx (xm_ki (fun r72 S71 h1 => ?_))
      refine x_if_eq (tgt := 46) C dX12_version_27 (by decide) (fun z9 => ?_) (fun z9 => ?_)
      · have h1 := h1.1 z9
        exact kp_X12_version_46 h x1 x2 x3 x4 x5 S71 C N hg  h1
      · have h1 := h1.2 z9
        refine x_iload C 5 dX12_version_30 rfl ?_
        refine x_iconst (v := (0 : Int32)) C dX12_version_32 (by decide) ?_
        refine x_sipush (v := (nI 999)) C dX12_version_33 (by decide) ?_
        refine x_callS (rm' := rm_X12_in) C (kp_X12_in_met h1) lk_87 gw_533 rfl (Nat.le_of_ble_eq_true rfl) ⟨Nat.le_of_ble_eq_true rfl, Nat.le_of_ble_eq_true rfl, (Nat.le_of_ble_eq_true rfl), (Nat.le_of_ble_eq_true rfl)⟩ dX12_version_36 xm_kx (xm_ki (fun r74 S73 h1 => ?_))
        refine x_if_eq (tgt := 46) C dX12_version_39 (by decide) (fun z9 => ?_) (fun z9 => ?_)
        · have h1 := h1.1 z9
          exact kp_X12_version_46 h x1 x2 x3 x4 x5 S73 C N hg  h1
        · have h1 := h1.2 z9
          refine x_iconst (v := (1 : Int32)) C dX12_version_42 (by decide) ?_
          refine x_goto (tgt := 47) C dX12_version_43 (by decide) ?_
          exact kp_X12_version_47 h x1 x2 x3 x4 x5 (1 : Int32) S73 C N hg  h1
theorem kp_X12_version_met {h : Nat} {x1 : Int32} {x2 : Int32} {x3 : Int32} {x4 : Int32} {x5 : Int32} {S : xm_S} {g : Int32 → xm_S → Prop}  (h1 : wp_X12_version h x1 x2 x3 x4 x5 S g) : xm_Met yX12_version cX12_version 9 (some (FieldType.int)) rm_X12_version [xm_r (some h), xm_i x1, xm_i x2, xm_i x3, xm_i x4, xm_i x5] S (xm_qi g) xm_nox :=
  xm_ofW RX12 (by decide +kernel) rfl (Nat.le_of_ble_eq_true rfl) (fun K C N hq hx hi => kp_X12_version h x1 x2 x3 x4 x5 S C N (fun v S h => by rw [hq]; exact ⟨v, rfl, h⟩)  h1)
def rm_X12_wipe : Room := { frames := 1, cells := 0, slots := 0, locals := 20 }
theorem dX12_wipe_0 : decode cX12_wipe 0 = .ok (.aload_n 0, 1) := by decide +kernel
theorem dX12_wipe_1 : decode cX12_wipe 1 = .ok (.iconst 0, 1) := by decide +kernel
theorem dX12_wipe_2 : decode cX12_wipe 2 = .ok (.putfield 169, 3) := by decide +kernel
theorem dX12_wipe_5 : decode cX12_wipe 5 = .ok (.aload_n 0, 1) := by decide +kernel
theorem dX12_wipe_6 : decode cX12_wipe 6 = .ok (.getfield 77, 3) := by decide +kernel
theorem dX12_wipe_9 : decode cX12_wipe 9 = .ok (.sipush 154, 3) := by decide +kernel
theorem dX12_wipe_12 : decode cX12_wipe 12 = .ok (.iaload, 1) := by decide +kernel
theorem dX12_wipe_13 : decode cX12_wipe 13 = .ok (.istore_n 1, 1) := by decide +kernel
theorem dX12_wipe_14 : decode cX12_wipe 14 = .ok (.aload_n 0, 1) := by decide +kernel
theorem dX12_wipe_15 : decode cX12_wipe 15 = .ok (.getfield 77, 3) := by decide +kernel
theorem dX12_wipe_18 : decode cX12_wipe 18 = .ok (.sipush 154, 3) := by decide +kernel
theorem dX12_wipe_21 : decode cX12_wipe 21 = .ok (.iconst 0, 1) := by decide +kernel
theorem dX12_wipe_22 : decode cX12_wipe 22 = .ok (.iastore, 1) := by decide +kernel
theorem dX12_wipe_23 : decode cX12_wipe 23 = .ok (.iload_n 1, 1) := by decide +kernel
theorem dX12_wipe_24 : decode cX12_wipe 24 = .ok (.ireturn, 1) := by decide +kernel
def wp_X12_wipe (h : Nat)  (S : xm_S) (g : Int32 → xm_S → Prop) : Prop :=
  st_t S h = some (12, 0) ∧ ∀ S2, S2 = st_pi S h 0 (0 : Int32) → ∃ n4, (st_r S2 h 25) = some n4 ∧ ∃ z7, st_t S2 n4 = some (100, z7) ∧ vp_in (nI 154) z7 ∧ ∀ y9, y9 = (st_i S2 n4 ((nI 154)).toNatClampNeg) → ∃ n11, (st_r S2 h 25) = some n11 ∧ ∃ z14, st_t S2 n11 = some (100, z14) ∧ vp_in (nI 154) z14 ∧ ∀ S16, S16 = st_pi S2 n11 ((nI 154)).toNatClampNeg (0 : Int32) → g y9 S16
set_option maxRecDepth 100000 in
set_option maxHeartbeats 4000000 in
theorem kp_X12_wipe {K : xm_K} (h : Nat)  (S : xm_S) {g : Int32 → xm_S → Prop} (C : xm_Cx K cX12_wipe RX12 2 (some (FieldType.int)) rm_X12_wipe) (N : xm_Nx K) (hg : ∀ v S, g v S → xm_q K (some (xm_i v)) S)  (h1 : wp_X12_wipe h  S g) : xm_W K 0 0 0 [(0, xm_r (some h))] [] S := by
  unfold wp_X12_wipe at h1
  refine x_aload_n C 0 dX12_wipe_0 rfl rfl ?_
  refine x_iconst (v := (0 : Int32)) C dX12_wipe_1 (by decide) ?_
  obtain ⟨ht1, h1⟩ := h1
  refine x_putf_i (n := h) C rfl ht1 fd_165 xc_12 (by decide) rfl ⟨rfl, rfl⟩ dX12_wipe_2 ?_
  refine x_topS (fun S2 e3 => ?_)
  have h1 := h1 S2 e3
  refine x_aload_n C 0 dX12_wipe_5 rfl rfl ?_
  refine x_getf_r (n := h) C rfl (tk_p e3 ht1) fd_159 (by decide) dX12_wipe_6 ?_
  refine x_sipush (v := (nI 154)) C dX12_wipe_9 (by decide) ?_
  obtain ⟨n4, hr5, h1⟩ := h1
  obtain ⟨z7, ht6, h1⟩ := h1
  obtain ⟨hi8, h1⟩ := h1
  refine x_iald (n := n4) C hr5 ht6 hi8 dX12_wipe_12 ?_
  refine x_topi (fun y9 e10 => ?_)
  have h1 := h1 y9 e10
  refine x_istore_n (L' := [(1, xm_i y9), (0, xm_r (some h))]) C dX12_wipe_13 rfl (by decide) rfl ?_
  refine x_aload_n C 1 dX12_wipe_14 rfl rfl ?_
  refine x_getf_r (n := h) C rfl (tk_p e3 ht1) fd_159 (by decide) dX12_wipe_15 ?_
  refine x_sipush (v := (nI 154)) C dX12_wipe_18 (by decide) ?_
  refine x_iconst (v := (0 : Int32)) C dX12_wipe_21 (by decide) ?_
  obtain ⟨n11, hr12, h1⟩ := h1
  obtain ⟨z14, ht13, h1⟩ := h1
  obtain ⟨hi15, h1⟩ := h1
  refine x_iast (n := n11) C hr12 ht13 hi15 dX12_wipe_22 ?_
  refine x_topS (fun S16 e17 => ?_)
  have h1 := h1 S16 e17
  refine x_iload_n C 0 dX12_wipe_23 rfl rfl ?_
  exact x_iret C (Nat.le_of_ble_eq_true rfl) (Nat.le_of_ble_eq_true rfl) rfl dX12_wipe_24 (hg _ _ h1)
theorem kp_X12_wipe_met {h : Nat}  {S : xm_S} {g : Int32 → xm_S → Prop}  (h1 : wp_X12_wipe h  S g) : xm_Met yX12_wipe cX12_wipe 2 (some (FieldType.int)) rm_X12_wipe [xm_r (some h)] S (xm_qi g) xm_nox :=
  xm_ofW RX12 (by decide +kernel) rfl (Nat.le_of_ble_eq_true rfl) (fun K C N hq hx hi => kp_X12_wipe h  S C N (fun v S h => by rw [hq]; exact ⟨v, rfl, h⟩)  h1)
def rm_X12_wish : Room := { frames := 8, cells := 0, slots := 0, locals := 168 }
theorem dX12_wish_0 : decode cX12_wish 0 = .ok (.iload_n 1, 1) := by decide +kernel
theorem dX12_wish_1 : decode cX12_wish 1 = .ok (.invokestatic 176, 3) := by decide +kernel
theorem dX12_wish_4 : decode cX12_wish 4 = .ok (.istore_n 3, 1) := by decide +kernel
theorem dX12_wish_5 : decode cX12_wish 5 = .ok (.aload_n 0, 1) := by decide +kernel
theorem dX12_wish_6 : decode cX12_wish 6 = .ok (.iload_n 3, 1) := by decide +kernel
theorem dX12_wish_7 : decode cX12_wish 7 = .ok (.ifCond .ne 7, 3) := by decide +kernel
theorem dX12_wish_10 : decode cX12_wish 10 = .ok (.iconst 1, 1) := by decide +kernel
theorem dX12_wish_11 : decode cX12_wish 11 = .ok (.goto 37, 3) := by decide +kernel
theorem dX12_wish_14 : decode cX12_wish 14 = .ok (.iload_n 2, 1) := by decide +kernel
theorem dX12_wish_15 : decode cX12_wish 15 = .ok (.iconst 0, 1) := by decide +kernel
theorem dX12_wish_16 : decode cX12_wish 16 = .ok (.bipush 15, 2) := by decide +kernel
theorem dX12_wish_18 : decode cX12_wish 18 = .ok (.invokestatic 172, 3) := by decide +kernel
theorem dX12_wish_21 : decode cX12_wish 21 = .ok (.ifCond .eq 10, 3) := by decide +kernel
theorem dX12_wish_24 : decode cX12_wish 24 = .ok (.aload_n 0, 1) := by decide +kernel
theorem dX12_wish_25 : decode cX12_wish 25 = .ok (.invokevirtual 240, 3) := by decide +kernel
theorem dX12_wish_28 : decode cX12_wish 28 = .ok (.ifCond .ne 7, 3) := by decide +kernel
theorem dX12_wish_31 : decode cX12_wish 31 = .ok (.iconst 2, 1) := by decide +kernel
theorem dX12_wish_32 : decode cX12_wish 32 = .ok (.goto 16, 3) := by decide +kernel
theorem dX12_wish_35 : decode cX12_wish 35 = .ok (.aload_n 0, 1) := by decide +kernel
theorem dX12_wish_36 : decode cX12_wish 36 = .ok (.getfield 257, 3) := by decide +kernel
theorem dX12_wish_39 : decode cX12_wish 39 = .ok (.iconst 4, 1) := by decide +kernel
theorem dX12_wish_40 : decode cX12_wish 40 = .ok (.if_icmp .ne 7, 3) := by decide +kernel
theorem dX12_wish_43 : decode cX12_wish 43 = .ok (.iconst 3, 1) := by decide +kernel
theorem dX12_wish_44 : decode cX12_wish 44 = .ok (.goto 4, 3) := by decide +kernel
theorem dX12_wish_47 : decode cX12_wish 47 = .ok (.iconst 0, 1) := by decide +kernel
theorem dX12_wish_48 : decode cX12_wish 48 = .ok (.invokevirtual 182, 3) := by decide +kernel
theorem dX12_wish_51 : decode cX12_wish 51 = .ok (.ifCond .ne 5, 3) := by decide +kernel
theorem dX12_wish_54 : decode cX12_wish 54 = .ok (.iconst 0, 1) := by decide +kernel
theorem dX12_wish_55 : decode cX12_wish 55 = .ok (.ireturn, 1) := by decide +kernel
theorem dX12_wish_56 : decode cX12_wish 56 = .ok (.aload_n 0, 1) := by decide +kernel
theorem dX12_wish_57 : decode cX12_wish 57 = .ok (.getfield 62, 3) := by decide +kernel
theorem dX12_wish_60 : decode cX12_wish 60 = .ok (.aload_n 0, 1) := by decide +kernel
theorem dX12_wish_61 : decode cX12_wish 61 = .ok (.getfield 257, 3) := by decide +kernel
theorem dX12_wish_64 : decode cX12_wish 64 = .ok (.iload_n 1, 1) := by decide +kernel
theorem dX12_wish_65 : decode cX12_wish 65 = .ok (.iastore, 1) := by decide +kernel
theorem dX12_wish_66 : decode cX12_wish 66 = .ok (.aload_n 0, 1) := by decide +kernel
theorem dX12_wish_67 : decode cX12_wish 67 = .ok (.getfield 65, 3) := by decide +kernel
theorem dX12_wish_70 : decode cX12_wish 70 = .ok (.aload_n 0, 1) := by decide +kernel
theorem dX12_wish_71 : decode cX12_wish 71 = .ok (.getfield 257, 3) := by decide +kernel
theorem dX12_wish_74 : decode cX12_wish 74 = .ok (.iload_n 2, 1) := by decide +kernel
theorem dX12_wish_75 : decode cX12_wish 75 = .ok (.iastore, 1) := by decide +kernel
theorem dX12_wish_76 : decode cX12_wish 76 = .ok (.aload_n 0, 1) := by decide +kernel
theorem dX12_wish_77 : decode cX12_wish 77 = .ok (.sipush 144, 3) := by decide +kernel
theorem dX12_wish_80 : decode cX12_wish 80 = .ok (.aload_n 0, 1) := by decide +kernel
theorem dX12_wish_81 : decode cX12_wish 81 = .ok (.getfield 257, 3) := by decide +kernel
theorem dX12_wish_84 : decode cX12_wish 84 = .ok (.iadd, 1) := by decide +kernel
theorem dX12_wish_85 : decode cX12_wish 85 = .ok (.invokevirtual 243, 3) := by decide +kernel
theorem dX12_wish_88 : decode cX12_wish 88 = .ok (.aload_n 0, 1) := by decide +kernel
theorem dX12_wish_89 : decode cX12_wish 89 = .ok (.dup, 1) := by decide +kernel
theorem dX12_wish_90 : decode cX12_wish 90 = .ok (.getfield 257, 3) := by decide +kernel
theorem dX12_wish_93 : decode cX12_wish 93 = .ok (.iconst 1, 1) := by decide +kernel
theorem dX12_wish_94 : decode cX12_wish 94 = .ok (.iadd, 1) := by decide +kernel
theorem dX12_wish_95 : decode cX12_wish 95 = .ok (.putfield 257, 3) := by decide +kernel
theorem dX12_wish_98 : decode cX12_wish 98 = .ok (.aload_n 0, 1) := by decide +kernel
theorem dX12_wish_99 : decode cX12_wish 99 = .ok (.getfield 257, 3) := by decide +kernel
theorem dX12_wish_102 : decode cX12_wish 102 = .ok (.ireturn, 1) := by decide +kernel
def wp_X12_wish_48 (h : Nat) (x1 : Int32) (x2 : Int32) (s0 : Int32) (s1 : Option Nat) (S : xm_S) (g : Int32 → xm_S → Prop) : Prop :=
  ∃ n1, s1 = some n1 ∧ st_t S n1 = some (12, 0) ∧ wp_X12_may n1 s0 S (fun r5 S4 => (¬ r5 = 0 → st_t S4 h = some (12, 0) ∧ ∃ n7, (st_r S4 h 19) = some n7 ∧ ∃ z10, st_t S4 n7 = some (100, z10) ∧ vp_in (st_i S4 h 18) z10 ∧ ∀ S12, S12 = st_pi S4 n7 ((st_i S4 h 18)).toNatClampNeg x1 → ∃ n14, (st_r S12 h 20) = some n14 ∧ ∃ z17, st_t S12 n14 = some (100, z17) ∧ vp_in (st_i S12 h 18) z17 ∧ ∀ S19, S19 = st_pi S12 n14 ((st_i S12 h 18)).toNatClampNeg x2 → wp_X12_keeps h ((nI 144) + (st_i S19 h 18)) S19 (fun S21 => st_t S21 h = some (12, 0) ∧ ∀ S24, S24 = st_pi S21 h 18 ((st_i S21 h 18) + (1 : Int32)) → g (st_i S24 h 18) S24)) ∧ (r5 = 0 → g (0 : Int32) S4))
set_option maxRecDepth 100000 in
set_option maxHeartbeats 4000000 in
theorem kp_X12_wish_48 {K : xm_K} (h : Nat) (x1 : Int32) (x2 : Int32) (s0 : Int32) (s1 : Option Nat) (S : xm_S) {g : Int32 → xm_S → Prop} (C : xm_Cx K cX12_wish RX12 4 (some (FieldType.int)) rm_X12_wish) (N : xm_Nx K) (hg : ∀ v S, g v S → xm_q K (some (xm_i v)) S)  (h1 : wp_X12_wish_48 h x1 x2 s0 s1 S g) : xm_W K 0 0 48 [(0, xm_r (some h)), (1, xm_i x1), (2, xm_i x2)] [xm_i s0, xm_r s1] S := by
  unfold wp_X12_wish_48 at h1
  obtain ⟨n1, hr2, h1⟩ := h1
  obtain ⟨ht3, h1⟩ := h1
  refine x_callV (rm' := rm_X12_may) (n := n1) C (kp_X12_may_met h1) lk_95 gw_572 gw_573 xv_12 rfl hr2 ht3 rfl (Nat.le_of_ble_eq_true rfl) ⟨Nat.le_of_ble_eq_true rfl, Nat.le_of_ble_eq_true rfl, (Nat.le_of_ble_eq_true rfl), (Nat.le_of_ble_eq_true rfl)⟩ dX12_wish_48 xm_kx (xm_ki (fun r5 S4 h1 => ?_))
  refine x_if_ne (tgt := 56) C dX12_wish_51 (by decide) (fun z9 => ?_) (fun z9 => ?_)
  · have h1 := h1.1 z9
    refine x_aload_n C 0 dX12_wish_56 rfl rfl ?_
    obtain ⟨ht6, h1⟩ := h1
    refine x_getf_r (n := h) C rfl ht6 fd_188 (by decide) dX12_wish_57 ?_
    refine x_aload_n C 0 dX12_wish_60 rfl rfl ?_
    refine x_getf_i (n := h) C rfl ht6 fd_187 (by decide) dX12_wish_61 ?_
    refine x_iload_n C 1 dX12_wish_64 rfl rfl ?_
    obtain ⟨n7, hr8, h1⟩ := h1
    obtain ⟨z10, ht9, h1⟩ := h1
    obtain ⟨hi11, h1⟩ := h1
    refine x_iast (n := n7) C hr8 ht9 hi11 dX12_wish_65 ?_
    refine x_topS (fun S12 e13 => ?_)
    have h1 := h1 S12 e13
    refine x_aload_n C 0 dX12_wish_66 rfl rfl ?_
    refine x_getf_r (n := h) C rfl (tk_p e13 ht6) fd_189 (by decide) dX12_wish_67 ?_
    refine x_aload_n C 0 dX12_wish_70 rfl rfl ?_
    refine x_getf_i (n := h) C rfl (tk_p e13 ht6) fd_187 (by decide) dX12_wish_71 ?_
    refine x_iload_n C 2 dX12_wish_74 rfl rfl ?_
    obtain ⟨n14, hr15, h1⟩ := h1
    obtain ⟨z17, ht16, h1⟩ := h1
    obtain ⟨hi18, h1⟩ := h1
    refine x_iast (n := n14) C hr15 ht16 hi18 dX12_wish_75 ?_
    refine x_topS (fun S19 e20 => ?_)
    have h1 := h1 S19 e20
    refine x_aload_n C 0 dX12_wish_76 rfl rfl ?_
    refine x_sipush (v := (nI 144)) C dX12_wish_77 (by decide) ?_
    refine x_aload_n C 0 dX12_wish_80 rfl rfl ?_
    refine x_getf_i (n := h) C rfl (tk_p e20 (tk_p e13 ht6)) fd_187 (by decide) dX12_wish_81 ?_
    refine x_iadd C dX12_wish_84 ?_
    refine x_callV (rm' := rm_X12_keeps) (n := h) C (kp_X12_keeps_met h1) lk_96 gw_579 gw_580 xv_12 rfl rfl (tk_p e20 (tk_p e13 ht6)) rfl (Nat.le_of_ble_eq_true rfl) ⟨Nat.le_of_ble_eq_true rfl, Nat.le_of_ble_eq_true rfl, (Nat.le_of_ble_eq_true rfl), (Nat.le_of_ble_eq_true rfl)⟩ dX12_wish_85 xm_kx (xm_kv (fun S21 h1 => ?_))
    refine x_aload_n C 0 dX12_wish_88 rfl rfl ?_
    refine x_dup_r C dX12_wish_89 ?_
    obtain ⟨ht23, h1⟩ := h1
    refine x_getf_i (n := h) C rfl ht23 fd_187 (by decide) dX12_wish_90 ?_
    refine x_iconst (v := (1 : Int32)) C dX12_wish_93 (by decide) ?_
    refine x_iadd C dX12_wish_94 ?_
    refine x_putf_i (n := h) C rfl ht23 fd_187 xc_12 (by decide) rfl ⟨rfl, rfl⟩ dX12_wish_95 ?_
    refine x_topS (fun S24 e25 => ?_)
    have h1 := h1 S24 e25
    refine x_aload_n C 0 dX12_wish_98 rfl rfl ?_
    refine x_getf_i (n := h) C rfl (tk_p e25 ht23) fd_187 (by decide) dX12_wish_99 ?_
    exact x_iret C (Nat.le_of_ble_eq_true rfl) (Nat.le_of_ble_eq_true rfl) rfl dX12_wish_102 (hg _ _ h1)
  · have h1 := h1.2 z9
    refine x_iconst (v := (0 : Int32)) C dX12_wish_54 (by decide) ?_
    exact x_iret C (Nat.le_of_ble_eq_true rfl) (Nat.le_of_ble_eq_true rfl) rfl dX12_wish_55 (hg _ _ h1)
def wp_X12_wish_31 (h : Nat) (x1 : Int32) (x2 : Int32) (s0 : Option Nat) (S : xm_S) (g : Int32 → xm_S → Prop) : Prop :=
  wp_X12_wish_48 h x1 x2 (nI 2) s0 S g
set_option maxRecDepth 100000 in
set_option maxHeartbeats 4000000 in
theorem kp_X12_wish_31 {K : xm_K} (h : Nat) (x1 : Int32) (x2 : Int32) (s0 : Option Nat) (S : xm_S) {g : Int32 → xm_S → Prop} (C : xm_Cx K cX12_wish RX12 4 (some (FieldType.int)) rm_X12_wish) (N : xm_Nx K) (hg : ∀ v S, g v S → xm_q K (some (xm_i v)) S)  (h1 : wp_X12_wish_31 h x1 x2 s0 S g) : xm_W K 0 0 31 [(0, xm_r (some h)), (1, xm_i x1), (2, xm_i x2)] [xm_r s0] S := by
  unfold wp_X12_wish_31 at h1
  refine x_iconst (v := (nI 2)) C dX12_wish_31 (by decide) ?_
  refine x_goto (tgt := 48) C dX12_wish_32 (by decide) ?_
  exact kp_X12_wish_48 h x1 x2 (nI 2) s0 S C N hg  h1
def wp_X12_wish (h : Nat) (x1 : Int32) (x2 : Int32) (S : xm_S) (g : Int32 → xm_S → Prop) : Prop :=
  wp_X12_isPack x1 S (fun r27 S26 => (¬ r27 = 0 → wp_X12_in x2 (0 : Int32) (nI 15) S26 (fun r29 S28 => (r29 = 0 → wp_X12_wish_31 h x1 x2 (some h) S28 g) ∧ (¬ r29 = 0 → st_t S28 h = some (12, 0) ∧ wp_X12_isTyped h S28 (fun r32 S31 => (¬ r32 = 0 → st_t S31 h = some (12, 0) ∧ (¬ (st_i S31 h 18) = (nI 4) → wp_X12_wish_48 h x1 x2 (0 : Int32) (some h) S31 g) ∧ ((st_i S31 h 18) = (nI 4) → wp_X12_wish_48 h x1 x2 (nI 3) (some h) S31 g)) ∧ (r32 = 0 → wp_X12_wish_31 h x1 x2 (some h) S31 g))))) ∧ (r27 = 0 → wp_X12_wish_48 h x1 x2 (1 : Int32) (some h) S26 g))
set_option maxRecDepth 100000 in
set_option maxHeartbeats 4000000 in
theorem kp_X12_wish {K : xm_K} (h : Nat) (x1 : Int32) (x2 : Int32) (S : xm_S) {g : Int32 → xm_S → Prop} (C : xm_Cx K cX12_wish RX12 4 (some (FieldType.int)) rm_X12_wish) (N : xm_Nx K) (hg : ∀ v S, g v S → xm_q K (some (xm_i v)) S)  (h1 : wp_X12_wish h x1 x2 S g) : xm_W K 0 0 0 [(0, xm_r (some h)), (1, xm_i x1), (2, xm_i x2)] [] S := by
  unfold wp_X12_wish at h1
  refine x_iload_n C 1 dX12_wish_0 rfl rfl ?_
  refine x_callS (rm' := rm_X12_isPack) C (kp_X12_isPack_met h1) lk_97 gw_583 rfl (Nat.le_of_ble_eq_true rfl) ⟨Nat.le_of_ble_eq_true rfl, Nat.le_of_ble_eq_true rfl, (Nat.le_of_ble_eq_true rfl), (Nat.le_of_ble_eq_true rfl)⟩ dX12_wish_1 xm_kx (xm_ki (fun r27 S26 h1 => ?_))
  refine x_istore_n (L' := [(3, xm_i r27), (0, xm_r (some h)), (1, xm_i x1), (2, xm_i x2)]) C dX12_wish_4 rfl (by decide) rfl ?_
  refine x_aload_n C 1 dX12_wish_5 rfl rfl ?_
  refine x_iload_n C 0 dX12_wish_6 rfl rfl ?_
  refine x_if_ne (tgt := 14) C dX12_wish_7 (by decide) (fun z9 => ?_) (fun z9 => ?_)
  · have h1 := h1.1 z9
    refine x_iload_n C 3 dX12_wish_14 rfl rfl ?_
    refine x_iconst (v := (0 : Int32)) C dX12_wish_15 (by decide) ?_
    refine x_bipush (v := (nI 15)) C dX12_wish_16 (by decide) ?_
    refine x_callS (rm' := rm_X12_in) C (kp_X12_in_met h1) lk_87 gw_533 rfl (Nat.le_of_ble_eq_true rfl) ⟨Nat.le_of_ble_eq_true rfl, Nat.le_of_ble_eq_true rfl, (Nat.le_of_ble_eq_true rfl), (Nat.le_of_ble_eq_true rfl)⟩ dX12_wish_18 xm_kx (xm_ki (fun r29 S28 h1 => ?_))
    refine x_if_eq (tgt := 31) C dX12_wish_21 (by decide) (fun z9 => ?_) (fun z9 => ?_)
    · have h1 := h1.1 z9
      refine x_keep (L' := [(0, xm_r (some h)), (1, xm_i x1), (2, xm_i x2)]) C [1, 2, 3] rfl ?_
      exact kp_X12_wish_31 h x1 x2 (some h) S28 C N hg  h1
    · have h1 := h1.2 z9
      refine x_aload_n C 1 dX12_wish_24 rfl rfl ?_
      obtain ⟨ht30, h1⟩ := h1
      refine x_callV (rm' := rm_X12_isTyped) (n := h) C (kp_X12_isTyped_met h1) lk_98 gw_586 gw_587 xv_12 rfl rfl ht30 rfl (Nat.le_of_ble_eq_true rfl) ⟨Nat.le_of_ble_eq_true rfl, Nat.le_of_ble_eq_true rfl, (Nat.le_of_ble_eq_true rfl), (Nat.le_of_ble_eq_true rfl)⟩ dX12_wish_25 xm_kx (xm_ki (fun r32 S31 h1 => ?_))
      refine x_if_ne (tgt := 35) C dX12_wish_28 (by decide) (fun z9 => ?_) (fun z9 => ?_)
      · have h1 := h1.1 z9
        refine x_aload_n C 1 dX12_wish_35 rfl rfl ?_
        obtain ⟨ht33, h1⟩ := h1
        refine x_getf_i (n := h) C rfl ht33 fd_187 (by decide) dX12_wish_36 ?_
        refine x_iconst (v := (nI 4)) C dX12_wish_39 (by decide) ?_
        refine x_icmp_ne (tgt := 47) C dX12_wish_40 (by decide) (fun z9 => ?_) (fun z9 => ?_)
        · have h1 := h1.1 z9
          refine x_iconst (v := (0 : Int32)) C dX12_wish_47 (by decide) ?_
          refine x_keep (L' := [(0, xm_r (some h)), (1, xm_i x1), (2, xm_i x2)]) C [1, 2, 3] rfl ?_
          exact kp_X12_wish_48 h x1 x2 (0 : Int32) (some h) S31 C N hg  h1
        · have h1 := h1.2 z9
          refine x_iconst (v := (nI 3)) C dX12_wish_43 (by decide) ?_
          refine x_goto (tgt := 48) C dX12_wish_44 (by decide) ?_
          refine x_keep (L' := [(0, xm_r (some h)), (1, xm_i x1), (2, xm_i x2)]) C [1, 2, 3] rfl ?_
          exact kp_X12_wish_48 h x1 x2 (nI 3) (some h) S31 C N hg  h1
      · have h1 := h1.2 z9
        refine x_keep (L' := [(0, xm_r (some h)), (1, xm_i x1), (2, xm_i x2)]) C [1, 2, 3] rfl ?_
        exact kp_X12_wish_31 h x1 x2 (some h) S31 C N hg  h1
  · have h1 := h1.2 z9
    refine x_iconst (v := (1 : Int32)) C dX12_wish_10 (by decide) ?_
    refine x_goto (tgt := 48) C dX12_wish_11 (by decide) ?_
    refine x_keep (L' := [(0, xm_r (some h)), (1, xm_i x1), (2, xm_i x2)]) C [1, 2, 3] rfl ?_
    exact kp_X12_wish_48 h x1 x2 (1 : Int32) (some h) S26 C N hg  h1
theorem kp_X12_wish_met {h : Nat} {x1 : Int32} {x2 : Int32} {S : xm_S} {g : Int32 → xm_S → Prop}  (h1 : wp_X12_wish h x1 x2 S g) : xm_Met yX12_wish cX12_wish 4 (some (FieldType.int)) rm_X12_wish [xm_r (some h), xm_i x1, xm_i x2] S (xm_qi g) xm_nox :=
  xm_ofW RX12 (by decide +kernel) rfl (Nat.le_of_ble_eq_true rfl) (fun K C N hq hx hi => kp_X12_wish h x1 x2 S C N (fun v S h => by rw [hq]; exact ⟨v, rfl, h⟩)  h1)
def rm_X12_within : Room := { frames := 8, cells := 0, slots := 0, locals := 179 }
theorem dX12_within_0 : decode cX12_within 0 = .ok (.aload_n 0, 1) := by decide +kernel
theorem dX12_within_1 : decode cX12_within 1 = .ok (.iload_n 1, 1) := by decide +kernel
theorem dX12_within_2 : decode cX12_within 2 = .ok (.invokestatic 176, 3) := by decide +kernel
theorem dX12_within_5 : decode cX12_within 5 = .ok (.ifCond .ne 7, 3) := by decide +kernel
theorem dX12_within_8 : decode cX12_within 8 = .ok (.iconst 1, 1) := by decide +kernel
theorem dX12_within_9 : decode cX12_within 9 = .ok (.goto 15, 3) := by decide +kernel
theorem dX12_within_12 : decode cX12_within 12 = .ok (.aload_n 0, 1) := by decide +kernel
theorem dX12_within_13 : decode cX12_within 13 = .ok (.invokevirtual 240, 3) := by decide +kernel
theorem dX12_within_16 : decode cX12_within 16 = .ok (.ifCond .eq 7, 3) := by decide +kernel
theorem dX12_within_19 : decode cX12_within 19 = .ok (.iconst 0, 1) := by decide +kernel
theorem dX12_within_20 : decode cX12_within 20 = .ok (.goto 4, 3) := by decide +kernel
theorem dX12_within_23 : decode cX12_within 23 = .ok (.iconst 2, 1) := by decide +kernel
theorem dX12_within_24 : decode cX12_within 24 = .ok (.invokevirtual 182, 3) := by decide +kernel
theorem dX12_within_27 : decode cX12_within 27 = .ok (.ifCond .ne 5, 3) := by decide +kernel
theorem dX12_within_30 : decode cX12_within 30 = .ok (.iconst 0, 1) := by decide +kernel
theorem dX12_within_31 : decode cX12_within 31 = .ok (.ireturn, 1) := by decide +kernel
theorem dX12_within_32 : decode cX12_within 32 = .ok (.aload_n 0, 1) := by decide +kernel
theorem dX12_within_33 : decode cX12_within 33 = .ok (.sipush 154, 3) := by decide +kernel
theorem dX12_within_36 : decode cX12_within 36 = .ok (.iload_n 1, 1) := by decide +kernel
theorem dX12_within_37 : decode cX12_within 37 = .ok (.invokevirtual 254, 3) := by decide +kernel
theorem dX12_within_40 : decode cX12_within 40 = .ok (.ireturn, 1) := by decide +kernel
def wp_X12_within_24 (h : Nat) (x1 : Int32) (s0 : Int32) (s1 : Option Nat) (S : xm_S) (g : Int32 → xm_S → Prop) : Prop :=
  ∃ n1, s1 = some n1 ∧ st_t S n1 = some (12, 0) ∧ wp_X12_may n1 s0 S (fun r5 S4 => (¬ r5 = 0 → st_t S4 h = some (12, 0) ∧ wp_X12_versionsOf h (nI 154) x1 S4 (fun r8 S7 => g r8 S7)) ∧ (r5 = 0 → g (0 : Int32) S4))
set_option maxRecDepth 100000 in
set_option maxHeartbeats 4000000 in
theorem kp_X12_within_24 {K : xm_K} (h : Nat) (x1 : Int32) (s0 : Int32) (s1 : Option Nat) (S : xm_S) {g : Int32 → xm_S → Prop} (C : xm_Cx K cX12_within RX12 2 (some (FieldType.int)) rm_X12_within) (N : xm_Nx K) (hg : ∀ v S, g v S → xm_q K (some (xm_i v)) S)  (h1 : wp_X12_within_24 h x1 s0 s1 S g) : xm_W K 0 0 24 [(0, xm_r (some h)), (1, xm_i x1)] [xm_i s0, xm_r s1] S := by
  unfold wp_X12_within_24 at h1
  obtain ⟨n1, hr2, h1⟩ := h1
  obtain ⟨ht3, h1⟩ := h1
  refine x_callV (rm' := rm_X12_may) (n := n1) C (kp_X12_may_met h1) lk_95 gw_572 gw_573 xv_12 rfl hr2 ht3 rfl (Nat.le_of_ble_eq_true rfl) ⟨Nat.le_of_ble_eq_true rfl, Nat.le_of_ble_eq_true rfl, (Nat.le_of_ble_eq_true rfl), (Nat.le_of_ble_eq_true rfl)⟩ dX12_within_24 xm_kx (xm_ki (fun r5 S4 h1 => ?_))
  refine x_if_ne (tgt := 32) C dX12_within_27 (by decide) (fun z9 => ?_) (fun z9 => ?_)
  · have h1 := h1.1 z9
    refine x_aload_n C 0 dX12_within_32 rfl rfl ?_
    refine x_sipush (v := (nI 154)) C dX12_within_33 (by decide) ?_
    refine x_iload_n C 1 dX12_within_36 rfl rfl ?_
    obtain ⟨ht6, h1⟩ := h1
    refine x_callV (rm' := rm_X12_versionsOf) (n := h) C (kp_X12_versionsOf_met h1) lk_112 gw_666 gw_667 xv_12 rfl rfl ht6 rfl (Nat.le_of_ble_eq_true rfl) ⟨Nat.le_of_ble_eq_true rfl, Nat.le_of_ble_eq_true rfl, (Nat.le_of_ble_eq_true rfl), (Nat.le_of_ble_eq_true rfl)⟩ dX12_within_37 xm_kx (xm_ki (fun r8 S7 h1 => ?_))
    exact x_iret C (Nat.le_of_ble_eq_true rfl) (Nat.le_of_ble_eq_true rfl) rfl dX12_within_40 (hg _ _ h1)
  · have h1 := h1.2 z9
    refine x_iconst (v := (0 : Int32)) C dX12_within_30 (by decide) ?_
    exact x_iret C (Nat.le_of_ble_eq_true rfl) (Nat.le_of_ble_eq_true rfl) rfl dX12_within_31 (hg _ _ h1)
def wp_X12_within (h : Nat) (x1 : Int32) (S : xm_S) (g : Int32 → xm_S → Prop) : Prop :=
  wp_X12_isPack x1 S (fun r10 S9 => (¬ r10 = 0 → st_t S9 h = some (12, 0) ∧ wp_X12_isTyped h S9 (fun r13 S12 => (r13 = 0 → wp_X12_within_24 h x1 (nI 2) (some h) S12 g) ∧ (¬ r13 = 0 → wp_X12_within_24 h x1 (0 : Int32) (some h) S12 g))) ∧ (r10 = 0 → wp_X12_within_24 h x1 (1 : Int32) (some h) S9 g))
set_option maxRecDepth 100000 in
set_option maxHeartbeats 4000000 in
theorem kp_X12_within {K : xm_K} (h : Nat) (x1 : Int32) (S : xm_S) {g : Int32 → xm_S → Prop} (C : xm_Cx K cX12_within RX12 2 (some (FieldType.int)) rm_X12_within) (N : xm_Nx K) (hg : ∀ v S, g v S → xm_q K (some (xm_i v)) S)  (h1 : wp_X12_within h x1 S g) : xm_W K 0 0 0 [(0, xm_r (some h)), (1, xm_i x1)] [] S := by
  unfold wp_X12_within at h1
  refine x_aload_n C 0 dX12_within_0 rfl rfl ?_
  refine x_iload_n C 1 dX12_within_1 rfl rfl ?_
  refine x_callS (rm' := rm_X12_isPack) C (kp_X12_isPack_met h1) lk_97 gw_583 rfl (Nat.le_of_ble_eq_true rfl) ⟨Nat.le_of_ble_eq_true rfl, Nat.le_of_ble_eq_true rfl, (Nat.le_of_ble_eq_true rfl), (Nat.le_of_ble_eq_true rfl)⟩ dX12_within_2 xm_kx (xm_ki (fun r10 S9 h1 => ?_))
  refine x_if_ne (tgt := 12) C dX12_within_5 (by decide) (fun z9 => ?_) (fun z9 => ?_)
  · have h1 := h1.1 z9
    refine x_aload_n C 0 dX12_within_12 rfl rfl ?_
    obtain ⟨ht11, h1⟩ := h1
    refine x_callV (rm' := rm_X12_isTyped) (n := h) C (kp_X12_isTyped_met h1) lk_98 gw_586 gw_587 xv_12 rfl rfl ht11 rfl (Nat.le_of_ble_eq_true rfl) ⟨Nat.le_of_ble_eq_true rfl, Nat.le_of_ble_eq_true rfl, (Nat.le_of_ble_eq_true rfl), (Nat.le_of_ble_eq_true rfl)⟩ dX12_within_13 xm_kx (xm_ki (fun r13 S12 h1 => ?_))
    refine x_if_eq (tgt := 23) C dX12_within_16 (by decide) (fun z9 => ?_) (fun z9 => ?_)
    · have h1 := h1.1 z9
      refine x_iconst (v := (nI 2)) C dX12_within_23 (by decide) ?_
      exact kp_X12_within_24 h x1 (nI 2) (some h) S12 C N hg  h1
    · have h1 := h1.2 z9
      refine x_iconst (v := (0 : Int32)) C dX12_within_19 (by decide) ?_
      refine x_goto (tgt := 24) C dX12_within_20 (by decide) ?_
      exact kp_X12_within_24 h x1 (0 : Int32) (some h) S12 C N hg  h1
  · have h1 := h1.2 z9
    refine x_iconst (v := (1 : Int32)) C dX12_within_8 (by decide) ?_
    refine x_goto (tgt := 24) C dX12_within_9 (by decide) ?_
    exact kp_X12_within_24 h x1 (1 : Int32) (some h) S9 C N hg  h1
theorem kp_X12_within_met {h : Nat} {x1 : Int32} {S : xm_S} {g : Int32 → xm_S → Prop}  (h1 : wp_X12_within h x1 S g) : xm_Met yX12_within cX12_within 2 (some (FieldType.int)) rm_X12_within [xm_r (some h), xm_i x1] S (xm_qi g) xm_nox :=
  xm_ofW RX12 (by decide +kernel) rfl (Nat.le_of_ble_eq_true rfl) (fun K C N hq hx hi => kp_X12_within h x1 S C N (fun v S h => by rw [hq]; exact ⟨v, rfl, h⟩)  h1)
def rm_X12_yank : Room := { frames := 4, cells := 0, slots := 0, locals := 84 }
theorem dX12_yank_0 : decode cX12_yank 0 = .ok (.aload_n 0, 1) := by decide +kernel
theorem dX12_yank_1 : decode cX12_yank 1 = .ok (.aload_n 0, 1) := by decide +kernel
theorem dX12_yank_2 : decode cX12_yank 2 = .ok (.iload_n 1, 1) := by decide +kernel
theorem dX12_yank_3 : decode cX12_yank 3 = .ok (.iload_n 2, 1) := by decide +kernel
theorem dX12_yank_4 : decode cX12_yank 4 = .ok (.invokevirtual 237, 3) := by decide +kernel
theorem dX12_yank_7 : decode cX12_yank 7 = .ok (.ifCond .eq 7, 3) := by decide +kernel
theorem dX12_yank_10 : decode cX12_yank 10 = .ok (.iconst 0, 1) := by decide +kernel
theorem dX12_yank_11 : decode cX12_yank 11 = .ok (.goto 4, 3) := by decide +kernel
theorem dX12_yank_14 : decode cX12_yank 14 = .ok (.iconst 1, 1) := by decide +kernel
theorem dX12_yank_15 : decode cX12_yank 15 = .ok (.invokevirtual 182, 3) := by decide +kernel
theorem dX12_yank_18 : decode cX12_yank 18 = .ok (.ifCond .ne 5, 3) := by decide +kernel
theorem dX12_yank_21 : decode cX12_yank 21 = .ok (.iconst 0, 1) := by decide +kernel
theorem dX12_yank_22 : decode cX12_yank 22 = .ok (.ireturn, 1) := by decide +kernel
theorem dX12_yank_23 : decode cX12_yank 23 = .ok (.aload_n 0, 1) := by decide +kernel
theorem dX12_yank_24 : decode cX12_yank 24 = .ok (.getfield 28, 3) := by decide +kernel
theorem dX12_yank_27 : decode cX12_yank 27 = .ok (.iconst 4, 1) := by decide +kernel
theorem dX12_yank_28 : decode cX12_yank 28 = .ok (.iload_n 1, 1) := by decide +kernel
theorem dX12_yank_29 : decode cX12_yank 29 = .ok (.imul, 1) := by decide +kernel
theorem dX12_yank_30 : decode cX12_yank 30 = .ok (.iload_n 2, 1) := by decide +kernel
theorem dX12_yank_31 : decode cX12_yank 31 = .ok (.iadd, 1) := by decide +kernel
theorem dX12_yank_32 : decode cX12_yank 32 = .ok (.baload, 1) := by decide +kernel
theorem dX12_yank_33 : decode cX12_yank 33 = .ok (.istore 4, 2) := by decide +kernel
theorem dX12_yank_35 : decode cX12_yank 35 = .ok (.aload_n 0, 1) := by decide +kernel
theorem dX12_yank_36 : decode cX12_yank 36 = .ok (.getfield 28, 3) := by decide +kernel
theorem dX12_yank_39 : decode cX12_yank 39 = .ok (.iconst 4, 1) := by decide +kernel
theorem dX12_yank_40 : decode cX12_yank 40 = .ok (.iload_n 1, 1) := by decide +kernel
theorem dX12_yank_41 : decode cX12_yank 41 = .ok (.imul, 1) := by decide +kernel
theorem dX12_yank_42 : decode cX12_yank 42 = .ok (.iload_n 2, 1) := by decide +kernel
theorem dX12_yank_43 : decode cX12_yank 43 = .ok (.iadd, 1) := by decide +kernel
theorem dX12_yank_44 : decode cX12_yank 44 = .ok (.iload_n 3, 1) := by decide +kernel
theorem dX12_yank_45 : decode cX12_yank 45 = .ok (.bastore, 1) := by decide +kernel
theorem dX12_yank_46 : decode cX12_yank 46 = .ok (.iload 4, 2) := by decide +kernel
theorem dX12_yank_48 : decode cX12_yank 48 = .ok (.ireturn, 1) := by decide +kernel
def wp_X12_yank_15 (h : Nat) (x1 : Int32) (x2 : Int32) (x3 : Int32) (s0 : Int32) (s1 : Option Nat) (S : xm_S) (g : Int32 → xm_S → Prop) : Prop :=
  ∃ n1, s1 = some n1 ∧ st_t S n1 = some (12, 0) ∧ wp_X12_may n1 s0 S (fun r5 S4 => (¬ r5 = 0 → st_t S4 h = some (12, 0) ∧ ∃ n7, (st_r S4 h 7) = some n7 ∧ ∃ z10, st_t S4 n7 = some (101, z10) ∧ vp_in (((nI 4) * x1) + x2) z10 ∧ ∀ y12, y12 = (st_i S4 n7 ((((nI 4) * x1) + x2)).toNatClampNeg) → ∃ n14, (st_r S4 h 7) = some n14 ∧ ∃ z17, st_t S4 n14 = some (101, z17) ∧ vp_in (((nI 4) * x1) + x2) z17 ∧ (x3 = 0 ∨ x3 = 1) ∧ ∀ S20, S20 = st_pi S4 n14 ((((nI 4) * x1) + x2)).toNatClampNeg x3 → (y12 = 0 ∨ y12 = 1) ∧ g y12 S20) ∧ (r5 = 0 → g (0 : Int32) S4))
set_option maxRecDepth 100000 in
set_option maxHeartbeats 4000000 in
theorem kp_X12_yank_15 {K : xm_K} (h : Nat) (x1 : Int32) (x2 : Int32) (x3 : Int32) (s0 : Int32) (s1 : Option Nat) (S : xm_S) {g : Int32 → xm_S → Prop} (C : xm_Cx K cX12_yank RX12 5 (some (FieldType.boolean)) rm_X12_yank) (N : xm_Nx K) (hg : ∀ v S, g v S → xm_q K (some (xm_i v)) S)  (h1 : wp_X12_yank_15 h x1 x2 x3 s0 s1 S g) : xm_W K 0 0 15 [(0, xm_r (some h)), (1, xm_i x1), (2, xm_i x2), (3, xm_i x3)] [xm_i s0, xm_r s1] S := by
  unfold wp_X12_yank_15 at h1
  obtain ⟨n1, hr2, h1⟩ := h1
  obtain ⟨ht3, h1⟩ := h1
  refine x_callV (rm' := rm_X12_may) (n := n1) C (kp_X12_may_met h1) lk_95 gw_572 gw_573 xv_12 rfl hr2 ht3 rfl (Nat.le_of_ble_eq_true rfl) ⟨Nat.le_of_ble_eq_true rfl, Nat.le_of_ble_eq_true rfl, (Nat.le_of_ble_eq_true rfl), (Nat.le_of_ble_eq_true rfl)⟩ dX12_yank_15 xm_kx (xm_ki (fun r5 S4 h1 => ?_))
  refine x_if_ne (tgt := 23) C dX12_yank_18 (by decide) (fun z9 => ?_) (fun z9 => ?_)
  · have h1 := h1.1 z9
    refine x_aload_n C 0 dX12_yank_23 rfl rfl ?_
    obtain ⟨ht6, h1⟩ := h1
    refine x_getf_r (n := h) C rfl ht6 fd_192 (by decide) dX12_yank_24 ?_
    refine x_iconst (v := (nI 4)) C dX12_yank_27 (by decide) ?_
    refine x_iload_n C 1 dX12_yank_28 rfl rfl ?_
    refine x_imul C dX12_yank_29 ?_
    refine x_iload_n C 2 dX12_yank_30 rfl rfl ?_
    refine x_iadd C dX12_yank_31 ?_
    obtain ⟨n7, hr8, h1⟩ := h1
    obtain ⟨z10, ht9, h1⟩ := h1
    obtain ⟨hi11, h1⟩ := h1
    refine x_zald (n := n7) C hr8 ht9 hi11 dX12_yank_32 ?_
    refine x_topi (fun y12 e13 => ?_)
    have h1 := h1 y12 e13
    refine x_istore (L' := [(4, xm_i y12), (0, xm_r (some h)), (1, xm_i x1), (2, xm_i x2), (3, xm_i x3)]) C dX12_yank_33 (by decide) rfl ?_
    refine x_aload_n C 1 dX12_yank_35 rfl rfl ?_
    refine x_getf_r (n := h) C rfl ht6 fd_192 (by decide) dX12_yank_36 ?_
    refine x_iconst (v := (nI 4)) C dX12_yank_39 (by decide) ?_
    refine x_iload_n C 2 dX12_yank_40 rfl rfl ?_
    refine x_imul C dX12_yank_41 ?_
    refine x_iload_n C 3 dX12_yank_42 rfl rfl ?_
    refine x_iadd C dX12_yank_43 ?_
    refine x_iload_n C 4 dX12_yank_44 rfl rfl ?_
    obtain ⟨n14, hr15, h1⟩ := h1
    obtain ⟨z17, ht16, h1⟩ := h1
    obtain ⟨hi18, h1⟩ := h1
    obtain ⟨hz19, h1⟩ := h1
    refine x_zast (n := n14) C hr15 ht16 hi18 hz19 dX12_yank_45 ?_
    refine x_topS (fun S20 e21 => ?_)
    have h1 := h1 S20 e21
    refine x_iload C 0 dX12_yank_46 rfl ?_
    exact x_zret C (Nat.le_of_ble_eq_true rfl) (Nat.le_of_ble_eq_true rfl) rfl h1.1 dX12_yank_48 (hg _ _ h1.2)
  · have h1 := h1.2 z9
    refine x_iconst (v := (0 : Int32)) C dX12_yank_21 (by decide) ?_
    exact x_zret C (Nat.le_of_ble_eq_true rfl) (Nat.le_of_ble_eq_true rfl) rfl (by decide) dX12_yank_22 (hg _ _ h1)
def wp_X12_yank (h : Nat) (x1 : Int32) (x2 : Int32) (x3 : Int32) (S : xm_S) (g : Int32 → xm_S → Prop) : Prop :=
  st_t S h = some (12, 0) ∧ wp_X12_isVersion h x1 x2 S (fun r24 S23 => (r24 = 0 → wp_X12_yank_15 h x1 x2 x3 (1 : Int32) (some h) S23 g) ∧ (¬ r24 = 0 → wp_X12_yank_15 h x1 x2 x3 (0 : Int32) (some h) S23 g))
set_option maxRecDepth 100000 in
set_option maxHeartbeats 4000000 in
theorem kp_X12_yank {K : xm_K} (h : Nat) (x1 : Int32) (x2 : Int32) (x3 : Int32) (S : xm_S) {g : Int32 → xm_S → Prop} (C : xm_Cx K cX12_yank RX12 5 (some (FieldType.boolean)) rm_X12_yank) (N : xm_Nx K) (hg : ∀ v S, g v S → xm_q K (some (xm_i v)) S)  (h1 : wp_X12_yank h x1 x2 x3 S g) : xm_W K 0 0 0 [(0, xm_r (some h)), (1, xm_i x1), (2, xm_i x2), (3, xm_i x3)] [] S := by
  unfold wp_X12_yank at h1
  refine x_aload_n C 0 dX12_yank_0 rfl rfl ?_
  refine x_aload_n C 0 dX12_yank_1 rfl rfl ?_
  refine x_iload_n C 1 dX12_yank_2 rfl rfl ?_
  refine x_iload_n C 2 dX12_yank_3 rfl rfl ?_
  obtain ⟨ht22, h1⟩ := h1
  refine x_callV (rm' := rm_X12_isVersion) (n := h) C (kp_X12_isVersion_met h1) lk_119 gw_699 gw_700 xv_12 rfl rfl ht22 rfl (Nat.le_of_ble_eq_true rfl) ⟨Nat.le_of_ble_eq_true rfl, Nat.le_of_ble_eq_true rfl, (Nat.le_of_ble_eq_true rfl), (Nat.le_of_ble_eq_true rfl)⟩ dX12_yank_4 xm_kx (xm_ki (fun r24 S23 h1 => ?_))
  refine x_if_eq (tgt := 14) C dX12_yank_7 (by decide) (fun z9 => ?_) (fun z9 => ?_)
  · have h1 := h1.1 z9
    refine x_iconst (v := (1 : Int32)) C dX12_yank_14 (by decide) ?_
    exact kp_X12_yank_15 h x1 x2 x3 (1 : Int32) (some h) S23 C N hg  h1
  · have h1 := h1.2 z9
    refine x_iconst (v := (0 : Int32)) C dX12_yank_10 (by decide) ?_
    refine x_goto (tgt := 15) C dX12_yank_11 (by decide) ?_
    exact kp_X12_yank_15 h x1 x2 x3 (0 : Int32) (some h) S23 C N hg  h1
theorem kp_X12_yank_met {h : Nat} {x1 : Int32} {x2 : Int32} {x3 : Int32} {S : xm_S} {g : Int32 → xm_S → Prop}  (h1 : wp_X12_yank h x1 x2 x3 S g) : xm_Met yX12_yank cX12_yank 5 (some (FieldType.boolean)) rm_X12_yank [xm_r (some h), xm_i x1, xm_i x2, xm_i x3] S (xm_qi g) xm_nox :=
  xm_ofW RX12 (by decide +kernel) rfl (Nat.le_of_ble_eq_true rfl) (fun K C N hq hx hi => kp_X12_yank h x1 x2 x3 S C N (fun v S h => by rw [hq]; exact ⟨v, rfl, h⟩)  h1)
def rm_L_advise : Room := { frames := 8, cells := 135, slots := 477, locals := 173 }
theorem dL_advise_0 : decode cL_advise 0 = .ok (.aload_n 3, 1) := by decide +kernel
theorem dL_advise_1 : decode cL_advise 1 = .ok (.iconst 0, 1) := by decide +kernel
theorem dL_advise_2 : decode cL_advise 2 = .ok (.aload_n 0, 1) := by decide +kernel
theorem dL_advise_3 : decode cL_advise 3 = .ok (.iload_n 1, 1) := by decide +kernel
theorem dL_advise_4 : decode cL_advise 4 = .ok (.iload_n 2, 1) := by decide +kernel
theorem dL_advise_5 : decode cL_advise 5 = .ok (.invokevirtual 78, 3) := by decide +kernel
theorem dL_advise_8 : decode cL_advise 8 = .ok (.i2l, 1) := by decide +kernel
theorem dL_advise_9 : decode cL_advise 9 = .ok (.lastore, 1) := by decide +kernel
theorem dL_advise_10 : decode cL_advise 10 = .ok (.goto 15, 3) := by decide +kernel
theorem dL_advise_13 : decode cL_advise 13 = .ok (.astore 4, 2) := by decide +kernel
theorem dL_advise_15 : decode cL_advise 15 = .ok (.iconst 1, 1) := by decide +kernel
theorem dL_advise_16 : decode cL_advise 16 = .ok (.ireturn, 1) := by decide +kernel
theorem dL_advise_17 : decode cL_advise 17 = .ok (.astore 4, 2) := by decide +kernel
theorem dL_advise_19 : decode cL_advise 19 = .ok (.iconst 2, 1) := by decide +kernel
theorem dL_advise_20 : decode cL_advise 20 = .ok (.ireturn, 1) := by decide +kernel
theorem dL_advise_21 : decode cL_advise 21 = .ok (.astore 4, 2) := by decide +kernel
theorem dL_advise_23 : decode cL_advise 23 = .ok (.iconst 3, 1) := by decide +kernel
theorem dL_advise_24 : decode cL_advise 24 = .ok (.ireturn, 1) := by decide +kernel
theorem dL_advise_25 : decode cL_advise 25 = .ok (.iconst 0, 1) := by decide +kernel
theorem dL_advise_26 : decode cL_advise 26 = .ok (.ireturn, 1) := by decide +kernel
def wp_L_advise (x0 : Option Nat) (x1 : Int32) (x2 : Int32) (x3 : Option Nat) (S : xm_S) (g : Int32 → xm_S → Prop) : Prop :=
  ∃ n1, x0 = some n1 ∧ st_t S n1 = some (11, 0) ∧ wp_X11_advise n1 x1 x2 S (fun r5 S4 => ∃ n6, x3 = some n6 ∧ ∃ z9, st_t S4 n6 = some (103, z9) ∧ vp_in (0 : Int32) z9 ∧ ∀ S11, S11 = st_pl S4 n6 ((0 : Int32)).toNatClampNeg ((r5).toInt64) → g (0 : Int32) S11) (fun X9 S9 => (X9 = xm_eI ∧ g (1 : Int32) S9) ∨ (X9 = xm_eA ∧ g (nI 2) S9) ∨ (X9 = xm_eS ∧ g (nI 3) S9))
set_option maxRecDepth 100000 in
set_option maxHeartbeats 4000000 in
theorem kp_L_advise {K : xm_K} (x0 : Option Nat) (x1 : Int32) (x2 : Int32) (x3 : Option Nat) (S : xm_S) {g : Int32 → xm_S → Prop} (C : xm_Cx K cL_advise RL 5 (some (FieldType.int)) rm_L_advise) (N : xm_Hx K [(0, 10, 13, 21), (0, 10, 17, 13), (0, 10, 21, 15)]) (hg : ∀ v S, g v S → xm_q K (some (xm_i v)) S)  (h1 : wp_L_advise x0 x1 x2 x3 S g) : xm_W K 0 0 0 [(0, xm_r x0), (1, xm_i x1), (2, xm_i x2), (3, xm_r x3)] [] S := by
  unfold wp_L_advise at h1
  refine x_aload_n C 3 dL_advise_0 rfl rfl ?_
  refine x_iconst (v := (0 : Int32)) C dL_advise_1 (by decide) ?_
  refine x_aload_n C 0 dL_advise_2 rfl rfl ?_
  refine x_iload_n C 1 dL_advise_3 rfl rfl ?_
  refine x_iload_n C 2 dL_advise_4 rfl rfl ?_
  obtain ⟨n1, hr2, h1⟩ := h1
  obtain ⟨ht3, h1⟩ := h1
  refine x_callV (rm' := rm_X11_advise) (n := n1) C (kp_X11_advise_met h1) lk_135 gw_789 gw_790 xv_11 rfl hr2 ht3 rfl (Nat.le_of_ble_eq_true rfl) ⟨Nat.le_of_ble_eq_true rfl, Nat.le_of_ble_eq_true rfl, (Nat.le_of_ble_eq_true rfl), (Nat.le_of_ble_eq_true rfl)⟩ dL_advise_5 (fun X9 S9 hx9 => ?_) (xm_ki (fun r5 S4 h1 => ?_))
  · rcases hx9 with ⟨rfl, h1⟩ | ⟨rfl, h1⟩ | ⟨rfl, h1⟩
    · refine x_catch (hh := [(0, 10, 13, 21), (0, 10, 17, 13), (0, 10, 21, 15)]) (pre := []) (suf := [(0, 10, 17, 13), (0, 10, 21, 15)]) (a := 0) (b := 10) (hp := 13) (ct := 21) C N th_I_in rfl (fun _ h => absurd h List.not_mem_nil) (by decide) (by decide) gw_791 (fun q9 => ?_)
      refine x_astore_w (L' := [(4, xm_w0 q9), (0, xm_r x0), (1, xm_i x1), (2, xm_i x2), (3, xm_r x3)]) C dL_advise_13 (by decide) rfl ?_
      refine x_iconst (v := (1 : Int32)) C dL_advise_15 (by decide) ?_
      exact x_iret C (Nat.le_of_ble_eq_true rfl) (Nat.le_of_ble_eq_true rfl) rfl dL_advise_16 (hg _ _ h1)
    · refine x_catch (hh := [(0, 10, 13, 21), (0, 10, 17, 13), (0, 10, 21, 15)]) (pre := [(0, 10, 13, 21)]) (suf := [(0, 10, 21, 15)]) (a := 0) (b := 10) (hp := 17) (ct := 13) C N th_A_in rfl (List.forall_mem_cons.mpr ⟨⟨by decide, xm_eI, th_I_in, by decide +kernel, gw_791⟩, fun _ h => absurd h List.not_mem_nil⟩) (by decide) (by decide) gw_792 (fun q9 => ?_)
      refine x_astore_w (L' := [(4, xm_w0 q9), (0, xm_r x0), (1, xm_i x1), (2, xm_i x2), (3, xm_r x3)]) C dL_advise_17 (by decide) rfl ?_
      refine x_iconst (v := (nI 2)) C dL_advise_19 (by decide) ?_
      exact x_iret C (Nat.le_of_ble_eq_true rfl) (Nat.le_of_ble_eq_true rfl) rfl dL_advise_20 (hg _ _ h1)
    · refine x_catch (hh := [(0, 10, 13, 21), (0, 10, 17, 13), (0, 10, 21, 15)]) (pre := [(0, 10, 13, 21), (0, 10, 17, 13)]) (suf := []) (a := 0) (b := 10) (hp := 21) (ct := 15) C N th_S_in rfl (List.forall_mem_cons.mpr ⟨⟨by decide, xm_eI, th_I_in, by decide +kernel, gw_791⟩, List.forall_mem_cons.mpr ⟨⟨by decide, xm_eA, th_A_in, by decide +kernel, gw_792⟩, fun _ h => absurd h List.not_mem_nil⟩⟩) (by decide) (by decide) gw_793 (fun q9 => ?_)
      refine x_astore_w (L' := [(4, xm_w0 q9), (0, xm_r x0), (1, xm_i x1), (2, xm_i x2), (3, xm_r x3)]) C dL_advise_21 (by decide) rfl ?_
      refine x_iconst (v := (nI 3)) C dL_advise_23 (by decide) ?_
      exact x_iret C (Nat.le_of_ble_eq_true rfl) (Nat.le_of_ble_eq_true rfl) rfl dL_advise_24 (hg _ _ h1)
  · skip
    refine x_i2l C dL_advise_8 ?_
    obtain ⟨n6, hr7, h1⟩ := h1
    obtain ⟨z9, ht8, h1⟩ := h1
    obtain ⟨hi10, h1⟩ := h1
    refine x_last (n := n6) C hr7 ht8 hi10 dL_advise_9 ?_
    refine x_topS (fun S11 e12 => ?_)
    have h1 := h1 S11 e12
    refine x_goto (tgt := 25) C dL_advise_10 (by decide) ?_
    refine x_iconst (v := (0 : Int32)) C dL_advise_25 (by decide) ?_
    exact x_iret C (Nat.le_of_ble_eq_true rfl) (Nat.le_of_ble_eq_true rfl) rfl dL_advise_26 (hg _ _ h1)
theorem kp_L_advise_met {x0 : Option Nat} {x1 : Int32} {x2 : Int32} {x3 : Option Nat} {S : xm_S} {g : Int32 → xm_S → Prop} (h1 : wp_L_advise x0 x1 x2 x3 S g) : xm_MetH yL_advise cL_advise 5 (some (FieldType.int)) [(0, 10, 13, 21), (0, 10, 17, 13), (0, 10, 21, 15)] rm_L_advise [xm_r x0, xm_i x1, xm_i x2, xm_r x3] S (xm_qi g) xm_nox :=
  xm_ofWH RL (by decide +kernel) rfl (Nat.le_of_ble_eq_true rfl) (fun K C N hq hx => kp_L_advise x0 x1 x2 x3 S C N (fun v S h => by rw [hq]; exact ⟨v, rfl, h⟩)  h1)
def rm_L_advised : Room := { frames := 8, cells := 2, slots := 12, locals := 148 }
theorem dL_advised_0 : decode cL_advised 0 = .ok (.aload_n 3, 1) := by decide +kernel
theorem dL_advised_1 : decode cL_advised 1 = .ok (.iconst 0, 1) := by decide +kernel
theorem dL_advised_2 : decode cL_advised 2 = .ok (.aload_n 0, 1) := by decide +kernel
theorem dL_advised_3 : decode cL_advised 3 = .ok (.iload_n 1, 1) := by decide +kernel
theorem dL_advised_4 : decode cL_advised 4 = .ok (.iload_n 2, 1) := by decide +kernel
theorem dL_advised_5 : decode cL_advised 5 = .ok (.invokevirtual 81, 3) := by decide +kernel
theorem dL_advised_8 : decode cL_advised 8 = .ok (.i2l, 1) := by decide +kernel
theorem dL_advised_9 : decode cL_advised 9 = .ok (.lastore, 1) := by decide +kernel
theorem dL_advised_10 : decode cL_advised 10 = .ok (.goto 11, 3) := by decide +kernel
theorem dL_advised_13 : decode cL_advised 13 = .ok (.astore 4, 2) := by decide +kernel
theorem dL_advised_15 : decode cL_advised 15 = .ok (.iconst 1, 1) := by decide +kernel
theorem dL_advised_16 : decode cL_advised 16 = .ok (.ireturn, 1) := by decide +kernel
theorem dL_advised_17 : decode cL_advised 17 = .ok (.astore 4, 2) := by decide +kernel
theorem dL_advised_19 : decode cL_advised 19 = .ok (.iconst 2, 1) := by decide +kernel
theorem dL_advised_20 : decode cL_advised 20 = .ok (.ireturn, 1) := by decide +kernel
theorem dL_advised_21 : decode cL_advised 21 = .ok (.iconst 0, 1) := by decide +kernel
theorem dL_advised_22 : decode cL_advised 22 = .ok (.ireturn, 1) := by decide +kernel
def wp_L_advised (x0 : Option Nat) (x1 : Int32) (x2 : Int32) (x3 : Option Nat) (S : xm_S) (g : Int32 → xm_S → Prop) : Prop :=
  ∃ n1, x0 = some n1 ∧ st_t S n1 = some (11, 0) ∧ wp_X11_advised n1 x1 x2 S (fun r5 S4 => ∃ n6, x3 = some n6 ∧ ∃ z9, st_t S4 n6 = some (103, z9) ∧ vp_in (0 : Int32) z9 ∧ ∀ S11, S11 = st_pl S4 n6 ((0 : Int32)).toNatClampNeg ((r5).toInt64) → g (0 : Int32) S11) (fun X9 S9 => (X9 = xm_eI ∧ g (1 : Int32) S9) ∨ (X9 = xm_eA ∧ g (nI 2) S9))
set_option maxRecDepth 100000 in
set_option maxHeartbeats 4000000 in
theorem kp_L_advised {K : xm_K} (x0 : Option Nat) (x1 : Int32) (x2 : Int32) (x3 : Option Nat) (S : xm_S) {g : Int32 → xm_S → Prop} (C : xm_Cx K cL_advised RL 5 (some (FieldType.int)) rm_L_advised) (N : xm_Hx K [(0, 10, 13, 21), (0, 10, 17, 13)]) (hg : ∀ v S, g v S → xm_q K (some (xm_i v)) S)  (h1 : wp_L_advised x0 x1 x2 x3 S g) : xm_W K 0 0 0 [(0, xm_r x0), (1, xm_i x1), (2, xm_i x2), (3, xm_r x3)] [] S := by
  unfold wp_L_advised at h1
  refine x_aload_n C 3 dL_advised_0 rfl rfl ?_
  refine x_iconst (v := (0 : Int32)) C dL_advised_1 (by decide) ?_
  refine x_aload_n C 0 dL_advised_2 rfl rfl ?_
  refine x_iload_n C 1 dL_advised_3 rfl rfl ?_
  refine x_iload_n C 2 dL_advised_4 rfl rfl ?_
  obtain ⟨n1, hr2, h1⟩ := h1
  obtain ⟨ht3, h1⟩ := h1
  refine x_callV (rm' := rm_X11_advised) (n := n1) C (kp_X11_advised_met h1) lk_136 gw_796 gw_797 xv_11 rfl hr2 ht3 rfl (Nat.le_of_ble_eq_true rfl) ⟨Nat.le_of_ble_eq_true rfl, Nat.le_of_ble_eq_true rfl, (Nat.le_of_ble_eq_true rfl), (Nat.le_of_ble_eq_true rfl)⟩ dL_advised_5 (fun X9 S9 hx9 => ?_) (xm_ki (fun r5 S4 h1 => ?_))
  · rcases hx9 with ⟨rfl, h1⟩ | ⟨rfl, h1⟩
    · refine x_catch (hh := [(0, 10, 13, 21), (0, 10, 17, 13)]) (pre := []) (suf := [(0, 10, 17, 13)]) (a := 0) (b := 10) (hp := 13) (ct := 21) C N th_I_in rfl (fun _ h => absurd h List.not_mem_nil) (by decide) (by decide) gw_791 (fun q9 => ?_)
      refine x_astore_w (L' := [(4, xm_w0 q9), (0, xm_r x0), (1, xm_i x1), (2, xm_i x2), (3, xm_r x3)]) C dL_advised_13 (by decide) rfl ?_
      refine x_iconst (v := (1 : Int32)) C dL_advised_15 (by decide) ?_
      exact x_iret C (Nat.le_of_ble_eq_true rfl) (Nat.le_of_ble_eq_true rfl) rfl dL_advised_16 (hg _ _ h1)
    · refine x_catch (hh := [(0, 10, 13, 21), (0, 10, 17, 13)]) (pre := [(0, 10, 13, 21)]) (suf := []) (a := 0) (b := 10) (hp := 17) (ct := 13) C N th_A_in rfl (List.forall_mem_cons.mpr ⟨⟨by decide, xm_eI, th_I_in, by decide +kernel, gw_791⟩, fun _ h => absurd h List.not_mem_nil⟩) (by decide) (by decide) gw_792 (fun q9 => ?_)
      refine x_astore_w (L' := [(4, xm_w0 q9), (0, xm_r x0), (1, xm_i x1), (2, xm_i x2), (3, xm_r x3)]) C dL_advised_17 (by decide) rfl ?_
      refine x_iconst (v := (nI 2)) C dL_advised_19 (by decide) ?_
      exact x_iret C (Nat.le_of_ble_eq_true rfl) (Nat.le_of_ble_eq_true rfl) rfl dL_advised_20 (hg _ _ h1)
  · skip
    refine x_i2l C dL_advised_8 ?_
    obtain ⟨n6, hr7, h1⟩ := h1
    obtain ⟨z9, ht8, h1⟩ := h1
    obtain ⟨hi10, h1⟩ := h1
    refine x_last (n := n6) C hr7 ht8 hi10 dL_advised_9 ?_
    refine x_topS (fun S11 e12 => ?_)
    have h1 := h1 S11 e12
    refine x_goto (tgt := 21) C dL_advised_10 (by decide) ?_
    refine x_iconst (v := (0 : Int32)) C dL_advised_21 (by decide) ?_
    exact x_iret C (Nat.le_of_ble_eq_true rfl) (Nat.le_of_ble_eq_true rfl) rfl dL_advised_22 (hg _ _ h1)
theorem kp_L_advised_met {x0 : Option Nat} {x1 : Int32} {x2 : Int32} {x3 : Option Nat} {S : xm_S} {g : Int32 → xm_S → Prop} (h1 : wp_L_advised x0 x1 x2 x3 S g) : xm_MetH yL_advised cL_advised 5 (some (FieldType.int)) [(0, 10, 13, 21), (0, 10, 17, 13)] rm_L_advised [xm_r x0, xm_i x1, xm_i x2, xm_r x3] S (xm_qi g) xm_nox :=
  xm_ofWH RL (by decide +kernel) rfl (Nat.le_of_ble_eq_true rfl) (fun K C N hq hx => kp_L_advised x0 x1 x2 x3 S C N (fun v S h => by rw [hq]; exact ⟨v, rfl, h⟩)  h1)
def rm_L_closures : Room := { frames := 39, cells := 1, slots := 6, locals := 2171 }
theorem dL_closures_0 : decode cL_closures 0 = .ok (.aload_n 2, 1) := by decide +kernel
theorem dL_closures_1 : decode cL_closures 1 = .ok (.iconst 0, 1) := by decide +kernel
theorem dL_closures_2 : decode cL_closures 2 = .ok (.aload_n 0, 1) := by decide +kernel
theorem dL_closures_3 : decode cL_closures 3 = .ok (.iload_n 1, 1) := by decide +kernel
theorem dL_closures_4 : decode cL_closures 4 = .ok (.invokevirtual 62, 3) := by decide +kernel
theorem dL_closures_7 : decode cL_closures 7 = .ok (.i2l, 1) := by decide +kernel
theorem dL_closures_8 : decode cL_closures 8 = .ok (.lastore, 1) := by decide +kernel
theorem dL_closures_9 : decode cL_closures 9 = .ok (.goto 6, 3) := by decide +kernel
theorem dL_closures_12 : decode cL_closures 12 = .ok (.astore_n 3, 1) := by decide +kernel
theorem dL_closures_13 : decode cL_closures 13 = .ok (.iconst 1, 1) := by decide +kernel
theorem dL_closures_14 : decode cL_closures 14 = .ok (.ireturn, 1) := by decide +kernel
theorem dL_closures_15 : decode cL_closures 15 = .ok (.iconst 0, 1) := by decide +kernel
theorem dL_closures_16 : decode cL_closures 16 = .ok (.ireturn, 1) := by decide +kernel
def wp_L_closures (x0 : Option Nat) (x1 : Int32) (x2 : Option Nat) (S : xm_S) (g : Int32 → xm_S → Prop) : Prop :=
  ∃ n1, x0 = some n1 ∧ st_t S n1 = some (11, 0) ∧ wp_X11_closures n1 x1 S (fun r5 S4 => ∃ n6, x2 = some n6 ∧ ∃ z9, st_t S4 n6 = some (103, z9) ∧ vp_in (0 : Int32) z9 ∧ ∀ S11, S11 = st_pl S4 n6 ((0 : Int32)).toNatClampNeg ((r5).toInt64) → g (0 : Int32) S11) (fun X9 S9 => (X9 = xm_eI ∧ g (1 : Int32) S9))
set_option maxRecDepth 100000 in
set_option maxHeartbeats 4000000 in
theorem kp_L_closures {K : xm_K} (x0 : Option Nat) (x1 : Int32) (x2 : Option Nat) (S : xm_S) {g : Int32 → xm_S → Prop} (C : xm_Cx K cL_closures RL 4 (some (FieldType.int)) rm_L_closures) (N : xm_Hx K [(0, 9, 12, 21)]) (hg : ∀ v S, g v S → xm_q K (some (xm_i v)) S)  (h1 : wp_L_closures x0 x1 x2 S g) : xm_W K 0 0 0 [(0, xm_r x0), (1, xm_i x1), (2, xm_r x2)] [] S := by
  unfold wp_L_closures at h1
  refine x_aload_n C 2 dL_closures_0 rfl rfl ?_
  refine x_iconst (v := (0 : Int32)) C dL_closures_1 (by decide) ?_
  refine x_aload_n C 0 dL_closures_2 rfl rfl ?_
  refine x_iload_n C 1 dL_closures_3 rfl rfl ?_
  obtain ⟨n1, hr2, h1⟩ := h1
  obtain ⟨ht3, h1⟩ := h1
  refine x_callV (rm' := rm_X11_closures) (n := n1) C (kp_X11_closures_met h1) lk_137 gw_800 gw_801 xv_11 rfl hr2 ht3 rfl (Nat.le_of_ble_eq_true rfl) ⟨Nat.le_of_ble_eq_true rfl, Nat.le_of_ble_eq_true rfl, (Nat.le_of_ble_eq_true rfl), (Nat.le_of_ble_eq_true rfl)⟩ dL_closures_4 (fun X9 S9 hx9 => ?_) (xm_ki (fun r5 S4 h1 => ?_))
  · obtain ⟨rfl, h1⟩ := hx9
    refine x_catch (hh := [(0, 9, 12, 21)]) (pre := []) (suf := []) (a := 0) (b := 9) (hp := 12) (ct := 21) C N th_I_in rfl (fun _ h => absurd h List.not_mem_nil) (by decide) (by decide) gw_791 (fun q9 => ?_)
    refine x_astore_n_w (L' := [(3, xm_w0 q9), (0, xm_r x0), (1, xm_i x1), (2, xm_r x2)]) C dL_closures_12 rfl (by decide) rfl ?_
    refine x_iconst (v := (1 : Int32)) C dL_closures_13 (by decide) ?_
    exact x_iret C (Nat.le_of_ble_eq_true rfl) (Nat.le_of_ble_eq_true rfl) rfl dL_closures_14 (hg _ _ h1)
  · skip
    refine x_i2l C dL_closures_7 ?_
    obtain ⟨n6, hr7, h1⟩ := h1
    obtain ⟨z9, ht8, h1⟩ := h1
    obtain ⟨hi10, h1⟩ := h1
    refine x_last (n := n6) C hr7 ht8 hi10 dL_closures_8 ?_
    refine x_topS (fun S11 e12 => ?_)
    have h1 := h1 S11 e12
    refine x_goto (tgt := 15) C dL_closures_9 (by decide) ?_
    refine x_iconst (v := (0 : Int32)) C dL_closures_15 (by decide) ?_
    exact x_iret C (Nat.le_of_ble_eq_true rfl) (Nat.le_of_ble_eq_true rfl) rfl dL_closures_16 (hg _ _ h1)
theorem kp_L_closures_met {x0 : Option Nat} {x1 : Int32} {x2 : Option Nat} {S : xm_S} {g : Int32 → xm_S → Prop} (h1 : wp_L_closures x0 x1 x2 S g) : xm_MetH yL_closures cL_closures 4 (some (FieldType.int)) [(0, 9, 12, 21)] rm_L_closures [xm_r x0, xm_i x1, xm_r x2] S (xm_qi g) xm_nox :=
  xm_ofWH RL (by decide +kernel) rfl (Nat.le_of_ble_eq_true rfl) (fun K C N hq hx => kp_L_closures x0 x1 x2 S C N (fun v S h => by rw [hq]; exact ⟨v, rfl, h⟩)  h1)
