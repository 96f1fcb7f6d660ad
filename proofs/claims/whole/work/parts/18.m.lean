def rm_X12_laysRange : Room := { frames := 8, cells := 0, slots := 0, locals := 179 }
theorem dX12_laysRange_0 : decode cX12_laysRange 0 = .ok (.aload_n 0, 1) := by decide +kernel
theorem dX12_laysRange_1 : decode cX12_laysRange 1 = .ok (.getfield 93, 3) := by decide +kernel
theorem dX12_laysRange_4 : decode cX12_laysRange 4 = .ok (.iload_n 1, 1) := by decide +kernel
theorem dX12_laysRange_5 : decode cX12_laysRange 5 = .ok (.aload_n 0, 1) := by decide +kernel
theorem dX12_laysRange_6 : decode cX12_laysRange 6 = .ok (.iload_n 1, 1) := by decide +kernel
theorem dX12_laysRange_7 : decode cX12_laysRange 7 = .ok (.iload_n 2, 1) := by decide +kernel
theorem dX12_laysRange_8 : decode cX12_laysRange 8 = .ok (.invokevirtual 254, 3) := by decide +kernel
theorem dX12_laysRange_11 : decode cX12_laysRange 11 = .ok (.iastore, 1) := by decide +kernel
theorem dX12_laysRange_12 : decode cX12_laysRange 12 = .ok (.aload_n 0, 1) := by decide +kernel
theorem dX12_laysRange_13 : decode cX12_laysRange 13 = .ok (.getfield 96, 3) := by decide +kernel
theorem dX12_laysRange_16 : decode cX12_laysRange 16 = .ok (.iload_n 1, 1) := by decide +kernel
theorem dX12_laysRange_17 : decode cX12_laysRange 17 = .ok (.lconst 0, 1) := by decide +kernel
theorem dX12_laysRange_18 : decode cX12_laysRange 18 = .ok (.lastore, 1) := by decide +kernel
theorem dX12_laysRange_19 : decode cX12_laysRange 19 = .ok (.iconst 0, 1) := by decide +kernel
theorem dX12_laysRange_20 : decode cX12_laysRange 20 = .ok (.istore_n 3, 1) := by decide +kernel
theorem dX12_laysRange_21 : decode cX12_laysRange 21 = .ok (.iload_n 3, 1) := by decide +kernel
theorem dX12_laysRange_22 : decode cX12_laysRange 22 = .ok (.bipush 24, 2) := by decide +kernel
theorem dX12_laysRange_24 : decode cX12_laysRange 24 = .ok (.if_icmp .ge 96, 3) := by decide +kernel
theorem dX12_laysRange_27 : decode cX12_laysRange 27 = .ok (.iconst 2, 1) := by decide +kernel
theorem dX12_laysRange_28 : decode cX12_laysRange 28 = .ok (.iload_n 3, 1) := by decide +kernel
theorem dX12_laysRange_29 : decode cX12_laysRange 29 = .ok (.imul, 1) := by decide +kernel
theorem dX12_laysRange_30 : decode cX12_laysRange 30 = .ok (.istore 4, 2) := by decide +kernel
theorem dX12_laysRange_32 : decode cX12_laysRange 32 = .ok (.iload 4, 2) := by decide +kernel
theorem dX12_laysRange_34 : decode cX12_laysRange 34 = .ok (.iconst 2, 1) := by decide +kernel
theorem dX12_laysRange_35 : decode cX12_laysRange 35 = .ok (.iload_n 3, 1) := by decide +kernel
theorem dX12_laysRange_36 : decode cX12_laysRange 36 = .ok (.imul, 1) := by decide +kernel
theorem dX12_laysRange_37 : decode cX12_laysRange 37 = .ok (.aload_n 0, 1) := by decide +kernel
theorem dX12_laysRange_38 : decode cX12_laysRange 38 = .ok (.getfield 53, 3) := by decide +kernel
theorem dX12_laysRange_41 : decode cX12_laysRange 41 = .ok (.iload_n 3, 1) := by decide +kernel
theorem dX12_laysRange_42 : decode cX12_laysRange 42 = .ok (.iaload, 1) := by decide +kernel
theorem dX12_laysRange_43 : decode cX12_laysRange 43 = .ok (.iadd, 1) := by decide +kernel
theorem dX12_laysRange_44 : decode cX12_laysRange 44 = .ok (.if_icmp .ge 70, 3) := by decide +kernel
theorem dX12_laysRange_47 : decode cX12_laysRange 47 = .ok (.aload_n 0, 1) := by decide +kernel
theorem dX12_laysRange_48 : decode cX12_laysRange 48 = .ok (.getfield 56, 3) := by decide +kernel
theorem dX12_laysRange_51 : decode cX12_laysRange 51 = .ok (.iload 4, 2) := by decide +kernel
theorem dX12_laysRange_53 : decode cX12_laysRange 53 = .ok (.iaload, 1) := by decide +kernel
theorem dX12_laysRange_54 : decode cX12_laysRange 54 = .ok (.iload_n 2, 1) := by decide +kernel
theorem dX12_laysRange_55 : decode cX12_laysRange 55 = .ok (.if_icmp .ne 28, 3) := by decide +kernel
theorem dX12_laysRange_58 : decode cX12_laysRange 58 = .ok (.aload_n 0, 1) := by decide +kernel
theorem dX12_laysRange_59 : decode cX12_laysRange 59 = .ok (.iload_n 1, 1) := by decide +kernel
theorem dX12_laysRange_60 : decode cX12_laysRange 60 = .ok (.aload_n 0, 1) := by decide +kernel
theorem dX12_laysRange_61 : decode cX12_laysRange 61 = .ok (.getfield 7, 3) := by decide +kernel
theorem dX12_laysRange_64 : decode cX12_laysRange 64 = .ok (.iload_n 2, 1) := by decide +kernel
theorem dX12_laysRange_65 : decode cX12_laysRange 65 = .ok (.iaload, 1) := by decide +kernel
theorem dX12_laysRange_66 : decode cX12_laysRange 66 = .ok (.aload_n 0, 1) := by decide +kernel
theorem dX12_laysRange_67 : decode cX12_laysRange 67 = .ok (.getfield 59, 3) := by decide +kernel
theorem dX12_laysRange_70 : decode cX12_laysRange 70 = .ok (.iload 4, 2) := by decide +kernel
theorem dX12_laysRange_72 : decode cX12_laysRange 72 = .ok (.iaload, 1) := by decide +kernel
theorem dX12_laysRange_73 : decode cX12_laysRange 73 = .ok (.invokevirtual 251, 3) := by decide +kernel
theorem dX12_laysRange_76 : decode cX12_laysRange 76 = .ok (.ifCond .eq 7, 3) := by decide +kernel
theorem dX12_laysRange_79 : decode cX12_laysRange 79 = .ok (.iconst 1, 1) := by decide +kernel
theorem dX12_laysRange_80 : decode cX12_laysRange 80 = .ok (.goto 4, 3) := by decide +kernel
theorem dX12_laysRange_83 : decode cX12_laysRange 83 = .ok (.iconst 0, 1) := by decide +kernel
theorem dX12_laysRange_84 : decode cX12_laysRange 84 = .ok (.istore 5, 2) := by decide +kernel
theorem dX12_laysRange_86 : decode cX12_laysRange 86 = .ok (.aload_n 0, 1) := by decide +kernel
theorem dX12_laysRange_87 : decode cX12_laysRange 87 = .ok (.getfield 96, 3) := by decide +kernel
theorem dX12_laysRange_90 : decode cX12_laysRange 90 = .ok (.iload_n 1, 1) := by decide +kernel
theorem dX12_laysRange_91 : decode cX12_laysRange 91 = .ok (.dup2, 1) := by decide +kernel
theorem dX12_laysRange_92 : decode cX12_laysRange 92 = .ok (.laload, 1) := by decide +kernel
theorem dX12_laysRange_93 : decode cX12_laysRange 93 = .ok (.iload 5, 2) := by decide +kernel
theorem dX12_laysRange_95 : decode cX12_laysRange 95 = .ok (.ifCond .eq 10, 3) := by decide +kernel
theorem dX12_laysRange_98 : decode cX12_laysRange 98 = .ok (.lconst 1, 1) := by decide +kernel
theorem dX12_laysRange_99 : decode cX12_laysRange 99 = .ok (.iload 4, 2) := by decide +kernel
theorem dX12_laysRange_101 : decode cX12_laysRange 101 = .ok (.lshl, 1) := by decide +kernel
theorem dX12_laysRange_102 : decode cX12_laysRange 102 = .ok (.goto 4, 3) := by decide +kernel
theorem dX12_laysRange_105 : decode cX12_laysRange 105 = .ok (.lconst 0, 1) := by decide +kernel
theorem dX12_laysRange_106 : decode cX12_laysRange 106 = .ok (.lor, 1) := by decide +kernel
theorem dX12_laysRange_107 : decode cX12_laysRange 107 = .ok (.lastore, 1) := by decide +kernel
theorem dX12_laysRange_108 : decode cX12_laysRange 108 = .ok (.iinc 4 1, 3) := by decide +kernel
theorem dX12_laysRange_111 : decode cX12_laysRange 111 = .ok (.goto (-79), 3) := by decide +kernel
theorem dX12_laysRange_114 : decode cX12_laysRange 114 = .ok (.iinc 3 1, 3) := by decide +kernel
theorem dX12_laysRange_117 : decode cX12_laysRange 117 = .ok (.goto (-96), 3) := by decide +kernel
theorem dX12_laysRange_120 : decode cX12_laysRange 120 = .ok (.return_, 1) := by decide +kernel
def wp_X12_laysRange_106 (h : Nat) (x1 : Int32) (x2 : Int32) (x3 : Int32) (x4 : Int32) (s0 : Int64) (s1 : Int64) (s2 : Int32) (s3 : Option Nat) (S : xm_S) (g : xm_S → Prop) (Z21 : Int32 → Int32 → Int32 → xm_S → Prop) (Z32 : Int32 → Int32 → Int32 → Int32 → xm_S → Prop) : Prop :=
  ∃ n1, s3 = some n1 ∧ ∃ z4, st_t S n1 = some (103, z4) ∧ vp_in s2 z4 ∧ ∀ S6, S6 = st_pl S n1 (s2).toNatClampNeg (s1 ||| s0) → ∀ y8, y8 = (x4 + (1 : Int32)) → Z32 x1 x2 x3 y8 S6
set_option maxRecDepth 100000 in
set_option maxHeartbeats 4000000 in
theorem kp_X12_laysRange_106 {K : xm_K} (h : Nat) (x1 : Int32) (x2 : Int32) (x3 : Int32) (x4 : Int32) (s0 : Int64) (s1 : Int64) (s2 : Int32) (s3 : Option Nat) (S : xm_S) {g : xm_S → Prop} {Z21 : Int32 → Int32 → Int32 → xm_S → Prop} {Z32 : Int32 → Int32 → Int32 → Int32 → xm_S → Prop} (C : xm_Cx K cX12_laysRange RX12 6 none rm_X12_laysRange) (N : xm_Nx K) (hg : ∀ S, g S → xm_q K none S) (hZ21 : ∀ x1 x2 x3 S, Z21 x1 x2 x3 S → xm_W K 0 0 21 [(0, xm_r (some h)), (1, xm_i x1), (2, xm_i x2), (3, xm_i x3)] [] S) (hZ32 : ∀ x1 x2 x3 x4 S, Z32 x1 x2 x3 x4 S → xm_W K 0 0 32 [(0, xm_r (some h)), (1, xm_i x1), (2, xm_i x2), (3, xm_i x3), (4, xm_i x4)] [] S) (h1 : wp_X12_laysRange_106 h x1 x2 x3 x4 s0 s1 s2 s3 S g Z21 Z32) : xm_W K 0 0 106 [(0, xm_r (some h)), (1, xm_i x1), (2, xm_i x2), (3, xm_i x3), (4, xm_i x4)] [xm_l s0, xm_l s1, xm_i s2, xm_r s3] S := by
  unfold wp_X12_laysRange_106 at h1
  refine x_lor C dX12_laysRange_106 ?_
  obtain ⟨n1, hr2, h1⟩ := h1
  obtain ⟨z4, ht3, h1⟩ := h1
  obtain ⟨hi5, h1⟩ := h1
  refine x_last (n := n1) C hr2 ht3 hi5 dX12_laysRange_107 ?_
  refine x_topS (fun S6 e7 => ?_)
  have h1 := h1 S6 e7
  obtain ⟨y8, e9⟩ : ∃ y8, y8 = (x4 + (1 : Int32)) := ⟨_, rfl⟩
  have h1 := h1 y8 e9
  refine x_iinc (v := y8) (L' := [(4, xm_i y8), (0, xm_r (some h)), (1, xm_i x1), (2, xm_i x2), (3, xm_i x3)]) C 4 dX12_laysRange_108 rfl (by rw [e9]; rfl) (by decide) rfl ?_
  refine x_goto (tgt := 32) C dX12_laysRange_111 (by decide) ?_
  refine x_keep (L' := [(0, xm_r (some h)), (1, xm_i x1), (2, xm_i x2), (3, xm_i x3), (4, xm_i y8)]) C [1, 2, 3, 4, 0] rfl ?_
  exact hZ32 x1 x2 x3 y8 S6 h1
def wp_X12_laysRange_84 (h : Nat) (x1 : Int32) (x2 : Int32) (x3 : Int32) (x4 : Int32) (s0 : Int32) (S : xm_S) (g : xm_S → Prop) (Z21 : Int32 → Int32 → Int32 → xm_S → Prop) (Z32 : Int32 → Int32 → Int32 → Int32 → xm_S → Prop) : Prop :=
  st_t S h = some (12, 0) ∧ ∃ n11, (st_r S h 31) = some n11 ∧ ∃ z14, st_t S n11 = some (103, z14) ∧ vp_in x1 z14 ∧ (s0 = 0 → wp_X12_laysRange_106 h x1 x2 x3 x4 (0 : Int64) (st_l S n11 (x1).toNatClampNeg) x1 (st_r S h 31) S g Z21 Z32) ∧ (¬ s0 = 0 → wp_X12_laysRange_106 h x1 x2 x3 x4 ((1 : Int64) <<< (x4.toInt64 &&& 63)) (st_l S n11 (x1).toNatClampNeg) x1 (st_r S h 31) S g Z21 Z32)
set_option maxRecDepth 100000 in
set_option maxHeartbeats 4000000 in
theorem kp_X12_laysRange_84 {K : xm_K} (h : Nat) (x1 : Int32) (x2 : Int32) (x3 : Int32) (x4 : Int32) (s0 : Int32) (S : xm_S) {g : xm_S → Prop} {Z21 : Int32 → Int32 → Int32 → xm_S → Prop} {Z32 : Int32 → Int32 → Int32 → Int32 → xm_S → Prop} (C : xm_Cx K cX12_laysRange RX12 6 none rm_X12_laysRange) (N : xm_Nx K) (hg : ∀ S, g S → xm_q K none S) (hZ21 : ∀ x1 x2 x3 S, Z21 x1 x2 x3 S → xm_W K 0 0 21 [(0, xm_r (some h)), (1, xm_i x1), (2, xm_i x2), (3, xm_i x3)] [] S) (hZ32 : ∀ x1 x2 x3 x4 S, Z32 x1 x2 x3 x4 S → xm_W K 0 0 32 [(0, xm_r (some h)), (1, xm_i x1), (2, xm_i x2), (3, xm_i x3), (4, xm_i x4)] [] S) (h1 : wp_X12_laysRange_84 h x1 x2 x3 x4 s0 S g Z21 Z32) : xm_W K 0 0 84 [(0, xm_r (some h)), (1, xm_i x1), (2, xm_i x2), (3, xm_i x3), (4, xm_i x4)] [xm_i s0] S := by
  unfold wp_X12_laysRange_84 at h1
  refine x_istore (L' := [(5, xm_i s0), (0, xm_r (some h)), (1, xm_i x1), (2, xm_i x2), (3, xm_i x3), (4, xm_i x4)]) C dX12_laysRange_84 (by decide) rfl ?_
  refine x_aload_n C 1 dX12_laysRange_86 rfl rfl ?_
  obtain ⟨ht10, h1⟩ := h1
  refine x_getf_r (n := h) C rfl ht10 fd_177 (by decide) dX12_laysRange_87 ?_
  refine x_iload_n C 2 dX12_laysRange_90 rfl rfl ?_
  refine x_dup2_ir C dX12_laysRange_91 ?_
  obtain ⟨n11, hr12, h1⟩ := h1
  obtain ⟨z14, ht13, h1⟩ := h1
  obtain ⟨hi15, h1⟩ := h1
  refine x_lald (n := n11) C hr12 ht13 hi15 dX12_laysRange_92 ?_
  refine x_iload C 0 dX12_laysRange_93 rfl ?_
  refine x_if_eq (tgt := 105) C dX12_laysRange_95 (by decide) (fun z9 => ?_) (fun z9 => ?_)
  · have h1 := h1.1 z9
    refine x_lconst (v := (0 : Int64)) C dX12_laysRange_105 (by decide) ?_
    refine x_keep (L' := [(0, xm_r (some h)), (1, xm_i x1), (2, xm_i x2), (3, xm_i x3), (4, xm_i x4)]) C [1, 2, 3, 4, 5] rfl ?_
    exact kp_X12_laysRange_106 h x1 x2 x3 x4 (0 : Int64) (st_l S n11 (x1).toNatClampNeg) x1 (st_r S h 31) S C N hg hZ21 hZ32 h1
  · have h1 := h1.2 z9
    refine x_lconst (v := (1 : Int64)) C dX12_laysRange_98 (by decide) ?_
    refine x_iload C 5 dX12_laysRange_99 rfl ?_
    refine x_lshl C dX12_laysRange_101 ?_
    refine x_goto (tgt := 106) C dX12_laysRange_102 (by decide) ?_
    refine x_keep (L' := [(0, xm_r (some h)), (1, xm_i x1), (2, xm_i x2), (3, xm_i x3), (4, xm_i x4)]) C [1, 2, 3, 4, 5] rfl ?_
    exact kp_X12_laysRange_106 h x1 x2 x3 x4 ((1 : Int64) <<< (x4.toInt64 &&& 63)) (st_l S n11 (x1).toNatClampNeg) x1 (st_r S h 31) S C N hg hZ21 hZ32 h1
def wp_X12_laysRange_83 (h : Nat) (x1 : Int32) (x2 : Int32) (x3 : Int32) (x4 : Int32) (S : xm_S) (g : xm_S → Prop) (Z21 : Int32 → Int32 → Int32 → xm_S → Prop) (Z32 : Int32 → Int32 → Int32 → Int32 → xm_S → Prop) : Prop :=
  wp_X12_laysRange_84 h x1 x2 x3 x4 (0 : Int32) S g Z21 Z32
set_option maxRecDepth 100000 in
set_option maxHeartbeats 4000000 in
theorem kp_X12_laysRange_83 {K : xm_K} (h : Nat) (x1 : Int32) (x2 : Int32) (x3 : Int32) (x4 : Int32) (S : xm_S) {g : xm_S → Prop} {Z21 : Int32 → Int32 → Int32 → xm_S → Prop} {Z32 : Int32 → Int32 → Int32 → Int32 → xm_S → Prop} (C : xm_Cx K cX12_laysRange RX12 6 none rm_X12_laysRange) (N : xm_Nx K) (hg : ∀ S, g S → xm_q K none S) (hZ21 : ∀ x1 x2 x3 S, Z21 x1 x2 x3 S → xm_W K 0 0 21 [(0, xm_r (some h)), (1, xm_i x1), (2, xm_i x2), (3, xm_i x3)] [] S) (hZ32 : ∀ x1 x2 x3 x4 S, Z32 x1 x2 x3 x4 S → xm_W K 0 0 32 [(0, xm_r (some h)), (1, xm_i x1), (2, xm_i x2), (3, xm_i x3), (4, xm_i x4)] [] S) (h1 : wp_X12_laysRange_83 h x1 x2 x3 x4 S g Z21 Z32) : xm_W K 0 0 83 [(0, xm_r (some h)), (1, xm_i x1), (2, xm_i x2), (3, xm_i x3), (4, xm_i x4)] [] S := by
  unfold wp_X12_laysRange_83 at h1
  refine x_iconst (v := (0 : Int32)) C dX12_laysRange_83 (by decide) ?_
  exact kp_X12_laysRange_84 h x1 x2 x3 x4 (0 : Int32) S C N hg hZ21 hZ32 h1
def wp_X12_laysRange_32B (h : Nat) (x1 : Int32) (x2 : Int32) (x3 : Int32) (x4 : Int32) (S : xm_S) (g : xm_S → Prop) (Z21 : Int32 → Int32 → Int32 → xm_S → Prop) (Z32 : Int32 → Int32 → Int32 → Int32 → xm_S → Prop) : Prop :=
  st_t S h = some (12, 0) ∧ ∃ n17, (st_r S h 15) = some n17 ∧ ∃ z20, st_t S n17 = some (100, z20) ∧ vp_in x3 z20 ∧ ((((nI 2) * x3) + (st_i S n17 (x3).toNatClampNeg)) ≤ x4 → ∀ y22, y22 = (x3 + (1 : Int32)) → Z21 x1 x2 y22 S) ∧ (¬ (((nI 2) * x3) + (st_i S n17 (x3).toNatClampNeg)) ≤ x4 → ∃ n24, (st_r S h 16) = some n24 ∧ ∃ z27, st_t S n24 = some (100, z27) ∧ vp_in x4 z27 ∧ (¬ (st_i S n24 (x4).toNatClampNeg) = x2 → wp_X12_laysRange_83 h x1 x2 x3 x4 S g Z21 Z32) ∧ ((st_i S n24 (x4).toNatClampNeg) = x2 → ∃ n29, (st_r S h 1) = some n29 ∧ ∃ z32, st_t S n29 = some (100, z32) ∧ vp_in x2 z32 ∧ ∃ n34, (st_r S h 17) = some n34 ∧ ∃ z37, st_t S n34 = some (100, z37) ∧ vp_in x4 z37 ∧ wp_X12_isRangeOf h x1 (st_i S n29 (x2).toNatClampNeg) (st_i S n34 (x4).toNatClampNeg) S (fun r40 S39 => (r40 = 0 → wp_X12_laysRange_83 h x1 x2 x3 x4 S39 g Z21 Z32) ∧ (¬ r40 = 0 → wp_X12_laysRange_84 h x1 x2 x3 x4 (1 : Int32) S39 g Z21 Z32))))
def wp_X12_laysRange_32 (h : Nat) (x1 : Int32) (x2 : Int32) (x3 : Int32) (x4 : Int32) (S : xm_S) (g : xm_S → Prop) (Z21 : Int32 → Int32 → Int32 → xm_S → Prop) : Prop :=
  ∀ Z32 : Int32 → Int32 → Int32 → Int32 → xm_S → Prop, (∀ x1 x2 x3 x4 S, wp_X12_laysRange_32B h x1 x2 x3 x4 S g Z21 Z32 → Z32 x1 x2 x3 x4 S) → Z32 x1 x2 x3 x4 S
set_option maxRecDepth 100000 in
set_option maxHeartbeats 4000000 in
theorem kp_X12_laysRange_32B {K : xm_K} (h : Nat) (x1 : Int32) (x2 : Int32) (x3 : Int32) (x4 : Int32) (S : xm_S) {g : xm_S → Prop} {Z21 : Int32 → Int32 → Int32 → xm_S → Prop} {Z32 : Int32 → Int32 → Int32 → Int32 → xm_S → Prop} (C : xm_Cx K cX12_laysRange RX12 6 none rm_X12_laysRange) (N : xm_Nx K) (hg : ∀ S, g S → xm_q K none S) (hZ21 : ∀ x1 x2 x3 S, Z21 x1 x2 x3 S → xm_W K 0 0 21 [(0, xm_r (some h)), (1, xm_i x1), (2, xm_i x2), (3, xm_i x3)] [] S) (hZ32 : ∀ x1 x2 x3 x4 S, Z32 x1 x2 x3 x4 S → xm_W K 0 0 32 [(0, xm_r (some h)), (1, xm_i x1), (2, xm_i x2), (3, xm_i x3), (4, xm_i x4)] [] S) (h1 : wp_X12_laysRange_32B h x1 x2 x3 x4 S g Z21 Z32) : xm_W K 0 0 32 [(0, xm_r (some h)), (1, xm_i x1), (2, xm_i x2), (3, xm_i x3), (4, xm_i x4)] [] S := by
  unfold wp_X12_laysRange_32B at h1
  refine x_iload C 4 dX12_laysRange_32 rfl ?_
  refine x_iconst (v := (nI 2)) C dX12_laysRange_34 (by decide) ?_
  refine x_iload_n C 3 dX12_laysRange_35 rfl rfl ?_
  refine x_imul C dX12_laysRange_36 ?_
  refine x_aload_n C 0 dX12_laysRange_37 rfl rfl ?_
  obtain ⟨ht16, h1⟩ := h1
  refine x_getf_r (n := h) C rfl ht16 fd_193 (by decide) dX12_laysRange_38 ?_
  refine x_iload_n C 3 dX12_laysRange_41 rfl rfl ?_
  obtain ⟨n17, hr18, h1⟩ := h1
  obtain ⟨z20, ht19, h1⟩ := h1
  obtain ⟨hi21, h1⟩ := h1
  refine x_iald (n := n17) C hr18 ht19 hi21 dX12_laysRange_42 ?_
  refine x_iadd C dX12_laysRange_43 ?_
  refine x_icmp_ge (tgt := 114) C dX12_laysRange_44 (by decide) (fun z9 => ?_) (fun z9 => ?_)
  · have h1 := h1.1 z9
    obtain ⟨y22, e23⟩ : ∃ y22, y22 = (x3 + (1 : Int32)) := ⟨_, rfl⟩
    have h1 := h1 y22 e23
    refine x_iinc (v := y22) (L' := [(3, xm_i y22), (0, xm_r (some h)), (1, xm_i x1), (2, xm_i x2), (4, xm_i x4)]) C 3 dX12_laysRange_114 rfl (by rw [e23]; rfl) (by decide) rfl ?_
    refine x_goto (tgt := 21) C dX12_laysRange_117 (by decide) ?_
    refine x_keep (L' := [(0, xm_r (some h)), (1, xm_i x1), (2, xm_i x2), (3, xm_i y22)]) C [1, 2, 3, 0] rfl ?_
    exact hZ21 x1 x2 y22 S h1
  · have h1 := h1.2 z9
    refine x_aload_n C 0 dX12_laysRange_47 rfl rfl ?_
    refine x_getf_r (n := h) C rfl ht16 fd_194 (by decide) dX12_laysRange_48 ?_
    refine x_iload C 4 dX12_laysRange_51 rfl ?_
    obtain ⟨n24, hr25, h1⟩ := h1
    obtain ⟨z27, ht26, h1⟩ := h1
    obtain ⟨hi28, h1⟩ := h1
    refine x_iald (n := n24) C hr25 ht26 hi28 dX12_laysRange_53 ?_
    refine x_iload_n C 2 dX12_laysRange_54 rfl rfl ?_
    refine x_icmp_ne (tgt := 83) C dX12_laysRange_55 (by decide) (fun z9 => ?_) (fun z9 => ?_)
    · have h1 := h1.1 z9
      exact kp_X12_laysRange_83 h x1 x2 x3 x4 S C N hg hZ21 hZ32 h1
    · have h1 := h1.2 z9
      refine x_aload_n C 0 dX12_laysRange_58 rfl rfl ?_
      refine x_iload_n C 1 dX12_laysRange_59 rfl rfl ?_
      refine x_aload_n C 0 dX12_laysRange_60 rfl rfl ?_
      refine x_getf_r (n := h) C rfl ht16 fd_170 (by decide) dX12_laysRange_61 ?_
      refine x_iload_n C 2 dX12_laysRange_64 rfl rfl ?_
      obtain ⟨n29, hr30, h1⟩ := h1
      obtain ⟨z32, ht31, h1⟩ := h1
      obtain ⟨hi33, h1⟩ := h1
      refine x_iald (n := n29) C hr30 ht31 hi33 dX12_laysRange_65 ?_
      refine x_aload_n C 0 dX12_laysRange_66 rfl rfl ?_
      refine x_getf_r (n := h) C rfl ht16 fd_195 (by decide) dX12_laysRange_67 ?_
      refine x_iload C 4 dX12_laysRange_70 rfl ?_
      obtain ⟨n34, hr35, h1⟩ := h1
      obtain ⟨z37, ht36, h1⟩ := h1
      obtain ⟨hi38, h1⟩ := h1
      refine x_iald (n := n34) C hr35 ht36 hi38 dX12_laysRange_72 ?_
      refine x_callV (rm' := rm_X12_isRangeOf) (n := h) C (kp_X12_isRangeOf_met h1) lk_103 gw_607 gw_608 xv_12 rfl rfl ht16 rfl (Nat.le_of_ble_eq_true rfl) ⟨Nat.le_of_ble_eq_true rfl, Nat.le_of_ble_eq_true rfl, (Nat.le_of_ble_eq_true rfl), (Nat.le_of_ble_eq_true rfl)⟩ dX12_laysRange_73 xm_kx (xm_ki (fun r40 S39 h1 => ?_))
      refine x_if_eq (tgt := 83) C dX12_laysRange_76 (by decide) (fun z9 => ?_) (fun z9 => ?_)
      · have h1 := h1.1 z9
        exact kp_X12_laysRange_83 h x1 x2 x3 x4 S39 C N hg hZ21 hZ32 h1
      · have h1 := h1.2 z9
        refine x_iconst (v := (1 : Int32)) C dX12_laysRange_79 (by decide) ?_
        refine x_goto (tgt := 84) C dX12_laysRange_80 (by decide) ?_
        exact kp_X12_laysRange_84 h x1 x2 x3 x4 (1 : Int32) S39 C N hg hZ21 hZ32 h1
theorem kp_X12_laysRange_32 {K : xm_K} (h : Nat) (x1 : Int32) (x2 : Int32) (x3 : Int32) (x4 : Int32) (S : xm_S) {g : xm_S → Prop} {Z21 : Int32 → Int32 → Int32 → xm_S → Prop} (C : xm_Cx K cX12_laysRange RX12 6 none rm_X12_laysRange) (N : xm_Nx K) (hg : ∀ S, g S → xm_q K none S) (hZ21 : ∀ x1 x2 x3 S, Z21 x1 x2 x3 S → xm_W K 0 0 21 [(0, xm_r (some h)), (1, xm_i x1), (2, xm_i x2), (3, xm_i x3)] [] S) (h1 : wp_X12_laysRange_32 h x1 x2 x3 x4 S g Z21) : xm_W K 0 0 32 [(0, xm_r (some h)), (1, xm_i x1), (2, xm_i x2), (3, xm_i x3), (4, xm_i x4)] [] S :=
  h1 (fun x1 x2 x3 x4 S => xm_W K 0 0 32 [(0, xm_r (some h)), (1, xm_i x1), (2, xm_i x2), (3, xm_i x3), (4, xm_i x4)] [] S) (fun x1 x2 x3 x4 S hb => kp_X12_laysRange_32B h x1 x2 x3 x4 S C N hg hZ21 (fun x1 x2 x3 x4 S hz => hz) hb)
def wp_X12_laysRange_21B (h : Nat) (x1 : Int32) (x2 : Int32) (x3 : Int32) (S : xm_S) (g : xm_S → Prop) (Z21 : Int32 → Int32 → Int32 → xm_S → Prop) : Prop :=
  ((nI 24) ≤ x3 → g S) ∧ (¬ (nI 24) ≤ x3 → ∀ y41, y41 = ((nI 2) * x3) → wp_X12_laysRange_32 h x1 x2 x3 y41 S g Z21)
def wp_X12_laysRange_21 (h : Nat) (x1 : Int32) (x2 : Int32) (x3 : Int32) (S : xm_S) (g : xm_S → Prop) : Prop :=
  ∀ Z21 : Int32 → Int32 → Int32 → xm_S → Prop, (∀ x1 x2 x3 S, wp_X12_laysRange_21B h x1 x2 x3 S g Z21 → Z21 x1 x2 x3 S) → Z21 x1 x2 x3 S
set_option maxRecDepth 100000 in
set_option maxHeartbeats 4000000 in
theorem kp_X12_laysRange_21B {K : xm_K} (h : Nat) (x1 : Int32) (x2 : Int32) (x3 : Int32) (S : xm_S) {g : xm_S → Prop} {Z21 : Int32 → Int32 → Int32 → xm_S → Prop} (C : xm_Cx K cX12_laysRange RX12 6 none rm_X12_laysRange) (N : xm_Nx K) (hg : ∀ S, g S → xm_q K none S) (hZ21 : ∀ x1 x2 x3 S, Z21 x1 x2 x3 S → xm_W K 0 0 21 [(0, xm_r (some h)), (1, xm_i x1), (2, xm_i x2), (3, xm_i x3)] [] S) (h1 : wp_X12_laysRange_21B h x1 x2 x3 S g Z21) : xm_W K 0 0 21 [(0, xm_r (some h)), (1, xm_i x1), (2, xm_i x2), (3, xm_i x3)] [] S := by
  unfold wp_X12_laysRange_21B at h1
  refine x_iload_n C 3 dX12_laysRange_21 rfl rfl ?_
  refine x_bipush (v := (nI 24)) C dX12_laysRange_22 (by decide) ?_
  refine x_icmp_ge (tgt := 120) C dX12_laysRange_24 (by decide) (fun z9 => ?_) (fun z9 => ?_)
  · have h1 := h1.1 z9
    exact x_vret C (Nat.le_of_ble_eq_true rfl) (Nat.le_of_ble_eq_true rfl) rfl dX12_laysRange_120 (hg _ h1)
  · have h1 := h1.2 z9
    refine x_iconst (v := (nI 2)) C dX12_laysRange_27 (by decide) ?_
    refine x_iload_n C 3 dX12_laysRange_28 rfl rfl ?_
    refine x_imul C dX12_laysRange_29 ?_
    refine x_topi (fun y41 e42 => ?_)
    have h1 := h1 y41 e42
    refine x_istore (L' := [(4, xm_i y41), (0, xm_r (some h)), (1, xm_i x1), (2, xm_i x2), (3, xm_i x3)]) C dX12_laysRange_30 (by decide) rfl ?_
    refine x_keep (L' := [(0, xm_r (some h)), (1, xm_i x1), (2, xm_i x2), (3, xm_i x3), (4, xm_i y41)]) C [1, 2, 3, 4, 0] rfl ?_
    exact kp_X12_laysRange_32 h x1 x2 x3 y41 S C N hg hZ21 h1
theorem kp_X12_laysRange_21 {K : xm_K} (h : Nat) (x1 : Int32) (x2 : Int32) (x3 : Int32) (S : xm_S) {g : xm_S → Prop} (C : xm_Cx K cX12_laysRange RX12 6 none rm_X12_laysRange) (N : xm_Nx K) (hg : ∀ S, g S → xm_q K none S)  (h1 : wp_X12_laysRange_21 h x1 x2 x3 S g) : xm_W K 0 0 21 [(0, xm_r (some h)), (1, xm_i x1), (2, xm_i x2), (3, xm_i x3)] [] S :=
  h1 (fun x1 x2 x3 S => xm_W K 0 0 21 [(0, xm_r (some h)), (1, xm_i x1), (2, xm_i x2), (3, xm_i x3)] [] S) (fun x1 x2 x3 S hb => kp_X12_laysRange_21B h x1 x2 x3 S C N hg (fun x1 x2 x3 S hz => hz) hb)
def wp_X12_laysRange (h : Nat) (x1 : Int32) (x2 : Int32) (S : xm_S) (g : xm_S → Prop) : Prop :=
  st_t S h = some (12, 0) ∧ wp_X12_versionsOf h x1 x2 S (fun r45 S44 => ∃ n46, (st_r S h 30) = some n46 ∧ ∃ z49, st_t S44 n46 = some (100, z49) ∧ vp_in x1 z49 ∧ ∀ S51, S51 = st_pi S44 n46 (x1).toNatClampNeg r45 → st_t S51 h = some (12, 0) ∧ ∃ n54, (st_r S51 h 31) = some n54 ∧ ∃ z57, st_t S51 n54 = some (103, z57) ∧ vp_in x1 z57 ∧ ∀ S59, S59 = st_pl S51 n54 (x1).toNatClampNeg (0 : Int64) → wp_X12_laysRange_21 h x1 x2 (0 : Int32) S59 g)
set_option maxRecDepth 100000 in
set_option maxHeartbeats 4000000 in
theorem kp_X12_laysRange {K : xm_K} (h : Nat) (x1 : Int32) (x2 : Int32) (S : xm_S) {g : xm_S → Prop} (C : xm_Cx K cX12_laysRange RX12 6 none rm_X12_laysRange) (N : xm_Nx K) (hg : ∀ S, g S → xm_q K none S)  (h1 : wp_X12_laysRange h x1 x2 S g) : xm_W K 0 0 0 [(0, xm_r (some h)), (1, xm_i x1), (2, xm_i x2)] [] S := by
  unfold wp_X12_laysRange at h1
  refine x_aload_n C 0 dX12_laysRange_0 rfl rfl ?_
  obtain ⟨ht43, h1⟩ := h1
  refine x_getf_r (n := h) C rfl ht43 fd_180 (by decide) dX12_laysRange_1 ?_
  refine x_iload_n C 1 dX12_laysRange_4 rfl rfl ?_
  refine x_aload_n C 0 dX12_laysRange_5 rfl rfl ?_
  refine x_iload_n C 1 dX12_laysRange_6 rfl rfl ?_
  refine x_iload_n C 2 dX12_laysRange_7 rfl rfl ?_
  refine x_callV (rm' := rm_X12_versionsOf) (n := h) C (kp_X12_versionsOf_met h1) lk_112 gw_666 gw_667 xv_12 rfl rfl ht43 rfl (Nat.le_of_ble_eq_true rfl) ⟨Nat.le_of_ble_eq_true rfl, Nat.le_of_ble_eq_true rfl, (Nat.le_of_ble_eq_true rfl), (Nat.le_of_ble_eq_true rfl)⟩ dX12_laysRange_8 xm_kx (xm_ki (fun r45 S44 h1 => ?_))
  obtain ⟨n46, hr47, h1⟩ := h1
  obtain ⟨z49, ht48, h1⟩ := h1
  obtain ⟨hi50, h1⟩ := h1
  refine x_iast (n := n46) C hr47 ht48 hi50 dX12_laysRange_11 ?_
  refine x_topS (fun S51 e52 => ?_)
  have h1 := h1 S51 e52
  refine x_aload_n C 0 dX12_laysRange_12 rfl rfl ?_
  obtain ⟨ht53, h1⟩ := h1
  refine x_getf_r (n := h) C rfl ht53 fd_177 (by decide) dX12_laysRange_13 ?_
  refine x_iload_n C 1 dX12_laysRange_16 rfl rfl ?_
  refine x_lconst (v := (0 : Int64)) C dX12_laysRange_17 (by decide) ?_
  obtain ⟨n54, hr55, h1⟩ := h1
  obtain ⟨z57, ht56, h1⟩ := h1
  obtain ⟨hi58, h1⟩ := h1
  refine x_last (n := n54) C hr55 ht56 hi58 dX12_laysRange_18 ?_
  refine x_topS (fun S59 e60 => ?_)
  have h1 := h1 S59 e60
  refine x_iconst (v := (0 : Int32)) C dX12_laysRange_19 (by decide) ?_
  refine x_istore_n (L' := [(3, xm_i (0 : Int32)), (0, xm_r (some h)), (1, xm_i x1), (2, xm_i x2)]) C dX12_laysRange_20 rfl (by decide) rfl ?_
  refine x_keep (L' := [(0, xm_r (some h)), (1, xm_i x1), (2, xm_i x2), (3, xm_i (0 : Int32))]) C [1, 2, 3, 0] rfl ?_
  exact kp_X12_laysRange_21 h x1 x2 (0 : Int32) S59 C N hg  h1
theorem kp_X12_laysRange_met {h : Nat} {x1 : Int32} {x2 : Int32} {S : xm_S} {g : xm_S → Prop}  (h1 : wp_X12_laysRange h x1 x2 S g) : xm_Met yX12_laysRange cX12_laysRange 6 none rm_X12_laysRange [xm_r (some h), xm_i x1, xm_i x2] S (xm_qv g) xm_nox :=
  xm_ofW RX12 (by decide +kernel) rfl (Nat.le_of_ble_eq_true rfl) (fun K C N hq hx hi => kp_X12_laysRange h x1 x2 S C N (fun S h => by rw [hq]; exact ⟨rfl, h⟩)  h1)
def rm_X12_laysRanges : Room := { frames := 9, cells := 0, slots := 0, locals := 204 }
theorem dX12_laysRanges_0 : decode cX12_laysRanges 0 = .ok (.iconst 0, 1) := by decide +kernel
theorem dX12_laysRanges_1 : decode cX12_laysRanges 1 = .ok (.istore_n 1, 1) := by decide +kernel
theorem dX12_laysRanges_2 : decode cX12_laysRanges 2 = .ok (.iload_n 1, 1) := by decide +kernel
theorem dX12_laysRanges_3 : decode cX12_laysRanges 3 = .ok (.bipush 24, 2) := by decide +kernel
theorem dX12_laysRanges_5 : decode cX12_laysRanges 5 = .ok (.if_icmp .ge 86, 3) := by decide +kernel
theorem dX12_laysRanges_8 : decode cX12_laysRanges 8 = .ok (.iconst 0, 1) := by decide +kernel
theorem dX12_laysRanges_9 : decode cX12_laysRanges 9 = .ok (.istore_n 2, 1) := by decide +kernel
theorem dX12_laysRanges_10 : decode cX12_laysRanges 10 = .ok (.iload_n 2, 1) := by decide +kernel
theorem dX12_laysRanges_11 : decode cX12_laysRanges 11 = .ok (.aload_n 0, 1) := by decide +kernel
theorem dX12_laysRanges_12 : decode cX12_laysRanges 12 = .ok (.getfield 32, 3) := by decide +kernel
theorem dX12_laysRanges_15 : decode cX12_laysRanges 15 = .ok (.iload_n 1, 1) := by decide +kernel
theorem dX12_laysRanges_16 : decode cX12_laysRanges 16 = .ok (.iaload, 1) := by decide +kernel
theorem dX12_laysRanges_17 : decode cX12_laysRanges 17 = .ok (.if_icmp .ge 28, 3) := by decide +kernel
theorem dX12_laysRanges_20 : decode cX12_laysRanges 20 = .ok (.aload_n 0, 1) := by decide +kernel
theorem dX12_laysRanges_21 : decode cX12_laysRanges 21 = .ok (.iconst 4, 1) := by decide +kernel
theorem dX12_laysRanges_22 : decode cX12_laysRanges 22 = .ok (.iload_n 1, 1) := by decide +kernel
theorem dX12_laysRanges_23 : decode cX12_laysRanges 23 = .ok (.imul, 1) := by decide +kernel
theorem dX12_laysRanges_24 : decode cX12_laysRanges 24 = .ok (.iload_n 2, 1) := by decide +kernel
theorem dX12_laysRanges_25 : decode cX12_laysRanges 25 = .ok (.iadd, 1) := by decide +kernel
theorem dX12_laysRanges_26 : decode cX12_laysRanges 26 = .ok (.aload_n 0, 1) := by decide +kernel
theorem dX12_laysRanges_27 : decode cX12_laysRanges 27 = .ok (.getfield 35, 3) := by decide +kernel
theorem dX12_laysRanges_30 : decode cX12_laysRanges 30 = .ok (.iconst 4, 1) := by decide +kernel
theorem dX12_laysRanges_31 : decode cX12_laysRanges 31 = .ok (.iload_n 1, 1) := by decide +kernel
theorem dX12_laysRanges_32 : decode cX12_laysRanges 32 = .ok (.imul, 1) := by decide +kernel
theorem dX12_laysRanges_33 : decode cX12_laysRanges 33 = .ok (.iload_n 2, 1) := by decide +kernel
theorem dX12_laysRanges_34 : decode cX12_laysRanges 34 = .ok (.iadd, 1) := by decide +kernel
theorem dX12_laysRanges_35 : decode cX12_laysRanges 35 = .ok (.iaload, 1) := by decide +kernel
theorem dX12_laysRanges_36 : decode cX12_laysRanges 36 = .ok (.invokevirtual 260, 3) := by decide +kernel
theorem dX12_laysRanges_39 : decode cX12_laysRanges 39 = .ok (.iinc 2 1, 3) := by decide +kernel
theorem dX12_laysRanges_42 : decode cX12_laysRanges 42 = .ok (.goto (-32), 3) := by decide +kernel
theorem dX12_laysRanges_45 : decode cX12_laysRanges 45 = .ok (.iconst 0, 1) := by decide +kernel
theorem dX12_laysRanges_46 : decode cX12_laysRanges 46 = .ok (.istore_n 2, 1) := by decide +kernel
theorem dX12_laysRanges_47 : decode cX12_laysRanges 47 = .ok (.iload_n 2, 1) := by decide +kernel
theorem dX12_laysRanges_48 : decode cX12_laysRanges 48 = .ok (.aload_n 0, 1) := by decide +kernel
theorem dX12_laysRanges_49 : decode cX12_laysRanges 49 = .ok (.getfield 47, 3) := by decide +kernel
theorem dX12_laysRanges_52 : decode cX12_laysRanges 52 = .ok (.iload_n 1, 1) := by decide +kernel
theorem dX12_laysRanges_53 : decode cX12_laysRanges 53 = .ok (.iaload, 1) := by decide +kernel
theorem dX12_laysRanges_54 : decode cX12_laysRanges 54 = .ok (.if_icmp .ge 31, 3) := by decide +kernel
theorem dX12_laysRanges_57 : decode cX12_laysRanges 57 = .ok (.aload_n 0, 1) := by decide +kernel
theorem dX12_laysRanges_58 : decode cX12_laysRanges 58 = .ok (.bipush 96, 2) := by decide +kernel
theorem dX12_laysRanges_60 : decode cX12_laysRanges 60 = .ok (.iconst 2, 1) := by decide +kernel
theorem dX12_laysRanges_61 : decode cX12_laysRanges 61 = .ok (.iload_n 1, 1) := by decide +kernel
theorem dX12_laysRanges_62 : decode cX12_laysRanges 62 = .ok (.imul, 1) := by decide +kernel
theorem dX12_laysRanges_63 : decode cX12_laysRanges 63 = .ok (.iadd, 1) := by decide +kernel
theorem dX12_laysRanges_64 : decode cX12_laysRanges 64 = .ok (.iload_n 2, 1) := by decide +kernel
theorem dX12_laysRanges_65 : decode cX12_laysRanges 65 = .ok (.iadd, 1) := by decide +kernel
theorem dX12_laysRanges_66 : decode cX12_laysRanges 66 = .ok (.aload_n 0, 1) := by decide +kernel
theorem dX12_laysRanges_67 : decode cX12_laysRanges 67 = .ok (.getfield 50, 3) := by decide +kernel
theorem dX12_laysRanges_70 : decode cX12_laysRanges 70 = .ok (.iconst 2, 1) := by decide +kernel
theorem dX12_laysRanges_71 : decode cX12_laysRanges 71 = .ok (.iload_n 1, 1) := by decide +kernel
theorem dX12_laysRanges_72 : decode cX12_laysRanges 72 = .ok (.imul, 1) := by decide +kernel
theorem dX12_laysRanges_73 : decode cX12_laysRanges 73 = .ok (.iload_n 2, 1) := by decide +kernel
theorem dX12_laysRanges_74 : decode cX12_laysRanges 74 = .ok (.iadd, 1) := by decide +kernel
theorem dX12_laysRanges_75 : decode cX12_laysRanges 75 = .ok (.iaload, 1) := by decide +kernel
theorem dX12_laysRanges_76 : decode cX12_laysRanges 76 = .ok (.invokevirtual 260, 3) := by decide +kernel
theorem dX12_laysRanges_79 : decode cX12_laysRanges 79 = .ok (.iinc 2 1, 3) := by decide +kernel
theorem dX12_laysRanges_82 : decode cX12_laysRanges 82 = .ok (.goto (-35), 3) := by decide +kernel
theorem dX12_laysRanges_85 : decode cX12_laysRanges 85 = .ok (.iinc 1 1, 3) := by decide +kernel
theorem dX12_laysRanges_88 : decode cX12_laysRanges 88 = .ok (.goto (-86), 3) := by decide +kernel
theorem dX12_laysRanges_91 : decode cX12_laysRanges 91 = .ok (.iconst 0, 1) := by decide +kernel
theorem dX12_laysRanges_92 : decode cX12_laysRanges 92 = .ok (.istore_n 1, 1) := by decide +kernel
theorem dX12_laysRanges_93 : decode cX12_laysRanges 93 = .ok (.iload_n 1, 1) := by decide +kernel
theorem dX12_laysRanges_94 : decode cX12_laysRanges 94 = .ok (.aload_n 0, 1) := by decide +kernel
theorem dX12_laysRanges_95 : decode cX12_laysRanges 95 = .ok (.getfield 257, 3) := by decide +kernel
theorem dX12_laysRanges_98 : decode cX12_laysRanges 98 = .ok (.if_icmp .ge 24, 3) := by decide +kernel
theorem dX12_laysRanges_101 : decode cX12_laysRanges 101 = .ok (.aload_n 0, 1) := by decide +kernel
theorem dX12_laysRanges_102 : decode cX12_laysRanges 102 = .ok (.sipush 144, 3) := by decide +kernel
theorem dX12_laysRanges_105 : decode cX12_laysRanges 105 = .ok (.iload_n 1, 1) := by decide +kernel
theorem dX12_laysRanges_106 : decode cX12_laysRanges 106 = .ok (.iadd, 1) := by decide +kernel
theorem dX12_laysRanges_107 : decode cX12_laysRanges 107 = .ok (.aload_n 0, 1) := by decide +kernel
theorem dX12_laysRanges_108 : decode cX12_laysRanges 108 = .ok (.getfield 62, 3) := by decide +kernel
theorem dX12_laysRanges_111 : decode cX12_laysRanges 111 = .ok (.iload_n 1, 1) := by decide +kernel
theorem dX12_laysRanges_112 : decode cX12_laysRanges 112 = .ok (.iaload, 1) := by decide +kernel
theorem dX12_laysRanges_113 : decode cX12_laysRanges 113 = .ok (.invokevirtual 260, 3) := by decide +kernel
theorem dX12_laysRanges_116 : decode cX12_laysRanges 116 = .ok (.iinc 1 1, 3) := by decide +kernel
theorem dX12_laysRanges_119 : decode cX12_laysRanges 119 = .ok (.goto (-26), 3) := by decide +kernel
theorem dX12_laysRanges_122 : decode cX12_laysRanges 122 = .ok (.iconst 0, 1) := by decide +kernel
theorem dX12_laysRanges_123 : decode cX12_laysRanges 123 = .ok (.istore_n 1, 1) := by decide +kernel
theorem dX12_laysRanges_124 : decode cX12_laysRanges 124 = .ok (.iload_n 1, 1) := by decide +kernel
theorem dX12_laysRanges_125 : decode cX12_laysRanges 125 = .ok (.bipush 6, 2) := by decide +kernel
theorem dX12_laysRanges_127 : decode cX12_laysRanges 127 = .ok (.if_icmp .ge 79, 3) := by decide +kernel
theorem dX12_laysRanges_130 : decode cX12_laysRanges 130 = .ok (.iconst 0, 1) := by decide +kernel
theorem dX12_laysRanges_131 : decode cX12_laysRanges 131 = .ok (.istore_n 2, 1) := by decide +kernel
theorem dX12_laysRanges_132 : decode cX12_laysRanges 132 = .ok (.iload_n 2, 1) := by decide +kernel
theorem dX12_laysRanges_133 : decode cX12_laysRanges 133 = .ok (.aload_n 0, 1) := by decide +kernel
theorem dX12_laysRanges_134 : decode cX12_laysRanges 134 = .ok (.getfield 13, 3) := by decide +kernel
theorem dX12_laysRanges_137 : decode cX12_laysRanges 137 = .ok (.iload_n 1, 1) := by decide +kernel
theorem dX12_laysRanges_138 : decode cX12_laysRanges 138 = .ok (.iaload, 1) := by decide +kernel
theorem dX12_laysRanges_139 : decode cX12_laysRanges 139 = .ok (.if_icmp .ge 61, 3) := by decide +kernel
theorem dX12_laysRanges_142 : decode cX12_laysRanges 142 = .ok (.iconst 0, 1) := by decide +kernel
theorem dX12_laysRanges_143 : decode cX12_laysRanges 143 = .ok (.istore_n 3, 1) := by decide +kernel
theorem dX12_laysRanges_144 : decode cX12_laysRanges 144 = .ok (.iconst 0, 1) := by decide +kernel
theorem dX12_laysRanges_145 : decode cX12_laysRanges 145 = .ok (.istore 4, 2) := by decide +kernel
theorem dX12_laysRanges_147 : decode cX12_laysRanges 147 = .ok (.iload 4, 2) := by decide +kernel
theorem dX12_laysRanges_149 : decode cX12_laysRanges 149 = .ok (.aload_n 0, 1) := by decide +kernel
theorem dX12_laysRanges_150 : decode cX12_laysRanges 150 = .ok (.getfield 13, 3) := by decide +kernel
theorem dX12_laysRanges_153 : decode cX12_laysRanges 153 = .ok (.iload_n 1, 1) := by decide +kernel
theorem dX12_laysRanges_154 : decode cX12_laysRanges 154 = .ok (.iaload, 1) := by decide +kernel
theorem dX12_laysRanges_155 : decode cX12_laysRanges 155 = .ok (.if_icmp .ge 28, 3) := by decide +kernel
theorem dX12_laysRanges_158 : decode cX12_laysRanges 158 = .ok (.iload_n 3, 1) := by decide +kernel
theorem dX12_laysRanges_159 : decode cX12_laysRanges 159 = .ok (.aload_n 0, 1) := by decide +kernel
theorem dX12_laysRanges_160 : decode cX12_laysRanges 160 = .ok (.iload_n 1, 1) := by decide +kernel
theorem dX12_laysRanges_161 : decode cX12_laysRanges 161 = .ok (.iload 4, 2) := by decide +kernel
theorem dX12_laysRanges_163 : decode cX12_laysRanges 163 = .ok (.iload_n 2, 1) := by decide +kernel
theorem dX12_laysRanges_164 : decode cX12_laysRanges 164 = .ok (.invokevirtual 247, 3) := by decide +kernel
theorem dX12_laysRanges_167 : decode cX12_laysRanges 167 = .ok (.ifCond .le 7, 3) := by decide +kernel
theorem dX12_laysRanges_170 : decode cX12_laysRanges 170 = .ok (.iconst 1, 1) := by decide +kernel
theorem dX12_laysRanges_171 : decode cX12_laysRanges 171 = .ok (.goto 4, 3) := by decide +kernel
theorem dX12_laysRanges_174 : decode cX12_laysRanges 174 = .ok (.iconst 0, 1) := by decide +kernel
theorem dX12_laysRanges_175 : decode cX12_laysRanges 175 = .ok (.iadd, 1) := by decide +kernel
theorem dX12_laysRanges_176 : decode cX12_laysRanges 176 = .ok (.istore_n 3, 1) := by decide +kernel
theorem dX12_laysRanges_177 : decode cX12_laysRanges 177 = .ok (.iinc 4 1, 3) := by decide +kernel
theorem dX12_laysRanges_180 : decode cX12_laysRanges 180 = .ok (.goto (-33), 3) := by decide +kernel
theorem dX12_laysRanges_183 : decode cX12_laysRanges 183 = .ok (.aload_n 0, 1) := by decide +kernel
theorem dX12_laysRanges_184 : decode cX12_laysRanges 184 = .ok (.getfield 100, 3) := by decide +kernel
theorem dX12_laysRanges_187 : decode cX12_laysRanges 187 = .ok (.iconst 4, 1) := by decide +kernel
theorem dX12_laysRanges_188 : decode cX12_laysRanges 188 = .ok (.iload_n 1, 1) := by decide +kernel
theorem dX12_laysRanges_189 : decode cX12_laysRanges 189 = .ok (.imul, 1) := by decide +kernel
theorem dX12_laysRanges_190 : decode cX12_laysRanges 190 = .ok (.iload_n 3, 1) := by decide +kernel
theorem dX12_laysRanges_191 : decode cX12_laysRanges 191 = .ok (.iadd, 1) := by decide +kernel
theorem dX12_laysRanges_192 : decode cX12_laysRanges 192 = .ok (.iload_n 2, 1) := by decide +kernel
theorem dX12_laysRanges_193 : decode cX12_laysRanges 193 = .ok (.iastore, 1) := by decide +kernel
theorem dX12_laysRanges_194 : decode cX12_laysRanges 194 = .ok (.iinc 2 1, 3) := by decide +kernel
theorem dX12_laysRanges_197 : decode cX12_laysRanges 197 = .ok (.goto (-65), 3) := by decide +kernel
theorem dX12_laysRanges_200 : decode cX12_laysRanges 200 = .ok (.iinc 1 1, 3) := by decide +kernel
theorem dX12_laysRanges_203 : decode cX12_laysRanges 203 = .ok (.goto (-79), 3) := by decide +kernel
theorem dX12_laysRanges_206 : decode cX12_laysRanges 206 = .ok (.return_, 1) := by decide +kernel
def wp_X12_laysRanges_47B (h : Nat) (x1 : Int32) (x2 : Int32) (S : xm_S) (g : xm_S → Prop) (Z2 : Int32 → xm_S → Prop) (Z47 : Int32 → Int32 → xm_S → Prop) : Prop :=
  st_t S h = some (12, 0) ∧ ∃ n2, (st_r S h 13) = some n2 ∧ ∃ z5, st_t S n2 = some (100, z5) ∧ vp_in x1 z5 ∧ ((st_i S n2 (x1).toNatClampNeg) ≤ x2 → ∀ y7, y7 = (x1 + (1 : Int32)) → Z2 y7 S) ∧ (¬ (st_i S n2 (x1).toNatClampNeg) ≤ x2 → ∃ n9, (st_r S h 14) = some n9 ∧ ∃ z12, st_t S n9 = some (100, z12) ∧ vp_in (((nI 2) * x1) + x2) z12 ∧ wp_X12_laysRange h (((nI 96) + ((nI 2) * x1)) + x2) (st_i S n9 ((((nI 2) * x1) + x2)).toNatClampNeg) S (fun S14 => ∀ y16, y16 = (x2 + (1 : Int32)) → Z47 x1 y16 S14))
def wp_X12_laysRanges_47 (h : Nat) (x1 : Int32) (x2 : Int32) (S : xm_S) (g : xm_S → Prop) (Z2 : Int32 → xm_S → Prop) : Prop :=
  ∀ Z47 : Int32 → Int32 → xm_S → Prop, (∀ x1 x2 S, wp_X12_laysRanges_47B h x1 x2 S g Z2 Z47 → Z47 x1 x2 S) → Z47 x1 x2 S
set_option maxRecDepth 100000 in
set_option maxHeartbeats 4000000 in
theorem kp_X12_laysRanges_47B {K : xm_K} (h : Nat) (x1 : Int32) (x2 : Int32) (S : xm_S) {g : xm_S → Prop} {Z2 : Int32 → xm_S → Prop} {Z47 : Int32 → Int32 → xm_S → Prop} (C : xm_Cx K cX12_laysRanges RX12 5 none rm_X12_laysRanges) (N : xm_Nx K) (hg : ∀ S, g S → xm_q K none S) (hZ2 : ∀ x1 S, Z2 x1 S → xm_W K 0 0 2 [(0, xm_r (some h)), (1, xm_i x1)] [] S) (hZ47 : ∀ x1 x2 S, Z47 x1 x2 S → xm_W K 0 0 47 [(0, xm_r (some h)), (1, xm_i x1), (2, xm_i x2)] [] S) (h1 : wp_X12_laysRanges_47B h x1 x2 S g Z2 Z47) : xm_W K 0 0 47 [(0, xm_r (some h)), (1, xm_i x1), (2, xm_i x2)] [] S := by
  unfold wp_X12_laysRanges_47B at h1
  refine x_iload_n C 2 dX12_laysRanges_47 rfl rfl ?_
  refine x_aload_n C 0 dX12_laysRanges_48 rfl rfl ?_
  obtain ⟨ht1, h1⟩ := h1
  refine x_getf_r (n := h) C rfl ht1 fd_178 (by decide) dX12_laysRanges_49 ?_
  refine x_iload_n C 1 dX12_laysRanges_52 rfl rfl ?_
  obtain ⟨n2, hr3, h1⟩ := h1
  obtain ⟨z5, ht4, h1⟩ := h1
  obtain ⟨hi6, h1⟩ := h1
  refine x_iald (n := n2) C hr3 ht4 hi6 dX12_laysRanges_53 ?_
  refine x_icmp_ge (tgt := 85) C dX12_laysRanges_54 (by decide) (fun z9 => ?_) (fun z9 => ?_)
  · have h1 := h1.1 z9
    obtain ⟨y7, e8⟩ : ∃ y7, y7 = (x1 + (1 : Int32)) := ⟨_, rfl⟩
    have h1 := h1 y7 e8
    refine x_iinc (v := y7) (L' := [(1, xm_i y7), (0, xm_r (some h)), (2, xm_i x2)]) C 1 dX12_laysRanges_85 rfl (by rw [e8]; rfl) (by decide) rfl ?_
    refine x_goto (tgt := 2) C dX12_laysRanges_88 (by decide) ?_
    refine x_keep (L' := [(0, xm_r (some h)), (1, xm_i y7)]) C [1, 0] rfl ?_
    exact hZ2 y7 S h1
  · have h1 := h1.2 z9
    refine x_aload_n C 0 dX12_laysRanges_57 rfl rfl ?_
    refine x_bipush (v := (nI 96)) C dX12_laysRanges_58 (by decide) ?_
    refine x_iconst (v := (nI 2)) C dX12_laysRanges_60 (by decide) ?_
    refine x_iload_n C 1 dX12_laysRanges_61 rfl rfl ?_
    refine x_imul C dX12_laysRanges_62 ?_
    refine x_iadd C dX12_laysRanges_63 ?_
    refine x_iload_n C 2 dX12_laysRanges_64 rfl rfl ?_
    refine x_iadd C dX12_laysRanges_65 ?_
    refine x_aload_n C 0 dX12_laysRanges_66 rfl rfl ?_
    refine x_getf_r (n := h) C rfl ht1 fd_179 (by decide) dX12_laysRanges_67 ?_
    refine x_iconst (v := (nI 2)) C dX12_laysRanges_70 (by decide) ?_
    refine x_iload_n C 1 dX12_laysRanges_71 rfl rfl ?_
    refine x_imul C dX12_laysRanges_72 ?_
    refine x_iload_n C 2 dX12_laysRanges_73 rfl rfl ?_
    refine x_iadd C dX12_laysRanges_74 ?_
    obtain ⟨n9, hr10, h1⟩ := h1
    obtain ⟨z12, ht11, h1⟩ := h1
    obtain ⟨hi13, h1⟩ := h1
    refine x_iald (n := n9) C hr10 ht11 hi13 dX12_laysRanges_75 ?_
    refine x_callV (rm' := rm_X12_laysRange) (n := h) C (kp_X12_laysRange_met h1) lk_113 gw_670 gw_671 xv_12 rfl rfl ht1 rfl (Nat.le_of_ble_eq_true rfl) ⟨Nat.le_of_ble_eq_true rfl, Nat.le_of_ble_eq_true rfl, (Nat.le_of_ble_eq_true rfl), (Nat.le_of_ble_eq_true rfl)⟩ dX12_laysRanges_76 xm_kx (xm_kv (fun S14 h1 => ?_))
    obtain ⟨y16, e17⟩ : ∃ y16, y16 = (x2 + (1 : Int32)) := ⟨_, rfl⟩
    have h1 := h1 y16 e17
    refine x_iinc (v := y16) (L' := [(2, xm_i y16), (0, xm_r (some h)), (1, xm_i x1)]) C 2 dX12_laysRanges_79 rfl (by rw [e17]; rfl) (by decide) rfl ?_
    refine x_goto (tgt := 47) C dX12_laysRanges_82 (by decide) ?_
    refine x_keep (L' := [(0, xm_r (some h)), (1, xm_i x1), (2, xm_i y16)]) C [1, 2, 0] rfl ?_
    exact hZ47 x1 y16 S14 h1
theorem kp_X12_laysRanges_47 {K : xm_K} (h : Nat) (x1 : Int32) (x2 : Int32) (S : xm_S) {g : xm_S → Prop} {Z2 : Int32 → xm_S → Prop} (C : xm_Cx K cX12_laysRanges RX12 5 none rm_X12_laysRanges) (N : xm_Nx K) (hg : ∀ S, g S → xm_q K none S) (hZ2 : ∀ x1 S, Z2 x1 S → xm_W K 0 0 2 [(0, xm_r (some h)), (1, xm_i x1)] [] S) (h1 : wp_X12_laysRanges_47 h x1 x2 S g Z2) : xm_W K 0 0 47 [(0, xm_r (some h)), (1, xm_i x1), (2, xm_i x2)] [] S :=
  h1 (fun x1 x2 S => xm_W K 0 0 47 [(0, xm_r (some h)), (1, xm_i x1), (2, xm_i x2)] [] S) (fun x1 x2 S hb => kp_X12_laysRanges_47B h x1 x2 S C N hg hZ2 (fun x1 x2 S hz => hz) hb)
def wp_X12_laysRanges_10B (h : Nat) (x1 : Int32) (x2 : Int32) (S : xm_S) (g : xm_S → Prop) (Z2 : Int32 → xm_S → Prop) (Z10 : Int32 → Int32 → xm_S → Prop) : Prop :=
  st_t S h = some (12, 0) ∧ ∃ n19, (st_r S h 8) = some n19 ∧ ∃ z22, st_t S n19 = some (100, z22) ∧ vp_in x1 z22 ∧ ((st_i S n19 (x1).toNatClampNeg) ≤ x2 → wp_X12_laysRanges_47 h x1 (0 : Int32) S g Z2) ∧ (¬ (st_i S n19 (x1).toNatClampNeg) ≤ x2 → ∃ n24, (st_r S h 9) = some n24 ∧ ∃ z27, st_t S n24 = some (100, z27) ∧ vp_in (((nI 4) * x1) + x2) z27 ∧ wp_X12_laysRange h (((nI 4) * x1) + x2) (st_i S n24 ((((nI 4) * x1) + x2)).toNatClampNeg) S (fun S29 => ∀ y31, y31 = (x2 + (1 : Int32)) → Z10 x1 y31 S29))
def wp_X12_laysRanges_10 (h : Nat) (x1 : Int32) (x2 : Int32) (S : xm_S) (g : xm_S → Prop) (Z2 : Int32 → xm_S → Prop) : Prop :=
  ∀ Z10 : Int32 → Int32 → xm_S → Prop, (∀ x1 x2 S, wp_X12_laysRanges_10B h x1 x2 S g Z2 Z10 → Z10 x1 x2 S) → Z10 x1 x2 S
set_option maxRecDepth 100000 in
set_option maxHeartbeats 4000000 in
theorem kp_X12_laysRanges_10B {K : xm_K} (h : Nat) (x1 : Int32) (x2 : Int32) (S : xm_S) {g : xm_S → Prop} {Z2 : Int32 → xm_S → Prop} {Z10 : Int32 → Int32 → xm_S → Prop} (C : xm_Cx K cX12_laysRanges RX12 5 none rm_X12_laysRanges) (N : xm_Nx K) (hg : ∀ S, g S → xm_q K none S) (hZ2 : ∀ x1 S, Z2 x1 S → xm_W K 0 0 2 [(0, xm_r (some h)), (1, xm_i x1)] [] S) (hZ10 : ∀ x1 x2 S, Z10 x1 x2 S → xm_W K 0 0 10 [(0, xm_r (some h)), (1, xm_i x1), (2, xm_i x2)] [] S) (h1 : wp_X12_laysRanges_10B h x1 x2 S g Z2 Z10) : xm_W K 0 0 10 [(0, xm_r (some h)), (1, xm_i x1), (2, xm_i x2)] [] S := by
  unfold wp_X12_laysRanges_10B at h1
  refine x_iload_n C 2 dX12_laysRanges_10 rfl rfl ?_
  refine x_aload_n C 0 dX12_laysRanges_11 rfl rfl ?_
  obtain ⟨ht18, h1⟩ := h1
  refine x_getf_r (n := h) C rfl ht18 fd_184 (by decide) dX12_laysRanges_12 ?_
  refine x_iload_n C 1 dX12_laysRanges_15 rfl rfl ?_
  obtain ⟨n19, hr20, h1⟩ := h1
  obtain ⟨z22, ht21, h1⟩ := h1
  obtain ⟨hi23, h1⟩ := h1
  refine x_iald (n := n19) C hr20 ht21 hi23 dX12_laysRanges_16 ?_
  refine x_icmp_ge (tgt := 45) C dX12_laysRanges_17 (by decide) (fun z9 => ?_) (fun z9 => ?_)
  · have h1 := h1.1 z9
    refine x_iconst (v := (0 : Int32)) C dX12_laysRanges_45 (by decide) ?_
    refine x_istore_n (L' := [(2, xm_i (0 : Int32)), (0, xm_r (some h)), (1, xm_i x1)]) C dX12_laysRanges_46 rfl (by decide) rfl ?_
    refine x_keep (L' := [(0, xm_r (some h)), (1, xm_i x1), (2, xm_i (0 : Int32))]) C [1, 2, 0] rfl ?_
    exact kp_X12_laysRanges_47 h x1 (0 : Int32) S C N hg hZ2 h1
  · have h1 := h1.2 z9
    refine x_aload_n C 0 dX12_laysRanges_20 rfl rfl ?_
    refine x_iconst (v := (nI 4)) C dX12_laysRanges_21 (by decide) ?_
    refine x_iload_n C 1 dX12_laysRanges_22 rfl rfl ?_
    refine x_imul C dX12_laysRanges_23 ?_
    refine x_iload_n C 2 dX12_laysRanges_24 rfl rfl ?_
    refine x_iadd C dX12_laysRanges_25 ?_
    refine x_aload_n C 0 dX12_laysRanges_26 rfl rfl ?_
    refine x_getf_r (n := h) C rfl ht18 fd_185 (by decide) dX12_laysRanges_27 ?_
    refine x_iconst (v := (nI 4)) C dX12_laysRanges_30 (by decide) ?_
    refine x_iload_n C 1 dX12_laysRanges_31 rfl rfl ?_
    refine x_imul C dX12_laysRanges_32 ?_
    refine x_iload_n C 2 dX12_laysRanges_33 rfl rfl ?_
    refine x_iadd C dX12_laysRanges_34 ?_
    obtain ⟨n24, hr25, h1⟩ := h1
    obtain ⟨z27, ht26, h1⟩ := h1
    obtain ⟨hi28, h1⟩ := h1
    refine x_iald (n := n24) C hr25 ht26 hi28 dX12_laysRanges_35 ?_
    refine x_callV (rm' := rm_X12_laysRange) (n := h) C (kp_X12_laysRange_met h1) lk_113 gw_670 gw_671 xv_12 rfl rfl ht18 rfl (Nat.le_of_ble_eq_true rfl) ⟨Nat.le_of_ble_eq_true rfl, Nat.le_of_ble_eq_true rfl, (Nat.le_of_ble_eq_true rfl), (Nat.le_of_ble_eq_true rfl)⟩ dX12_laysRanges_36 xm_kx (xm_kv (fun S29 h1 => ?_))
    obtain ⟨y31, e32⟩ : ∃ y31, y31 = (x2 + (1 : Int32)) := ⟨_, rfl⟩
    have h1 := h1 y31 e32
    refine x_iinc (v := y31) (L' := [(2, xm_i y31), (0, xm_r (some h)), (1, xm_i x1)]) C 2 dX12_laysRanges_39 rfl (by rw [e32]; rfl) (by decide) rfl ?_
    refine x_goto (tgt := 10) C dX12_laysRanges_42 (by decide) ?_
    refine x_keep (L' := [(0, xm_r (some h)), (1, xm_i x1), (2, xm_i y31)]) C [1, 2, 0] rfl ?_
    exact hZ10 x1 y31 S29 h1
theorem kp_X12_laysRanges_10 {K : xm_K} (h : Nat) (x1 : Int32) (x2 : Int32) (S : xm_S) {g : xm_S → Prop} {Z2 : Int32 → xm_S → Prop} (C : xm_Cx K cX12_laysRanges RX12 5 none rm_X12_laysRanges) (N : xm_Nx K) (hg : ∀ S, g S → xm_q K none S) (hZ2 : ∀ x1 S, Z2 x1 S → xm_W K 0 0 2 [(0, xm_r (some h)), (1, xm_i x1)] [] S) (h1 : wp_X12_laysRanges_10 h x1 x2 S g Z2) : xm_W K 0 0 10 [(0, xm_r (some h)), (1, xm_i x1), (2, xm_i x2)] [] S :=
  h1 (fun x1 x2 S => xm_W K 0 0 10 [(0, xm_r (some h)), (1, xm_i x1), (2, xm_i x2)] [] S) (fun x1 x2 S hb => kp_X12_laysRanges_10B h x1 x2 S C N hg hZ2 (fun x1 x2 S hz => hz) hb)
def wp_X12_laysRanges_175 (h : Nat) (x1 : Int32) (x2 : Int32) (x4 : Int32) (s0 : Int32) (s1 : Int32) (S : xm_S) (g : xm_S → Prop) (Z124 : Int32 → xm_S → Prop) (Z132 : Int32 → Int32 → xm_S → Prop) (Z147 : Int32 → Int32 → Int32 → Int32 → xm_S → Prop) : Prop :=
  ∀ y33, y33 = (s1 + s0) → ∀ y35, y35 = (x4 + (1 : Int32)) → Z147 x1 x2 y33 y35 S
set_option maxRecDepth 100000 in
set_option maxHeartbeats 4000000 in
theorem kp_X12_laysRanges_175 {K : xm_K} (h : Nat) (x1 : Int32) (x2 : Int32) (x4 : Int32) (s0 : Int32) (s1 : Int32) (S : xm_S) {g : xm_S → Prop} {Z124 : Int32 → xm_S → Prop} {Z132 : Int32 → Int32 → xm_S → Prop} {Z147 : Int32 → Int32 → Int32 → Int32 → xm_S → Prop} (C : xm_Cx K cX12_laysRanges RX12 5 none rm_X12_laysRanges) (N : xm_Nx K) (hg : ∀ S, g S → xm_q K none S) (hZ124 : ∀ x1 S, Z124 x1 S → xm_W K 0 0 124 [(0, xm_r (some h)), (1, xm_i x1)] [] S) (hZ132 : ∀ x1 x2 S, Z132 x1 x2 S → xm_W K 0 0 132 [(0, xm_r (some h)), (1, xm_i x1), (2, xm_i x2)] [] S) (hZ147 : ∀ x1 x2 x3 x4 S, Z147 x1 x2 x3 x4 S → xm_W K 0 0 147 [(0, xm_r (some h)), (1, xm_i x1), (2, xm_i x2), (3, xm_i x3), (4, xm_i x4)] [] S) (h1 : wp_X12_laysRanges_175 h x1 x2 x4 s0 s1 S g Z124 Z132 Z147) : xm_W K 0 0 175 [(0, xm_r (some h)), (1, xm_i x1), (2, xm_i x2), (4, xm_i x4)] [xm_i s0, xm_i s1] S := by
  unfold wp_X12_laysRanges_175 at h1
  refine x_iadd C dX12_laysRanges_175 ?_
  refine x_topi (fun y33 e34 => ?_)
  have h1 := h1 y33 e34
  refine x_istore_n (L' := [(3, xm_i y33), (0, xm_r (some h)), (1, xm_i x1), (2, xm_i x2), (4, xm_i x4)]) C dX12_laysRanges_176 rfl (by decide) rfl ?_
  obtain ⟨y35, e36⟩ : ∃ y35, y35 = (x4 + (1 : Int32)) := ⟨_, rfl⟩
  have h1 := h1 y35 e36
  refine x_iinc (v := y35) (L' := [(4, xm_i y35), (3, xm_i y33), (0, xm_r (some h)), (1, xm_i x1), (2, xm_i x2)]) C 4 dX12_laysRanges_177 rfl (by rw [e36]; rfl) (by decide) rfl ?_
  refine x_goto (tgt := 147) C dX12_laysRanges_180 (by decide) ?_
  refine x_keep (L' := [(0, xm_r (some h)), (1, xm_i x1), (2, xm_i x2), (3, xm_i y33), (4, xm_i y35)]) C [2, 3, 4, 1, 0] rfl ?_
  exact hZ147 x1 x2 y33 y35 S h1
def wp_X12_laysRanges_147B (h : Nat) (x1 : Int32) (x2 : Int32) (x3 : Int32) (x4 : Int32) (S : xm_S) (g : xm_S → Prop) (Z124 : Int32 → xm_S → Prop) (Z132 : Int32 → Int32 → xm_S → Prop) (Z147 : Int32 → Int32 → Int32 → Int32 → xm_S → Prop) : Prop :=
  st_t S h = some (12, 0) ∧ ∃ n38, (st_r S h 2) = some n38 ∧ ∃ z41, st_t S n38 = some (100, z41) ∧ vp_in x1 z41 ∧ ((st_i S n38 (x1).toNatClampNeg) ≤ x4 → ∃ n43, (st_r S h 32) = some n43 ∧ ∃ z46, st_t S n43 = some (100, z46) ∧ vp_in (((nI 4) * x1) + x3) z46 ∧ ∀ S48, S48 = st_pi S n43 ((((nI 4) * x1) + x3)).toNatClampNeg x2 → ∀ y50, y50 = (x2 + (1 : Int32)) → Z132 x1 y50 S48) ∧ (¬ (st_i S n38 (x1).toNatClampNeg) ≤ x4 → wp_X12_compares h x1 x4 x2 S (fun r53 S52 => (r53 ≤ 0 → wp_X12_laysRanges_175 h x1 x2 x4 (0 : Int32) x3 S52 g Z124 Z132 Z147) ∧ (¬ r53 ≤ 0 → wp_X12_laysRanges_175 h x1 x2 x4 (1 : Int32) x3 S52 g Z124 Z132 Z147)))
def wp_X12_laysRanges_147 (h : Nat) (x1 : Int32) (x2 : Int32) (x3 : Int32) (x4 : Int32) (S : xm_S) (g : xm_S → Prop) (Z124 : Int32 → xm_S → Prop) (Z132 : Int32 → Int32 → xm_S → Prop) : Prop :=
  ∀ Z147 : Int32 → Int32 → Int32 → Int32 → xm_S → Prop, (∀ x1 x2 x3 x4 S, wp_X12_laysRanges_147B h x1 x2 x3 x4 S g Z124 Z132 Z147 → Z147 x1 x2 x3 x4 S) → Z147 x1 x2 x3 x4 S
set_option maxRecDepth 100000 in
set_option maxHeartbeats 4000000 in
theorem kp_X12_laysRanges_147B {K : xm_K} (h : Nat) (x1 : Int32) (x2 : Int32) (x3 : Int32) (x4 : Int32) (S : xm_S) {g : xm_S → Prop} {Z124 : Int32 → xm_S → Prop} {Z132 : Int32 → Int32 → xm_S → Prop} {Z147 : Int32 → Int32 → Int32 → Int32 → xm_S → Prop} (C : xm_Cx K cX12_laysRanges RX12 5 none rm_X12_laysRanges) (N : xm_Nx K) (hg : ∀ S, g S → xm_q K none S) (hZ124 : ∀ x1 S, Z124 x1 S → xm_W K 0 0 124 [(0, xm_r (some h)), (1, xm_i x1)] [] S) (hZ132 : ∀ x1 x2 S, Z132 x1 x2 S → xm_W K 0 0 132 [(0, xm_r (some h)), (1, xm_i x1), (2, xm_i x2)] [] S) (hZ147 : ∀ x1 x2 x3 x4 S, Z147 x1 x2 x3 x4 S → xm_W K 0 0 147 [(0, xm_r (some h)), (1, xm_i x1), (2, xm_i x2), (3, xm_i x3), (4, xm_i x4)] [] S) (h1 : wp_X12_laysRanges_147B h x1 x2 x3 x4 S g Z124 Z132 Z147) : xm_W K 0 0 147 [(0, xm_r (some h)), (1, xm_i x1), (2, xm_i x2), (3, xm_i x3), (4, xm_i x4)] [] S := by
  unfold wp_X12_laysRanges_147B at h1
  refine x_iload C 4 dX12_laysRanges_147 rfl ?_
  refine x_aload_n C 0 dX12_laysRanges_149 rfl rfl ?_
  obtain ⟨ht37, h1⟩ := h1
  refine x_getf_r (n := h) C rfl ht37 fd_175 (by decide) dX12_laysRanges_150 ?_
  refine x_iload_n C 1 dX12_laysRanges_153 rfl rfl ?_
  obtain ⟨n38, hr39, h1⟩ := h1
  obtain ⟨z41, ht40, h1⟩ := h1
  obtain ⟨hi42, h1⟩ := h1
  refine x_iald (n := n38) C hr39 ht40 hi42 dX12_laysRanges_154 ?_
  refine x_icmp_ge (tgt := 183) C dX12_laysRanges_155 (by decide) (fun z9 => ?_) (fun z9 => ?_)
  · have h1 := h1.1 z9
    refine x_aload_n C 0 dX12_laysRanges_183 rfl rfl ?_
    refine x_getf_r (n := h) C rfl ht37 fd_176 (by decide) dX12_laysRanges_184 ?_
    refine x_iconst (v := (nI 4)) C dX12_laysRanges_187 (by decide) ?_
    refine x_iload_n C 1 dX12_laysRanges_188 rfl rfl ?_
    refine x_imul C dX12_laysRanges_189 ?_
    refine x_iload_n C 3 dX12_laysRanges_190 rfl rfl ?_
    refine x_iadd C dX12_laysRanges_191 ?_
    refine x_iload_n C 2 dX12_laysRanges_192 rfl rfl ?_
    obtain ⟨n43, hr44, h1⟩ := h1
    obtain ⟨z46, ht45, h1⟩ := h1
    obtain ⟨hi47, h1⟩ := h1
    refine x_iast (n := n43) C hr44 ht45 hi47 dX12_laysRanges_193 ?_
    refine x_topS (fun S48 e49 => ?_)
    have h1 := h1 S48 e49
    obtain ⟨y50, e51⟩ : ∃ y50, y50 = (x2 + (1 : Int32)) := ⟨_, rfl⟩
    have h1 := h1 y50 e51
    refine x_iinc (v := y50) (L' := [(2, xm_i y50), (0, xm_r (some h)), (1, xm_i x1), (3, xm_i x3), (4, xm_i x4)]) C 2 dX12_laysRanges_194 rfl (by rw [e51]; rfl) (by decide) rfl ?_
    refine x_goto (tgt := 132) C dX12_laysRanges_197 (by decide) ?_
    refine x_keep (L' := [(0, xm_r (some h)), (1, xm_i x1), (2, xm_i y50)]) C [1, 2, 0] rfl ?_
    exact hZ132 x1 y50 S48 h1
  · have h1 := h1.2 z9
    refine x_iload_n C 3 dX12_laysRanges_158 rfl rfl ?_
    refine x_aload_n C 0 dX12_laysRanges_159 rfl rfl ?_
    refine x_iload_n C 1 dX12_laysRanges_160 rfl rfl ?_
    refine x_iload C 4 dX12_laysRanges_161 rfl ?_
    refine x_iload_n C 2 dX12_laysRanges_163 rfl rfl ?_
    refine x_callV (rm' := rm_X12_compares) (n := h) C (kp_X12_compares_met h1) lk_114 gw_674 gw_675 xv_12 rfl rfl ht37 rfl (Nat.le_of_ble_eq_true rfl) ⟨Nat.le_of_ble_eq_true rfl, Nat.le_of_ble_eq_true rfl, (Nat.le_of_ble_eq_true rfl), (Nat.le_of_ble_eq_true rfl)⟩ dX12_laysRanges_164 xm_kx (xm_ki (fun r53 S52 h1 => ?_))
    refine x_if_le (tgt := 174) C dX12_laysRanges_167 (by decide) (fun z9 => ?_) (fun z9 => ?_)
    · have h1 := h1.1 z9
      refine x_iconst (v := (0 : Int32)) C dX12_laysRanges_174 (by decide) ?_
      refine x_keep (L' := [(0, xm_r (some h)), (1, xm_i x1), (2, xm_i x2), (4, xm_i x4)]) C [0, 1, 2, 4] rfl ?_
      exact kp_X12_laysRanges_175 h x1 x2 x4 (0 : Int32) x3 S52 C N hg hZ124 hZ132 hZ147 h1
    · have h1 := h1.2 z9
      refine x_iconst (v := (1 : Int32)) C dX12_laysRanges_170 (by decide) ?_
      refine x_goto (tgt := 175) C dX12_laysRanges_171 (by decide) ?_
      refine x_keep (L' := [(0, xm_r (some h)), (1, xm_i x1), (2, xm_i x2), (4, xm_i x4)]) C [0, 1, 2, 4] rfl ?_
      exact kp_X12_laysRanges_175 h x1 x2 x4 (1 : Int32) x3 S52 C N hg hZ124 hZ132 hZ147 h1
theorem kp_X12_laysRanges_147 {K : xm_K} (h : Nat) (x1 : Int32) (x2 : Int32) (x3 : Int32) (x4 : Int32) (S : xm_S) {g : xm_S → Prop} {Z124 : Int32 → xm_S → Prop} {Z132 : Int32 → Int32 → xm_S → Prop} (C : xm_Cx K cX12_laysRanges RX12 5 none rm_X12_laysRanges) (N : xm_Nx K) (hg : ∀ S, g S → xm_q K none S) (hZ124 : ∀ x1 S, Z124 x1 S → xm_W K 0 0 124 [(0, xm_r (some h)), (1, xm_i x1)] [] S) (hZ132 : ∀ x1 x2 S, Z132 x1 x2 S → xm_W K 0 0 132 [(0, xm_r (some h)), (1, xm_i x1), (2, xm_i x2)] [] S) (h1 : wp_X12_laysRanges_147 h x1 x2 x3 x4 S g Z124 Z132) : xm_W K 0 0 147 [(0, xm_r (some h)), (1, xm_i x1), (2, xm_i x2), (3, xm_i x3), (4, xm_i x4)] [] S :=
  h1 (fun x1 x2 x3 x4 S => xm_W K 0 0 147 [(0, xm_r (some h)), (1, xm_i x1), (2, xm_i x2), (3, xm_i x3), (4, xm_i x4)] [] S) (fun x1 x2 x3 x4 S hb => kp_X12_laysRanges_147B h x1 x2 x3 x4 S C N hg hZ124 hZ132 (fun x1 x2 x3 x4 S hz => hz) hb)
def wp_X12_laysRanges_132B (h : Nat) (x1 : Int32) (x2 : Int32) (S : xm_S) (g : xm_S → Prop) (Z124 : Int32 → xm_S → Prop) (Z132 : Int32 → Int32 → xm_S → Prop) : Prop :=
  st_t S h = some (12, 0) ∧ ∃ n55, (st_r S h 2) = some n55 ∧ ∃ z58, st_t S n55 = some (100, z58) ∧ vp_in x1 z58 ∧ ((st_i S n55 (x1).toNatClampNeg) ≤ x2 → ∀ y60, y60 = (x1 + (1 : Int32)) → Z124 y60 S) ∧ (¬ (st_i S n55 (x1).toNatClampNeg) ≤ x2 → wp_X12_laysRanges_147 h x1 x2 (0 : Int32) (0 : Int32) S g Z124 Z132)
def wp_X12_laysRanges_132 (h : Nat) (x1 : Int32) (x2 : Int32) (S : xm_S) (g : xm_S → Prop) (Z124 : Int32 → xm_S → Prop) : Prop :=
  ∀ Z132 : Int32 → Int32 → xm_S → Prop, (∀ x1 x2 S, wp_X12_laysRanges_132B h x1 x2 S g Z124 Z132 → Z132 x1 x2 S) → Z132 x1 x2 S
set_option maxRecDepth 100000 in
set_option maxHeartbeats 4000000 in
theorem kp_X12_laysRanges_132B {K : xm_K} (h : Nat) (x1 : Int32) (x2 : Int32) (S : xm_S) {g : xm_S → Prop} {Z124 : Int32 → xm_S → Prop} {Z132 : Int32 → Int32 → xm_S → Prop} (C : xm_Cx K cX12_laysRanges RX12 5 none rm_X12_laysRanges) (N : xm_Nx K) (hg : ∀ S, g S → xm_q K none S) (hZ124 : ∀ x1 S, Z124 x1 S → xm_W K 0 0 124 [(0, xm_r (some h)), (1, xm_i x1)] [] S) (hZ132 : ∀ x1 x2 S, Z132 x1 x2 S → xm_W K 0 0 132 [(0, xm_r (some h)), (1, xm_i x1), (2, xm_i x2)] [] S) (h1 : wp_X12_laysRanges_132B h x1 x2 S g Z124 Z132) : xm_W K 0 0 132 [(0, xm_r (some h)), (1, xm_i x1), (2, xm_i x2)] [] S := by
  unfold wp_X12_laysRanges_132B at h1
  refine x_iload_n C 2 dX12_laysRanges_132 rfl rfl ?_
  refine x_aload_n C 0 dX12_laysRanges_133 rfl rfl ?_
  obtain ⟨ht54, h1⟩ := h1
  refine x_getf_r (n := h) C rfl ht54 fd_175 (by decide) dX12_laysRanges_134 ?_
  refine x_iload_n C 1 dX12_laysRanges_137 rfl rfl ?_
  obtain ⟨n55, hr56, h1⟩ := h1
  obtain ⟨z58, ht57, h1⟩ := h1
  obtain ⟨hi59, h1⟩ := h1
  refine x_iald (n := n55) C hr56 ht57 hi59 dX12_laysRanges_138 ?_
  refine x_icmp_ge (tgt := 200) C dX12_laysRanges_139 (by decide) (fun z9 => ?_) (fun z9 => ?_)
  · have h1 := h1.1 z9
    obtain ⟨y60, e61⟩ : ∃ y60, y60 = (x1 + (1 : Int32)) := ⟨_, rfl⟩
    have h1 := h1 y60 e61
    refine x_iinc (v := y60) (L' := [(1, xm_i y60), (0, xm_r (some h)), (2, xm_i x2)]) C 1 dX12_laysRanges_200 rfl (by rw [e61]; rfl) (by decide) rfl ?_
    refine x_goto (tgt := 124) C dX12_laysRanges_203 (by decide) ?_
    refine x_keep (L' := [(0, xm_r (some h)), (1, xm_i y60)]) C [1, 0] rfl ?_
    exact hZ124 y60 S h1
  · have h1 := h1.2 z9
    refine x_iconst (v := (0 : Int32)) C dX12_laysRanges_142 (by decide) ?_
    refine x_istore_n (L' := [(3, xm_i (0 : Int32)), (0, xm_r (some h)), (1, xm_i x1), (2, xm_i x2)]) C dX12_laysRanges_143 rfl (by decide) rfl ?_
    refine x_iconst (v := (0 : Int32)) C dX12_laysRanges_144 (by decide) ?_
    refine x_istore (L' := [(4, xm_i (0 : Int32)), (3, xm_i (0 : Int32)), (0, xm_r (some h)), (1, xm_i x1), (2, xm_i x2)]) C dX12_laysRanges_145 (by decide) rfl ?_
    refine x_keep (L' := [(0, xm_r (some h)), (1, xm_i x1), (2, xm_i x2), (3, xm_i (0 : Int32)), (4, xm_i (0 : Int32))]) C [2, 3, 4, 1, 0] rfl ?_
    exact kp_X12_laysRanges_147 h x1 x2 (0 : Int32) (0 : Int32) S C N hg hZ124 hZ132 h1
theorem kp_X12_laysRanges_132 {K : xm_K} (h : Nat) (x1 : Int32) (x2 : Int32) (S : xm_S) {g : xm_S → Prop} {Z124 : Int32 → xm_S → Prop} (C : xm_Cx K cX12_laysRanges RX12 5 none rm_X12_laysRanges) (N : xm_Nx K) (hg : ∀ S, g S → xm_q K none S) (hZ124 : ∀ x1 S, Z124 x1 S → xm_W K 0 0 124 [(0, xm_r (some h)), (1, xm_i x1)] [] S) (h1 : wp_X12_laysRanges_132 h x1 x2 S g Z124) : xm_W K 0 0 132 [(0, xm_r (some h)), (1, xm_i x1), (2, xm_i x2)] [] S :=
  h1 (fun x1 x2 S => xm_W K 0 0 132 [(0, xm_r (some h)), (1, xm_i x1), (2, xm_i x2)] [] S) (fun x1 x2 S hb => kp_X12_laysRanges_132B h x1 x2 S C N hg hZ124 (fun x1 x2 S hz => hz) hb)
def wp_X12_laysRanges_124B (h : Nat) (x1 : Int32) (S : xm_S) (g : xm_S → Prop) (Z124 : Int32 → xm_S → Prop) : Prop :=
  ((nI 6) ≤ x1 → g S) ∧ (¬ (nI 6) ≤ x1 → wp_X12_laysRanges_132 h x1 (0 : Int32) S g Z124)
def wp_X12_laysRanges_124 (h : Nat) (x1 : Int32) (S : xm_S) (g : xm_S → Prop) : Prop :=
  ∀ Z124 : Int32 → xm_S → Prop, (∀ x1 S, wp_X12_laysRanges_124B h x1 S g Z124 → Z124 x1 S) → Z124 x1 S
set_option maxRecDepth 100000 in
set_option maxHeartbeats 4000000 in
theorem kp_X12_laysRanges_124B {K : xm_K} (h : Nat) (x1 : Int32) (S : xm_S) {g : xm_S → Prop} {Z124 : Int32 → xm_S → Prop} (C : xm_Cx K cX12_laysRanges RX12 5 none rm_X12_laysRanges) (N : xm_Nx K) (hg : ∀ S, g S → xm_q K none S) (hZ124 : ∀ x1 S, Z124 x1 S → xm_W K 0 0 124 [(0, xm_r (some h)), (1, xm_i x1)] [] S) (h1 : wp_X12_laysRanges_124B h x1 S g Z124) : xm_W K 0 0 124 [(0, xm_r (some h)), (1, xm_i x1)] [] S := by
  unfold wp_X12_laysRanges_124B at h1
  refine x_iload_n C 1 dX12_laysRanges_124 rfl rfl ?_
  refine x_bipush (v := (nI 6)) C dX12_laysRanges_125 (by decide) ?_
  refine x_icmp_ge (tgt := 206) C dX12_laysRanges_127 (by decide) (fun z9 => ?_) (fun z9 => ?_)
  · have h1 := h1.1 z9
    exact x_vret C (Nat.le_of_ble_eq_true rfl) (Nat.le_of_ble_eq_true rfl) rfl dX12_laysRanges_206 (hg _ h1)
  · have h1 := h1.2 z9
    refine x_iconst (v := (0 : Int32)) C dX12_laysRanges_130 (by decide) ?_
    refine x_istore_n (L' := [(2, xm_i (0 : Int32)), (0, xm_r (some h)), (1, xm_i x1)]) C dX12_laysRanges_131 rfl (by decide) rfl ?_
    refine x_keep (L' := [(0, xm_r (some h)), (1, xm_i x1), (2, xm_i (0 : Int32))]) C [1, 2, 0] rfl ?_
    exact kp_X12_laysRanges_132 h x1 (0 : Int32) S C N hg hZ124 h1
theorem kp_X12_laysRanges_124 {K : xm_K} (h : Nat) (x1 : Int32) (S : xm_S) {g : xm_S → Prop} (C : xm_Cx K cX12_laysRanges RX12 5 none rm_X12_laysRanges) (N : xm_Nx K) (hg : ∀ S, g S → xm_q K none S)  (h1 : wp_X12_laysRanges_124 h x1 S g) : xm_W K 0 0 124 [(0, xm_r (some h)), (1, xm_i x1)] [] S :=
  h1 (fun x1 S => xm_W K 0 0 124 [(0, xm_r (some h)), (1, xm_i x1)] [] S) (fun x1 S hb => kp_X12_laysRanges_124B h x1 S C N hg (fun x1 S hz => hz) hb)
def wp_X12_laysRanges_93B (h : Nat) (x1 : Int32) (S : xm_S) (g : xm_S → Prop) (Z93 : Int32 → xm_S → Prop) : Prop :=
  st_t S h = some (12, 0) ∧ ((st_i S h 18) ≤ x1 → wp_X12_laysRanges_124 h (0 : Int32) S g) ∧ (¬ (st_i S h 18) ≤ x1 → ∃ n63, (st_r S h 19) = some n63 ∧ ∃ z66, st_t S n63 = some (100, z66) ∧ vp_in x1 z66 ∧ wp_X12_laysRange h ((nI 144) + x1) (st_i S n63 (x1).toNatClampNeg) S (fun S68 => ∀ y70, y70 = (x1 + (1 : Int32)) → Z93 y70 S68))
def wp_X12_laysRanges_93 (h : Nat) (x1 : Int32) (S : xm_S) (g : xm_S → Prop) : Prop :=
  ∀ Z93 : Int32 → xm_S → Prop, (∀ x1 S, wp_X12_laysRanges_93B h x1 S g Z93 → Z93 x1 S) → Z93 x1 S
set_option maxRecDepth 100000 in
set_option maxHeartbeats 4000000 in
theorem kp_X12_laysRanges_93B {K : xm_K} (h : Nat) (x1 : Int32) (S : xm_S) {g : xm_S → Prop} {Z93 : Int32 → xm_S → Prop} (C : xm_Cx K cX12_laysRanges RX12 5 none rm_X12_laysRanges) (N : xm_Nx K) (hg : ∀ S, g S → xm_q K none S) (hZ93 : ∀ x1 S, Z93 x1 S → xm_W K 0 0 93 [(0, xm_r (some h)), (1, xm_i x1)] [] S) (h1 : wp_X12_laysRanges_93B h x1 S g Z93) : xm_W K 0 0 93 [(0, xm_r (some h)), (1, xm_i x1)] [] S := by
  unfold wp_X12_laysRanges_93B at h1
  refine x_iload_n C 1 dX12_laysRanges_93 rfl rfl ?_
  refine x_aload_n C 0 dX12_laysRanges_94 rfl rfl ?_
  obtain ⟨ht62, h1⟩ := h1
  refine x_getf_i (n := h) C rfl ht62 fd_187 (by decide) dX12_laysRanges_95 ?_
  refine x_icmp_ge (tgt := 122) C dX12_laysRanges_98 (by decide) (fun z9 => ?_) (fun z9 => ?_)
  · have h1 := h1.1 z9
    refine x_iconst (v := (0 : Int32)) C dX12_laysRanges_122 (by decide) ?_
    refine x_istore_n (L' := [(1, xm_i (0 : Int32)), (0, xm_r (some h))]) C dX12_laysRanges_123 rfl (by decide) rfl ?_
    refine x_keep (L' := [(0, xm_r (some h)), (1, xm_i (0 : Int32))]) C [1, 0] rfl ?_
    exact kp_X12_laysRanges_124 h (0 : Int32) S C N hg  h1
  · have h1 := h1.2 z9
    refine x_aload_n C 0 dX12_laysRanges_101 rfl rfl ?_
    refine x_sipush (v := (nI 144)) C dX12_laysRanges_102 (by decide) ?_
    refine x_iload_n C 1 dX12_laysRanges_105 rfl rfl ?_
    refine x_iadd C dX12_laysRanges_106 ?_
    refine x_aload_n C 0 dX12_laysRanges_107 rfl rfl ?_
    refine x_getf_r (n := h) C rfl ht62 fd_188 (by decide) dX12_laysRanges_108 ?_
    refine x_iload_n C 1 dX12_laysRanges_111 rfl rfl ?_
    obtain ⟨n63, hr64, h1⟩ := h1
    obtain ⟨z66, ht65, h1⟩ := h1
    obtain ⟨hi67, h1⟩ := h1
    refine x_iald (n := n63) C hr64 ht65 hi67 dX12_laysRanges_112 ?_
    refine x_callV (rm' := rm_X12_laysRange) (n := h) C (kp_X12_laysRange_met h1) lk_113 gw_670 gw_671 xv_12 rfl rfl ht62 rfl (Nat.le_of_ble_eq_true rfl) ⟨Nat.le_of_ble_eq_true rfl, Nat.le_of_ble_eq_true rfl, (Nat.le_of_ble_eq_true rfl), (Nat.le_of_ble_eq_true rfl)⟩ dX12_laysRanges_113 xm_kx (xm_kv (fun S68 h1 => ?_))
    obtain ⟨y70, e71⟩ : ∃ y70, y70 = (x1 + (1 : Int32)) := ⟨_, rfl⟩
    have h1 := h1 y70 e71
    refine x_iinc (v := y70) (L' := [(1, xm_i y70), (0, xm_r (some h))]) C 1 dX12_laysRanges_116 rfl (by rw [e71]; rfl) (by decide) rfl ?_
    refine x_goto (tgt := 93) C dX12_laysRanges_119 (by decide) ?_
    refine x_keep (L' := [(0, xm_r (some h)), (1, xm_i y70)]) C [1, 0] rfl ?_
    exact hZ93 y70 S68 h1
theorem kp_X12_laysRanges_93 {K : xm_K} (h : Nat) (x1 : Int32) (S : xm_S) {g : xm_S → Prop} (C : xm_Cx K cX12_laysRanges RX12 5 none rm_X12_laysRanges) (N : xm_Nx K) (hg : ∀ S, g S → xm_q K none S)  (h1 : wp_X12_laysRanges_93 h x1 S g) : xm_W K 0 0 93 [(0, xm_r (some h)), (1, xm_i x1)] [] S :=
  h1 (fun x1 S => xm_W K 0 0 93 [(0, xm_r (some h)), (1, xm_i x1)] [] S) (fun x1 S hb => kp_X12_laysRanges_93B h x1 S C N hg (fun x1 S hz => hz) hb)
def wp_X12_laysRanges_2B (h : Nat) (x1 : Int32) (S : xm_S) (g : xm_S → Prop) (Z2 : Int32 → xm_S → Prop) : Prop :=
  ((nI 24) ≤ x1 → wp_X12_laysRanges_93 h (0 : Int32) S g) ∧ (¬ (nI 24) ≤ x1 → wp_X12_laysRanges_10 h x1 (0 : Int32) S g Z2)
def wp_X12_laysRanges_2 (h : Nat) (x1 : Int32) (S : xm_S) (g : xm_S → Prop) : Prop :=
  ∀ Z2 : Int32 → xm_S → Prop, (∀ x1 S, wp_X12_laysRanges_2B h x1 S g Z2 → Z2 x1 S) → Z2 x1 S
set_option maxRecDepth 100000 in
set_option maxHeartbeats 4000000 in
theorem kp_X12_laysRanges_2B {K : xm_K} (h : Nat) (x1 : Int32) (S : xm_S) {g : xm_S → Prop} {Z2 : Int32 → xm_S → Prop} (C : xm_Cx K cX12_laysRanges RX12 5 none rm_X12_laysRanges) (N : xm_Nx K) (hg : ∀ S, g S → xm_q K none S) (hZ2 : ∀ x1 S, Z2 x1 S → xm_W K 0 0 2 [(0, xm_r (some h)), (1, xm_i x1)] [] S) (h1 : wp_X12_laysRanges_2B h x1 S g Z2) : xm_W K 0 0 2 [(0, xm_r (some h)), (1, xm_i x1)] [] S := by
  unfold wp_X12_laysRanges_2B at h1
  refine x_iload_n C 1 dX12_laysRanges_2 rfl rfl ?_
  refine x_bipush (v := (nI 24)) C dX12_laysRanges_3 (by decide) ?_
  refine x_icmp_ge (tgt := 91) C dX12_laysRanges_5 (by decide) (fun z9 => ?_) (fun z9 => ?_)
  · have h1 := h1.1 z9
    refine x_iconst (v := (0 : Int32)) C dX12_laysRanges_91 (by decide) ?_
    refine x_istore_n (L' := [(1, xm_i (0 : Int32)), (0, xm_r (some h))]) C dX12_laysRanges_92 rfl (by decide) rfl ?_
    refine x_keep (L' := [(0, xm_r (some h)), (1, xm_i (0 : Int32))]) C [1, 0] rfl ?_
    exact kp_X12_laysRanges_93 h (0 : Int32) S C N hg  h1
  · have h1 := h1.2 z9
    refine x_iconst (v := (0 : Int32)) C dX12_laysRanges_8 (by decide) ?_
    refine x_istore_n (L' := [(2, xm_i (0 : Int32)), (0, xm_r (some h)), (1, xm_i x1)]) C dX12_laysRanges_9 rfl (by decide) rfl ?_
    refine x_keep (L' := [(0, xm_r (some h)), (1, xm_i x1), (2, xm_i (0 : Int32))]) C [1, 2, 0] rfl ?_
    exact kp_X12_laysRanges_10 h x1 (0 : Int32) S C N hg hZ2 h1
theorem kp_X12_laysRanges_2 {K : xm_K} (h : Nat) (x1 : Int32) (S : xm_S) {g : xm_S → Prop} (C : xm_Cx K cX12_laysRanges RX12 5 none rm_X12_laysRanges) (N : xm_Nx K) (hg : ∀ S, g S → xm_q K none S)  (h1 : wp_X12_laysRanges_2 h x1 S g) : xm_W K 0 0 2 [(0, xm_r (some h)), (1, xm_i x1)] [] S :=
  h1 (fun x1 S => xm_W K 0 0 2 [(0, xm_r (some h)), (1, xm_i x1)] [] S) (fun x1 S hb => kp_X12_laysRanges_2B h x1 S C N hg (fun x1 S hz => hz) hb)
def wp_X12_laysRanges (h : Nat)  (S : xm_S) (g : xm_S → Prop) : Prop :=
  wp_X12_laysRanges_2 h (0 : Int32) S g
set_option maxRecDepth 100000 in
set_option maxHeartbeats 4000000 in
theorem kp_X12_laysRanges {K : xm_K} (h : Nat)  (S : xm_S) {g : xm_S → Prop} (C : xm_Cx K cX12_laysRanges RX12 5 none rm_X12_laysRanges) (N : xm_Nx K) (hg : ∀ S, g S → xm_q K none S)  (h1 : wp_X12_laysRanges h  S g) : xm_W K 0 0 0 [(0, xm_r (some h))] [] S := by
  unfold wp_X12_laysRanges at h1
  refine x_iconst (v := (0 : Int32)) C dX12_laysRanges_0 (by decide) ?_
  refine x_istore_n (L' := [(1, xm_i (0 : Int32)), (0, xm_r (some h))]) C dX12_laysRanges_1 rfl (by decide) rfl ?_
  refine x_keep (L' := [(0, xm_r (some h)), (1, xm_i (0 : Int32))]) C [1, 0] rfl ?_
  exact kp_X12_laysRanges_2 h (0 : Int32) S C N hg  h1
theorem kp_X12_laysRanges_met {h : Nat}  {S : xm_S} {g : xm_S → Prop}  (h1 : wp_X12_laysRanges h  S g) : xm_Met yX12_laysRanges cX12_laysRanges 5 none rm_X12_laysRanges [xm_r (some h)] S (xm_qv g) xm_nox :=
  xm_ofW RX12 (by decide +kernel) rfl (Nat.le_of_ble_eq_true rfl) (fun K C N hq hx hi => kp_X12_laysRanges h  S C N (fun S h => by rw [hq]; exact ⟨rfl, h⟩)  h1)
def rm_X12_closures : Room := { frames := 10, cells := 0, slots := 0, locals := 228 }
theorem dX12_closures_0 : decode cX12_closures 0 = .ok (.aload_n 0, 1) := by decide +kernel
theorem dX12_closures_1 : decode cX12_closures 1 = .ok (.iload_n 1, 1) := by decide +kernel
theorem dX12_closures_2 : decode cX12_closures 2 = .ok (.invokestatic 302, 3) := by decide +kernel
theorem dX12_closures_5 : decode cX12_closures 5 = .ok (.ifCond .eq 7, 3) := by decide +kernel
theorem dX12_closures_8 : decode cX12_closures 8 = .ok (.iconst 0, 1) := by decide +kernel
theorem dX12_closures_9 : decode cX12_closures 9 = .ok (.goto 4, 3) := by decide +kernel
theorem dX12_closures_12 : decode cX12_closures 12 = .ok (.iconst 1, 1) := by decide +kernel
theorem dX12_closures_13 : decode cX12_closures 13 = .ok (.invokevirtual 182, 3) := by decide +kernel
theorem dX12_closures_16 : decode cX12_closures 16 = .ok (.ifCond .ne 5, 3) := by decide +kernel
theorem dX12_closures_19 : decode cX12_closures 19 = .ok (.iconst 0, 1) := by decide +kernel
theorem dX12_closures_20 : decode cX12_closures 20 = .ok (.ireturn, 1) := by decide +kernel
theorem dX12_closures_21 : decode cX12_closures 21 = .ok (.iconst 0, 1) := by decide +kernel
theorem dX12_closures_22 : decode cX12_closures 22 = .ok (.istore_n 2, 1) := by decide +kernel
theorem dX12_closures_23 : decode cX12_closures 23 = .ok (.aload_n 0, 1) := by decide +kernel
theorem dX12_closures_24 : decode cX12_closures 24 = .ok (.invokevirtual 287, 3) := by decide +kernel
theorem dX12_closures_27 : decode cX12_closures 27 = .ok (.iconst 0, 1) := by decide +kernel
theorem dX12_closures_28 : decode cX12_closures 28 = .ok (.istore_n 3, 1) := by decide +kernel
theorem dX12_closures_29 : decode cX12_closures 29 = .ok (.iload_n 3, 1) := by decide +kernel
theorem dX12_closures_30 : decode cX12_closures 30 = .ok (.sipush 15625, 3) := by decide +kernel
theorem dX12_closures_33 : decode cX12_closures 33 = .ok (.if_icmp .ge 36, 3) := by decide +kernel
theorem dX12_closures_36 : decode cX12_closures 36 = .ok (.iload_n 2, 1) := by decide +kernel
theorem dX12_closures_37 : decode cX12_closures 37 = .ok (.aload_n 0, 1) := by decide +kernel
theorem dX12_closures_38 : decode cX12_closures 38 = .ok (.iload_n 3, 1) := by decide +kernel
theorem dX12_closures_39 : decode cX12_closures 39 = .ok (.invokevirtual 290, 3) := by decide +kernel
theorem dX12_closures_42 : decode cX12_closures 42 = .ok (.ifCond .eq 18, 3) := by decide +kernel
theorem dX12_closures_45 : decode cX12_closures 45 = .ok (.aload_n 0, 1) := by decide +kernel
theorem dX12_closures_46 : decode cX12_closures 46 = .ok (.iload_n 1, 1) := by decide +kernel
theorem dX12_closures_47 : decode cX12_closures 47 = .ok (.bipush 15, 2) := by decide +kernel
theorem dX12_closures_49 : decode cX12_closures 49 = .ok (.iconst (-1), 1) := by decide +kernel
theorem dX12_closures_50 : decode cX12_closures 50 = .ok (.invokevirtual 299, 3) := by decide +kernel
theorem dX12_closures_53 : decode cX12_closures 53 = .ok (.ifCond .eq 7, 3) := by decide +kernel
theorem dX12_closures_56 : decode cX12_closures 56 = .ok (.iconst 1, 1) := by decide +kernel
theorem dX12_closures_57 : decode cX12_closures 57 = .ok (.goto 4, 3) := by decide +kernel
theorem dX12_closures_60 : decode cX12_closures 60 = .ok (.iconst 0, 1) := by decide +kernel
theorem dX12_closures_61 : decode cX12_closures 61 = .ok (.iadd, 1) := by decide +kernel
theorem dX12_closures_62 : decode cX12_closures 62 = .ok (.istore_n 2, 1) := by decide +kernel
theorem dX12_closures_63 : decode cX12_closures 63 = .ok (.iinc 3 1, 3) := by decide +kernel
theorem dX12_closures_66 : decode cX12_closures 66 = .ok (.goto (-37), 3) := by decide +kernel
theorem dX12_closures_69 : decode cX12_closures 69 = .ok (.iload_n 2, 1) := by decide +kernel
theorem dX12_closures_70 : decode cX12_closures 70 = .ok (.ireturn, 1) := by decide +kernel
def wp_X12_closures_61 (h : Nat) (x1 : Int32) (x3 : Int32) (s0 : Int32) (s1 : Int32) (S : xm_S) (g : Int32 → xm_S → Prop) (Z29 : Int32 → Int32 → Int32 → xm_S → Prop) : Prop :=
  ∀ y1, y1 = (s1 + s0) → ∀ y3, y3 = (x3 + (1 : Int32)) → Z29 x1 y1 y3 S
set_option maxRecDepth 100000 in
set_option maxHeartbeats 4000000 in
theorem kp_X12_closures_61 {K : xm_K} (h : Nat) (x1 : Int32) (x3 : Int32) (s0 : Int32) (s1 : Int32) (S : xm_S) {g : Int32 → xm_S → Prop} {Z29 : Int32 → Int32 → Int32 → xm_S → Prop} (C : xm_Cx K cX12_closures RX12 4 (some (FieldType.int)) rm_X12_closures) (N : xm_Nx K) (hg : ∀ v S, g v S → xm_q K (some (xm_i v)) S) (hZ29 : ∀ x1 x2 x3 S, Z29 x1 x2 x3 S → xm_W K 0 0 29 [(0, xm_r (some h)), (1, xm_i x1), (2, xm_i x2), (3, xm_i x3)] [] S) (h1 : wp_X12_closures_61 h x1 x3 s0 s1 S g Z29) : xm_W K 0 0 61 [(0, xm_r (some h)), (1, xm_i x1), (3, xm_i x3)] [xm_i s0, xm_i s1] S := by
  unfold wp_X12_closures_61 at h1
  refine x_iadd C dX12_closures_61 ?_
  refine x_topi (fun y1 e2 => ?_)
  have h1 := h1 y1 e2
  refine x_istore_n (L' := [(2, xm_i y1), (0, xm_r (some h)), (1, xm_i x1), (3, xm_i x3)]) C dX12_closures_62 rfl (by decide) rfl ?_
  obtain ⟨y3, e4⟩ : ∃ y3, y3 = (x3 + (1 : Int32)) := ⟨_, rfl⟩
  have h1 := h1 y3 e4
  refine x_iinc (v := y3) (L' := [(3, xm_i y3), (2, xm_i y1), (0, xm_r (some h)), (1, xm_i x1)]) C 3 dX12_closures_63 rfl (by rw [e4]; rfl) (by decide) rfl ?_
  refine x_goto (tgt := 29) C dX12_closures_66 (by decide) ?_
  refine x_keep (L' := [(0, xm_r (some h)), (1, xm_i x1), (2, xm_i y1), (3, xm_i y3)]) C [2, 3, 1, 0] rfl ?_
  exact hZ29 x1 y1 y3 S h1
def wp_X12_closures_60 (h : Nat) (x1 : Int32) (x3 : Int32) (s0 : Int32) (S : xm_S) (g : Int32 → xm_S → Prop) (Z29 : Int32 → Int32 → Int32 → xm_S → Prop) : Prop :=
  wp_X12_closures_61 h x1 x3 (0 : Int32) s0 S g Z29
set_option maxRecDepth 100000 in
set_option maxHeartbeats 4000000 in
theorem kp_X12_closures_60 {K : xm_K} (h : Nat) (x1 : Int32) (x3 : Int32) (s0 : Int32) (S : xm_S) {g : Int32 → xm_S → Prop} {Z29 : Int32 → Int32 → Int32 → xm_S → Prop} (C : xm_Cx K cX12_closures RX12 4 (some (FieldType.int)) rm_X12_closures) (N : xm_Nx K) (hg : ∀ v S, g v S → xm_q K (some (xm_i v)) S) (hZ29 : ∀ x1 x2 x3 S, Z29 x1 x2 x3 S → xm_W K 0 0 29 [(0, xm_r (some h)), (1, xm_i x1), (2, xm_i x2), (3, xm_i x3)] [] S) (h1 : wp_X12_closures_60 h x1 x3 s0 S g Z29) : xm_W K 0 0 60 [(0, xm_r (some h)), (1, xm_i x1), (3, xm_i x3)] [xm_i s0] S := by
  unfold wp_X12_closures_60 at h1
  refine x_iconst (v := (0 : Int32)) C dX12_closures_60 (by decide) ?_
  exact kp_X12_closures_61 h x1 x3 (0 : Int32) s0 S C N hg hZ29 h1
def wp_X12_closures_29B (h : Nat) (x1 : Int32) (x2 : Int32) (x3 : Int32) (S : xm_S) (g : Int32 → xm_S → Prop) (Z29 : Int32 → Int32 → Int32 → xm_S → Prop) : Prop :=
  ((nI 15625) ≤ x3 → g x2 S) ∧ (¬ (nI 15625) ≤ x3 → st_t S h = some (12, 0) ∧ wp_X12_chooses h x3 S (fun r7 S6 => (r7 = 0 → wp_X12_closures_60 h x1 x3 x2 S6 g Z29) ∧ (¬ r7 = 0 → st_t S6 h = some (12, 0) ∧ wp_X12_isClosure h x1 (nI 15) (-1 : Int32) S6 (fun r10 S9 => (r10 = 0 → wp_X12_closures_60 h x1 x3 x2 S9 g Z29) ∧ (¬ r10 = 0 → wp_X12_closures_61 h x1 x3 (1 : Int32) x2 S9 g Z29)))))
def wp_X12_closures_29 (h : Nat) (x1 : Int32) (x2 : Int32) (x3 : Int32) (S : xm_S) (g : Int32 → xm_S → Prop) : Prop :=
  ∀ Z29 : Int32 → Int32 → Int32 → xm_S → Prop, (∀ x1 x2 x3 S, wp_X12_closures_29B h x1 x2 x3 S g Z29 → Z29 x1 x2 x3 S) → Z29 x1 x2 x3 S
set_option maxRecDepth 100000 in
set_option maxHeartbeats 4000000 in
theorem kp_X12_closures_29B {K : xm_K} (h : Nat) (x1 : Int32) (x2 : Int32) (x3 : Int32) (S : xm_S) {g : Int32 → xm_S → Prop} {Z29 : Int32 → Int32 → Int32 → xm_S → Prop} (C : xm_Cx K cX12_closures RX12 4 (some (FieldType.int)) rm_X12_closures) (N : xm_Nx K) (hg : ∀ v S, g v S → xm_q K (some (xm_i v)) S) (hZ29 : ∀ x1 x2 x3 S, Z29 x1 x2 x3 S → xm_W K 0 0 29 [(0, xm_r (some h)), (1, xm_i x1), (2, xm_i x2), (3, xm_i x3)] [] S) (h1 : wp_X12_closures_29B h x1 x2 x3 S g Z29) : xm_W K 0 0 29 [(0, xm_r (some h)), (1, xm_i x1), (2, xm_i x2), (3, xm_i x3)] [] S := by
  unfold wp_X12_closures_29B at h1
  refine x_iload_n C 3 dX12_closures_29 rfl rfl ?_
  refine x_sipush (v := (nI 15625)) C dX12_closures_30 (by decide) ?_
  refine x_icmp_ge (tgt := 69) C dX12_closures_33 (by decide) (fun z9 => ?_) (fun z9 => ?_)
  · have h1 := h1.1 z9
    refine x_iload_n C 2 dX12_closures_69 rfl rfl ?_
    exact x_iret C (Nat.le_of_ble_eq_true rfl) (Nat.le_of_ble_eq_true rfl) rfl dX12_closures_70 (hg _ _ h1)
  · have h1 := h1.2 z9
    refine x_iload_n C 2 dX12_closures_36 rfl rfl ?_
    refine x_aload_n C 0 dX12_closures_37 rfl rfl ?_
    refine x_iload_n C 3 dX12_closures_38 rfl rfl ?_
    obtain ⟨ht5, h1⟩ := h1
    refine x_callV (rm' := rm_X12_chooses) (n := h) C (kp_X12_chooses_met h1) lk_115 gw_678 gw_679 xv_12 rfl rfl ht5 rfl (Nat.le_of_ble_eq_true rfl) ⟨Nat.le_of_ble_eq_true rfl, Nat.le_of_ble_eq_true rfl, (Nat.le_of_ble_eq_true rfl), (Nat.le_of_ble_eq_true rfl)⟩ dX12_closures_39 xm_kx (xm_ki (fun r7 S6 h1 => ?_))
    refine x_if_eq (tgt := 60) C dX12_closures_42 (by decide) (fun z9 => ?_) (fun z9 => ?_)
    · have h1 := h1.1 z9
      refine x_keep (L' := [(0, xm_r (some h)), (1, xm_i x1), (3, xm_i x3)]) C [0, 1, 3] rfl ?_
      exact kp_X12_closures_60 h x1 x3 x2 S6 C N hg hZ29 h1
    · have h1 := h1.2 z9
      refine x_aload_n C 0 dX12_closures_45 rfl rfl ?_
      refine x_iload_n C 1 dX12_closures_46 rfl rfl ?_
      refine x_bipush (v := (nI 15)) C dX12_closures_47 (by decide) ?_
      refine x_iconst (v := (-1 : Int32)) C dX12_closures_49 (by decide) ?_
      obtain ⟨ht8, h1⟩ := h1
      refine x_callV (rm' := rm_X12_isClosure) (n := h) C (kp_X12_isClosure_met h1) lk_116 gw_682 gw_683 xv_12 rfl rfl ht8 rfl (Nat.le_of_ble_eq_true rfl) ⟨Nat.le_of_ble_eq_true rfl, Nat.le_of_ble_eq_true rfl, (Nat.le_of_ble_eq_true rfl), (Nat.le_of_ble_eq_true rfl)⟩ dX12_closures_50 xm_kx (xm_ki (fun r10 S9 h1 => ?_))
      refine x_if_eq (tgt := 60) C dX12_closures_53 (by decide) (fun z9 => ?_) (fun z9 => ?_)
      · have h1 := h1.1 z9
        refine x_keep (L' := [(0, xm_r (some h)), (1, xm_i x1), (3, xm_i x3)]) C [0, 1, 3] rfl ?_
        exact kp_X12_closures_60 h x1 x3 x2 S9 C N hg hZ29 h1
      · have h1 := h1.2 z9
        refine x_iconst (v := (1 : Int32)) C dX12_closures_56 (by decide) ?_
        refine x_goto (tgt := 61) C dX12_closures_57 (by decide) ?_
        refine x_keep (L' := [(0, xm_r (some h)), (1, xm_i x1), (3, xm_i x3)]) C [0, 1, 3] rfl ?_
        exact kp_X12_closures_61 h x1 x3 (1 : Int32) x2 S9 C N hg hZ29 h1
theorem kp_X12_closures_29 {K : xm_K} (h : Nat) (x1 : Int32) (x2 : Int32) (x3 : Int32) (S : xm_S) {g : Int32 → xm_S → Prop} (C : xm_Cx K cX12_closures RX12 4 (some (FieldType.int)) rm_X12_closures) (N : xm_Nx K) (hg : ∀ v S, g v S → xm_q K (some (xm_i v)) S)  (h1 : wp_X12_closures_29 h x1 x2 x3 S g) : xm_W K 0 0 29 [(0, xm_r (some h)), (1, xm_i x1), (2, xm_i x2), (3, xm_i x3)] [] S :=
  h1 (fun x1 x2 x3 S => xm_W K 0 0 29 [(0, xm_r (some h)), (1, xm_i x1), (2, xm_i x2), (3, xm_i x3)] [] S) (fun x1 x2 x3 S hb => kp_X12_closures_29B h x1 x2 x3 S C N hg (fun x1 x2 x3 S hz => hz) hb)
def wp_X12_closures_13 (h : Nat) (x1 : Int32) (s0 : Int32) (s1 : Option Nat) (S : xm_S) (g : Int32 → xm_S → Prop) : Prop :=
  ∃ n11, s1 = some n11 ∧ st_t S n11 = some (12, 0) ∧ wp_X12_may n11 s0 S (fun r15 S14 => (¬ r15 = 0 → st_t S14 h = some (12, 0) ∧ wp_X12_laysRanges h S14 (fun S17 => wp_X12_closures_29 h x1 (0 : Int32) (0 : Int32) S17 g)) ∧ (r15 = 0 → g (0 : Int32) S14))
set_option maxRecDepth 100000 in
set_option maxHeartbeats 4000000 in
theorem kp_X12_closures_13 {K : xm_K} (h : Nat) (x1 : Int32) (s0 : Int32) (s1 : Option Nat) (S : xm_S) {g : Int32 → xm_S → Prop} (C : xm_Cx K cX12_closures RX12 4 (some (FieldType.int)) rm_X12_closures) (N : xm_Nx K) (hg : ∀ v S, g v S → xm_q K (some (xm_i v)) S)  (h1 : wp_X12_closures_13 h x1 s0 s1 S g) : xm_W K 0 0 13 [(0, xm_r (some h)), (1, xm_i x1)] [xm_i s0, xm_r s1] S := by
  unfold wp_X12_closures_13 at h1
  obtain ⟨n11, hr12, h1⟩ := h1
  obtain ⟨ht13, h1⟩ := h1
  refine x_callV (rm' := rm_X12_may) (n := n11) C (kp_X12_may_met h1) lk_95 gw_572 gw_573 xv_12 rfl hr12 ht13 rfl (Nat.le_of_ble_eq_true rfl) ⟨Nat.le_of_ble_eq_true rfl, Nat.le_of_ble_eq_true rfl, (Nat.le_of_ble_eq_true rfl), (Nat.le_of_ble_eq_true rfl)⟩ dX12_closures_13 xm_kx (xm_ki (fun r15 S14 h1 => ?_))
  refine x_if_ne (tgt := 21) C dX12_closures_16 (by decide) (fun z9 => ?_) (fun z9 => ?_)
  · have h1 := h1.1 z9
    refine x_iconst (v := (0 : Int32)) C dX12_closures_21 (by decide) ?_
    refine x_istore_n (L' := [(2, xm_i (0 : Int32)), (0, xm_r (some h)), (1, xm_i x1)]) C dX12_closures_22 rfl (by decide) rfl ?_
    refine x_aload_n C 1 dX12_closures_23 rfl rfl ?_
    obtain ⟨ht16, h1⟩ := h1
    refine x_callV (rm' := rm_X12_laysRanges) (n := h) C (kp_X12_laysRanges_met h1) lk_117 gw_686 gw_687 xv_12 rfl rfl ht16 rfl (Nat.le_of_ble_eq_true rfl) ⟨Nat.le_of_ble_eq_true rfl, Nat.le_of_ble_eq_true rfl, (Nat.le_of_ble_eq_true rfl), (Nat.le_of_ble_eq_true rfl)⟩ dX12_closures_24 xm_kx (xm_kv (fun S17 h1 => ?_))
    refine x_iconst (v := (0 : Int32)) C dX12_closures_27 (by decide) ?_
    refine x_istore_n (L' := [(3, xm_i (0 : Int32)), (2, xm_i (0 : Int32)), (0, xm_r (some h)), (1, xm_i x1)]) C dX12_closures_28 rfl (by decide) rfl ?_
    refine x_keep (L' := [(0, xm_r (some h)), (1, xm_i x1), (2, xm_i (0 : Int32)), (3, xm_i (0 : Int32))]) C [2, 3, 1, 0] rfl ?_
    exact kp_X12_closures_29 h x1 (0 : Int32) (0 : Int32) S17 C N hg  h1
  · have h1 := h1.2 z9
    refine x_iconst (v := (0 : Int32)) C dX12_closures_19 (by decide) ?_
    exact x_iret C (Nat.le_of_ble_eq_true rfl) (Nat.le_of_ble_eq_true rfl) rfl dX12_closures_20 (hg _ _ h1)
def wp_X12_closures (h : Nat) (x1 : Int32) (S : xm_S) (g : Int32 → xm_S → Prop) : Prop :=
  wp_X12_isPlatform x1 S (fun r20 S19 => (r20 = 0 → wp_X12_closures_13 h x1 (1 : Int32) (some h) S19 g) ∧ (¬ r20 = 0 → wp_X12_closures_13 h x1 (0 : Int32) (some h) S19 g))
set_option maxRecDepth 100000 in
set_option maxHeartbeats 4000000 in
theorem kp_X12_closures {K : xm_K} (h : Nat) (x1 : Int32) (S : xm_S) {g : Int32 → xm_S → Prop} (C : xm_Cx K cX12_closures RX12 4 (some (FieldType.int)) rm_X12_closures) (N : xm_Nx K) (hg : ∀ v S, g v S → xm_q K (some (xm_i v)) S)  (h1 : wp_X12_closures h x1 S g) : xm_W K 0 0 0 [(0, xm_r (some h)), (1, xm_i x1)] [] S := by
  unfold wp_X12_closures at h1
  refine x_aload_n C 0 dX12_closures_0 rfl rfl ?_
  refine x_iload_n C 1 dX12_closures_1 rfl rfl ?_
  refine x_callS (rm' := rm_X12_isPlatform) C (kp_X12_isPlatform_met h1) lk_104 gw_611 rfl (Nat.le_of_ble_eq_true rfl) ⟨Nat.le_of_ble_eq_true rfl, Nat.le_of_ble_eq_true rfl, (Nat.le_of_ble_eq_true rfl), (Nat.le_of_ble_eq_true rfl)⟩ dX12_closures_2 xm_kx (xm_ki (fun r20 S19 h1 => ?_))
  refine x_if_eq (tgt := 12) C dX12_closures_5 (by decide) (fun z9 => ?_) (fun z9 => ?_)
  · have h1 := h1.1 z9
    refine x_iconst (v := (1 : Int32)) C dX12_closures_12 (by decide) ?_
    exact kp_X12_closures_13 h x1 (1 : Int32) (some h) S19 C N hg  h1
  · have h1 := h1.2 z9
    refine x_iconst (v := (0 : Int32)) C dX12_closures_8 (by decide) ?_
    refine x_goto (tgt := 13) C dX12_closures_9 (by decide) ?_
    exact kp_X12_closures_13 h x1 (0 : Int32) (some h) S19 C N hg  h1
theorem kp_X12_closures_met {h : Nat} {x1 : Int32} {S : xm_S} {g : Int32 → xm_S → Prop}  (h1 : wp_X12_closures h x1 S g) : xm_Met yX12_closures cX12_closures 4 (some (FieldType.int)) rm_X12_closures [xm_r (some h), xm_i x1] S (xm_qi g) xm_nox :=
  xm_ofW RX12 (by decide +kernel) rfl (Nat.le_of_ble_eq_true rfl) (fun K C N hq hx hi => kp_X12_closures h x1 S C N (fun v S h => by rw [hq]; exact ⟨v, rfl, h⟩)  h1)
def rm_X12_drops : Room := { frames := 1, cells := 0, slots := 0, locals := 20 }
theorem dX12_drops_0 : decode cX12_drops 0 = .ok (.aload_n 0, 1) := by decide +kernel
theorem dX12_drops_1 : decode cX12_drops 1 = .ok (.dup, 1) := by decide +kernel
theorem dX12_drops_2 : decode cX12_drops 2 = .ok (.getfield 340, 3) := by decide +kernel
theorem dX12_drops_5 : decode cX12_drops 5 = .ok (.iconst 1, 1) := by decide +kernel
theorem dX12_drops_6 : decode cX12_drops 6 = .ok (.isub, 1) := by decide +kernel
theorem dX12_drops_7 : decode cX12_drops 7 = .ok (.putfield 340, 3) := by decide +kernel
theorem dX12_drops_10 : decode cX12_drops 10 = .ok (.iload_n 1, 1) := by decide +kernel
theorem dX12_drops_11 : decode cX12_drops 11 = .ok (.istore_n 2, 1) := by decide +kernel
theorem dX12_drops_12 : decode cX12_drops 12 = .ok (.iload_n 2, 1) := by decide +kernel
theorem dX12_drops_13 : decode cX12_drops 13 = .ok (.aload_n 0, 1) := by decide +kernel
theorem dX12_drops_14 : decode cX12_drops 14 = .ok (.getfield 340, 3) := by decide +kernel
theorem dX12_drops_17 : decode cX12_drops 17 = .ok (.if_icmp .ge 75, 3) := by decide +kernel
theorem dX12_drops_20 : decode cX12_drops 20 = .ok (.aload_n 0, 1) := by decide +kernel
theorem dX12_drops_21 : decode cX12_drops 21 = .ok (.getfield 157, 3) := by decide +kernel
theorem dX12_drops_24 : decode cX12_drops 24 = .ok (.iload_n 2, 1) := by decide +kernel
theorem dX12_drops_25 : decode cX12_drops 25 = .ok (.aload_n 0, 1) := by decide +kernel
theorem dX12_drops_26 : decode cX12_drops 26 = .ok (.getfield 157, 3) := by decide +kernel
theorem dX12_drops_29 : decode cX12_drops 29 = .ok (.iload_n 2, 1) := by decide +kernel
theorem dX12_drops_30 : decode cX12_drops 30 = .ok (.iconst 1, 1) := by decide +kernel
theorem dX12_drops_31 : decode cX12_drops 31 = .ok (.iadd, 1) := by decide +kernel
theorem dX12_drops_32 : decode cX12_drops 32 = .ok (.iaload, 1) := by decide +kernel
theorem dX12_drops_33 : decode cX12_drops 33 = .ok (.iastore, 1) := by decide +kernel
theorem dX12_drops_34 : decode cX12_drops 34 = .ok (.aload_n 0, 1) := by decide +kernel
theorem dX12_drops_35 : decode cX12_drops 35 = .ok (.getfield 160, 3) := by decide +kernel
theorem dX12_drops_38 : decode cX12_drops 38 = .ok (.iload_n 2, 1) := by decide +kernel
theorem dX12_drops_39 : decode cX12_drops 39 = .ok (.aload_n 0, 1) := by decide +kernel
theorem dX12_drops_40 : decode cX12_drops 40 = .ok (.getfield 160, 3) := by decide +kernel
theorem dX12_drops_43 : decode cX12_drops 43 = .ok (.iload_n 2, 1) := by decide +kernel
theorem dX12_drops_44 : decode cX12_drops 44 = .ok (.iconst 1, 1) := by decide +kernel
theorem dX12_drops_45 : decode cX12_drops 45 = .ok (.iadd, 1) := by decide +kernel
theorem dX12_drops_46 : decode cX12_drops 46 = .ok (.baload, 1) := by decide +kernel
theorem dX12_drops_47 : decode cX12_drops 47 = .ok (.bastore, 1) := by decide +kernel
theorem dX12_drops_48 : decode cX12_drops 48 = .ok (.iconst 0, 1) := by decide +kernel
theorem dX12_drops_49 : decode cX12_drops 49 = .ok (.istore_n 3, 1) := by decide +kernel
theorem dX12_drops_50 : decode cX12_drops 50 = .ok (.iload_n 3, 1) := by decide +kernel
theorem dX12_drops_51 : decode cX12_drops 51 = .ok (.bipush 54, 2) := by decide +kernel
theorem dX12_drops_53 : decode cX12_drops 53 = .ok (.if_icmp .ge 33, 3) := by decide +kernel
theorem dX12_drops_56 : decode cX12_drops 56 = .ok (.aload_n 0, 1) := by decide +kernel
theorem dX12_drops_57 : decode cX12_drops 57 = .ok (.getfield 163, 3) := by decide +kernel
theorem dX12_drops_60 : decode cX12_drops 60 = .ok (.bipush 54, 2) := by decide +kernel
theorem dX12_drops_62 : decode cX12_drops 62 = .ok (.iload_n 2, 1) := by decide +kernel
theorem dX12_drops_63 : decode cX12_drops 63 = .ok (.imul, 1) := by decide +kernel
theorem dX12_drops_64 : decode cX12_drops 64 = .ok (.iload_n 3, 1) := by decide +kernel
theorem dX12_drops_65 : decode cX12_drops 65 = .ok (.iadd, 1) := by decide +kernel
theorem dX12_drops_66 : decode cX12_drops 66 = .ok (.aload_n 0, 1) := by decide +kernel
theorem dX12_drops_67 : decode cX12_drops 67 = .ok (.getfield 163, 3) := by decide +kernel
theorem dX12_drops_70 : decode cX12_drops 70 = .ok (.bipush 54, 2) := by decide +kernel
theorem dX12_drops_72 : decode cX12_drops 72 = .ok (.iload_n 2, 1) := by decide +kernel
theorem dX12_drops_73 : decode cX12_drops 73 = .ok (.iconst 1, 1) := by decide +kernel
theorem dX12_drops_74 : decode cX12_drops 74 = .ok (.iadd, 1) := by decide +kernel
theorem dX12_drops_75 : decode cX12_drops 75 = .ok (.imul, 1) := by decide +kernel
theorem dX12_drops_76 : decode cX12_drops 76 = .ok (.iload_n 3, 1) := by decide +kernel
theorem dX12_drops_77 : decode cX12_drops 77 = .ok (.iadd, 1) := by decide +kernel
theorem dX12_drops_78 : decode cX12_drops 78 = .ok (.iaload, 1) := by decide +kernel
theorem dX12_drops_79 : decode cX12_drops 79 = .ok (.iastore, 1) := by decide +kernel
theorem dX12_drops_80 : decode cX12_drops 80 = .ok (.iinc 3 1, 3) := by decide +kernel
theorem dX12_drops_83 : decode cX12_drops 83 = .ok (.goto (-33), 3) := by decide +kernel
theorem dX12_drops_86 : decode cX12_drops 86 = .ok (.iinc 2 1, 3) := by decide +kernel
theorem dX12_drops_89 : decode cX12_drops 89 = .ok (.goto (-77), 3) := by decide +kernel
theorem dX12_drops_92 : decode cX12_drops 92 = .ok (.return_, 1) := by decide +kernel
def wp_X12_drops_50B (h : Nat) (x2 : Int32) (x3 : Int32) (S : xm_S) (g : xm_S → Prop) (Z12 : Int32 → xm_S → Prop) (Z50 : Int32 → Int32 → xm_S → Prop) : Prop :=
  ((nI 54) ≤ x3 → ∀ y1, y1 = (x2 + (1 : Int32)) → Z12 y1 S) ∧ (¬ (nI 54) ≤ x3 → st_t S h = some (12, 0) ∧ ∃ n4, (st_r S h 59) = some n4 ∧ ∃ z7, st_t S n4 = some (100, z7) ∧ vp_in (((nI 54) * (x2 + (1 : Int32))) + x3) z7 ∧ ∃ n9, (st_r S h 59) = some n9 ∧ ∃ z12, st_t S n9 = some (100, z12) ∧ vp_in (((nI 54) * x2) + x3) z12 ∧ ∀ S14, S14 = st_pi S n9 ((((nI 54) * x2) + x3)).toNatClampNeg (st_i S n4 ((((nI 54) * (x2 + (1 : Int32))) + x3)).toNatClampNeg) → ∀ y16, y16 = (x3 + (1 : Int32)) → Z50 x2 y16 S14)
def wp_X12_drops_50 (h : Nat) (x2 : Int32) (x3 : Int32) (S : xm_S) (g : xm_S → Prop) (Z12 : Int32 → xm_S → Prop) : Prop :=
  ∀ Z50 : Int32 → Int32 → xm_S → Prop, (∀ x2 x3 S, wp_X12_drops_50B h x2 x3 S g Z12 Z50 → Z50 x2 x3 S) → Z50 x2 x3 S
set_option maxRecDepth 100000 in
set_option maxHeartbeats 4000000 in
theorem kp_X12_drops_50B {K : xm_K} (h : Nat) (x2 : Int32) (x3 : Int32) (S : xm_S) {g : xm_S → Prop} {Z12 : Int32 → xm_S → Prop} {Z50 : Int32 → Int32 → xm_S → Prop} (C : xm_Cx K cX12_drops RX12 4 none rm_X12_drops) (N : xm_Nx K) (hg : ∀ S, g S → xm_q K none S) (hZ12 : ∀ x2 S, Z12 x2 S → xm_W K 0 0 12 [(0, xm_r (some h)), (2, xm_i x2)] [] S) (hZ50 : ∀ x2 x3 S, Z50 x2 x3 S → xm_W K 0 0 50 [(0, xm_r (some h)), (2, xm_i x2), (3, xm_i x3)] [] S) (h1 : wp_X12_drops_50B h x2 x3 S g Z12 Z50) : xm_W K 0 0 50 [(0, xm_r (some h)), (2, xm_i x2), (3, xm_i x3)] [] S := by
  unfold wp_X12_drops_50B at h1
  refine x_iload_n C 2 dX12_drops_50 rfl rfl ?_
  refine x_bipush (v := (nI 54)) C dX12_drops_51 (by decide) ?_
  refine x_icmp_ge (tgt := 86) C dX12_drops_53 (by decide) (fun z9 => ?_) (fun z9 => ?_)
  · have h1 := h1.1 z9
    obtain ⟨y1, e2⟩ : ∃ y1, y1 = (x2 + (1 : Int32)) := ⟨_, rfl⟩
    have h1 := h1 y1 e2
    refine x_iinc (v := y1) (L' := [(2, xm_i y1), (0, xm_r (some h)), (3, xm_i x3)]) C 1 dX12_drops_86 rfl (by rw [e2]; rfl) (by decide) rfl ?_
    refine x_goto (tgt := 12) C dX12_drops_89 (by decide) ?_
    refine x_keep (L' := [(0, xm_r (some h)), (2, xm_i y1)]) C [1, 0] rfl ?_
    exact hZ12 y1 S h1
  · have h1 := h1.2 z9
    refine x_aload_n C 0 dX12_drops_56 rfl rfl ?_
    obtain ⟨ht3, h1⟩ := h1
    refine x_getf_r (n := h) C rfl ht3 fd_196 (by decide) dX12_drops_57 ?_
    refine x_bipush (v := (nI 54)) C dX12_drops_60 (by decide) ?_
    refine x_iload_n C 1 dX12_drops_62 rfl rfl ?_
    refine x_imul C dX12_drops_63 ?_
    refine x_iload_n C 2 dX12_drops_64 rfl rfl ?_
    refine x_iadd C dX12_drops_65 ?_
    refine x_aload_n C 0 dX12_drops_66 rfl rfl ?_
    refine x_getf_r (n := h) C rfl ht3 fd_196 (by decide) dX12_drops_67 ?_
    refine x_bipush (v := (nI 54)) C dX12_drops_70 (by decide) ?_
    refine x_iload_n C 1 dX12_drops_72 rfl rfl ?_
    refine x_iconst (v := (1 : Int32)) C dX12_drops_73 (by decide) ?_
    refine x_iadd C dX12_drops_74 ?_
    refine x_imul C dX12_drops_75 ?_
    refine x_iload_n C 2 dX12_drops_76 rfl rfl ?_
    refine x_iadd C dX12_drops_77 ?_
    obtain ⟨n4, hr5, h1⟩ := h1
    obtain ⟨z7, ht6, h1⟩ := h1
    obtain ⟨hi8, h1⟩ := h1
    refine x_iald (n := n4) C hr5 ht6 hi8 dX12_drops_78 ?_
    obtain ⟨n9, hr10, h1⟩ := h1
    obtain ⟨z12, ht11, h1⟩ := h1
    obtain ⟨hi13, h1⟩ := h1
    refine x_iast (n := n9) C hr10 ht11 hi13 dX12_drops_79 ?_
    refine x_topS (fun S14 e15 => ?_)
    have h1 := h1 S14 e15
    obtain ⟨y16, e17⟩ : ∃ y16, y16 = (x3 + (1 : Int32)) := ⟨_, rfl⟩
    have h1 := h1 y16 e17
    refine x_iinc (v := y16) (L' := [(3, xm_i y16), (0, xm_r (some h)), (2, xm_i x2)]) C 2 dX12_drops_80 rfl (by rw [e17]; rfl) (by decide) rfl ?_
    refine x_goto (tgt := 50) C dX12_drops_83 (by decide) ?_
    refine x_keep (L' := [(0, xm_r (some h)), (2, xm_i x2), (3, xm_i y16)]) C [1, 2, 0] rfl ?_
    exact hZ50 x2 y16 S14 h1
theorem kp_X12_drops_50 {K : xm_K} (h : Nat) (x2 : Int32) (x3 : Int32) (S : xm_S) {g : xm_S → Prop} {Z12 : Int32 → xm_S → Prop} (C : xm_Cx K cX12_drops RX12 4 none rm_X12_drops) (N : xm_Nx K) (hg : ∀ S, g S → xm_q K none S) (hZ12 : ∀ x2 S, Z12 x2 S → xm_W K 0 0 12 [(0, xm_r (some h)), (2, xm_i x2)] [] S) (h1 : wp_X12_drops_50 h x2 x3 S g Z12) : xm_W K 0 0 50 [(0, xm_r (some h)), (2, xm_i x2), (3, xm_i x3)] [] S :=
  h1 (fun x2 x3 S => xm_W K 0 0 50 [(0, xm_r (some h)), (2, xm_i x2), (3, xm_i x3)] [] S) (fun x2 x3 S hb => kp_X12_drops_50B h x2 x3 S C N hg hZ12 (fun x2 x3 S hz => hz) hb)
def wp_X12_drops_12B (h : Nat) (x2 : Int32) (S : xm_S) (g : xm_S → Prop) (Z12 : Int32 → xm_S → Prop) : Prop :=
  st_t S h = some (12, 0) ∧ ((st_i S h 56) ≤ x2 → g S) ∧ (¬ (st_i S h 56) ≤ x2 → ∃ n19, (st_r S h 57) = some n19 ∧ ∃ z22, st_t S n19 = some (100, z22) ∧ vp_in (x2 + (1 : Int32)) z22 ∧ ∃ n24, (st_r S h 57) = some n24 ∧ ∃ z27, st_t S n24 = some (100, z27) ∧ vp_in x2 z27 ∧ ∀ S29, S29 = st_pi S n24 (x2).toNatClampNeg (st_i S n19 ((x2 + (1 : Int32))).toNatClampNeg) → ∃ n31, (st_r S29 h 58) = some n31 ∧ ∃ z34, st_t S29 n31 = some (101, z34) ∧ vp_in (x2 + (1 : Int32)) z34 ∧ ∃ n36, (st_r S29 h 58) = some n36 ∧ ∃ z39, st_t S29 n36 = some (101, z39) ∧ vp_in x2 z39 ∧ ((st_i S29 n31 ((x2 + (1 : Int32))).toNatClampNeg) = 0 ∨ (st_i S29 n31 ((x2 + (1 : Int32))).toNatClampNeg) = 1) ∧ ∀ S42, S42 = st_pi S29 n36 (x2).toNatClampNeg (st_i S29 n31 ((x2 + (1 : Int32))).toNatClampNeg) → wp_X12_drops_50 h x2 (0 : Int32) S42 g Z12)
def wp_X12_drops_12 (h : Nat) (x2 : Int32) (S : xm_S) (g : xm_S → Prop) : Prop :=
  ∀ Z12 : Int32 → xm_S → Prop, (∀ x2 S, wp_X12_drops_12B h x2 S g Z12 → Z12 x2 S) → Z12 x2 S
set_option maxRecDepth 100000 in
set_option maxHeartbeats 4000000 in
theorem kp_X12_drops_12B {K : xm_K} (h : Nat) (x2 : Int32) (S : xm_S) {g : xm_S → Prop} {Z12 : Int32 → xm_S → Prop} (C : xm_Cx K cX12_drops RX12 4 none rm_X12_drops) (N : xm_Nx K) (hg : ∀ S, g S → xm_q K none S) (hZ12 : ∀ x2 S, Z12 x2 S → xm_W K 0 0 12 [(0, xm_r (some h)), (2, xm_i x2)] [] S) (h1 : wp_X12_drops_12B h x2 S g Z12) : xm_W K 0 0 12 [(0, xm_r (some h)), (2, xm_i x2)] [] S := by
  unfold wp_X12_drops_12B at h1
  refine x_iload_n C 1 dX12_drops_12 rfl rfl ?_
  refine x_aload_n C 0 dX12_drops_13 rfl rfl ?_
  obtain ⟨ht18, h1⟩ := h1
  refine x_getf_i (n := h) C rfl ht18 fd_197 (by decide) dX12_drops_14 ?_
  refine x_icmp_ge (tgt := 92) C dX12_drops_17 (by decide) (fun z9 => ?_) (fun z9 => ?_)
  · have h1 := h1.1 z9
    exact x_vret C (Nat.le_of_ble_eq_true rfl) (Nat.le_of_ble_eq_true rfl) rfl dX12_drops_92 (hg _ h1)
  · have h1 := h1.2 z9
    refine x_aload_n C 0 dX12_drops_20 rfl rfl ?_
    refine x_getf_r (n := h) C rfl ht18 fd_198 (by decide) dX12_drops_21 ?_
    refine x_iload_n C 1 dX12_drops_24 rfl rfl ?_
    refine x_aload_n C 0 dX12_drops_25 rfl rfl ?_
    refine x_getf_r (n := h) C rfl ht18 fd_198 (by decide) dX12_drops_26 ?_
    refine x_iload_n C 1 dX12_drops_29 rfl rfl ?_
    refine x_iconst (v := (1 : Int32)) C dX12_drops_30 (by decide) ?_
    refine x_iadd C dX12_drops_31 ?_
    obtain ⟨n19, hr20, h1⟩ := h1
    obtain ⟨z22, ht21, h1⟩ := h1
    obtain ⟨hi23, h1⟩ := h1
    refine x_iald (n := n19) C hr20 ht21 hi23 dX12_drops_32 ?_
    obtain ⟨n24, hr25, h1⟩ := h1
    obtain ⟨z27, ht26, h1⟩ := h1
    obtain ⟨hi28, h1⟩ := h1
    refine x_iast (n := n24) C hr25 ht26 hi28 dX12_drops_33 ?_
    refine x_topS (fun S29 e30 => ?_)
    have h1 := h1 S29 e30
    refine x_aload_n C 0 dX12_drops_34 rfl rfl ?_
    refine x_getf_r (n := h) C rfl (tk_p e30 ht18) fd_199 (by decide) dX12_drops_35 ?_
    refine x_iload_n C 1 dX12_drops_38 rfl rfl ?_
    refine x_aload_n C 0 dX12_drops_39 rfl rfl ?_
    refine x_getf_r (n := h) C rfl (tk_p e30 ht18) fd_199 (by decide) dX12_drops_40 ?_
    refine x_iload_n C 1 dX12_drops_43 rfl rfl ?_
    refine x_iconst (v := (1 : Int32)) C dX12_drops_44 (by decide) ?_
    refine x_iadd C dX12_drops_45 ?_
    obtain ⟨n31, hr32, h1⟩ := h1
    obtain ⟨z34, ht33, h1⟩ := h1
    obtain ⟨hi35, h1⟩ := h1
    refine x_zald (n := n31) C hr32 ht33 hi35 dX12_drops_46 ?_
    obtain ⟨n36, hr37, h1⟩ := h1
    obtain ⟨z39, ht38, h1⟩ := h1
    obtain ⟨hi40, h1⟩ := h1
    obtain ⟨hz41, h1⟩ := h1
    refine x_zast (n := n36) C hr37 ht38 hi40 hz41 dX12_drops_47 ?_
    refine x_topS (fun S42 e43 => ?_)
    have h1 := h1 S42 e43
    refine x_iconst (v := (0 : Int32)) C dX12_drops_48 (by decide) ?_
    refine x_istore_n (L' := [(3, xm_i (0 : Int32)), (0, xm_r (some h)), (2, xm_i x2)]) C dX12_drops_49 rfl (by decide) rfl ?_
    refine x_keep (L' := [(0, xm_r (some h)), (2, xm_i x2), (3, xm_i (0 : Int32))]) C [1, 2, 0] rfl ?_
    exact kp_X12_drops_50 h x2 (0 : Int32) S42 C N hg hZ12 h1
theorem kp_X12_drops_12 {K : xm_K} (h : Nat) (x2 : Int32) (S : xm_S) {g : xm_S → Prop} (C : xm_Cx K cX12_drops RX12 4 none rm_X12_drops) (N : xm_Nx K) (hg : ∀ S, g S → xm_q K none S)  (h1 : wp_X12_drops_12 h x2 S g) : xm_W K 0 0 12 [(0, xm_r (some h)), (2, xm_i x2)] [] S :=
  h1 (fun x2 S => xm_W K 0 0 12 [(0, xm_r (some h)), (2, xm_i x2)] [] S) (fun x2 S hb => kp_X12_drops_12B h x2 S C N hg (fun x2 S hz => hz) hb)
def wp_X12_drops (h : Nat) (x1 : Int32) (S : xm_S) (g : xm_S → Prop) : Prop :=
  st_t S h = some (12, 0) ∧ ∀ S45, S45 = st_pi S h 56 ((st_i S h 56) - (1 : Int32)) → wp_X12_drops_12 h x1 S45 g
set_option maxRecDepth 100000 in
set_option maxHeartbeats 4000000 in
theorem kp_X12_drops {K : xm_K} (h : Nat) (x1 : Int32) (S : xm_S) {g : xm_S → Prop} (C : xm_Cx K cX12_drops RX12 4 none rm_X12_drops) (N : xm_Nx K) (hg : ∀ S, g S → xm_q K none S)  (h1 : wp_X12_drops h x1 S g) : xm_W K 0 0 0 [(0, xm_r (some h)), (1, xm_i x1)] [] S := by
  unfold wp_X12_drops at h1
  refine x_aload_n C 0 dX12_drops_0 rfl rfl ?_
  refine x_dup_r C dX12_drops_1 ?_
  obtain ⟨ht44, h1⟩ := h1
  refine x_getf_i (n := h) C rfl ht44 fd_197 (by decide) dX12_drops_2 ?_
  refine x_iconst (v := (1 : Int32)) C dX12_drops_5 (by decide) ?_
  refine x_isub C dX12_drops_6 ?_
  refine x_putf_i (n := h) C rfl ht44 fd_197 xc_12 (by decide) rfl ⟨rfl, rfl⟩ dX12_drops_7 ?_
  refine x_topS (fun S45 e46 => ?_)
  have h1 := h1 S45 e46
  refine x_iload_n C 1 dX12_drops_10 rfl rfl ?_
  refine x_istore_n (L' := [(2, xm_i x1), (0, xm_r (some h)), (1, xm_i x1)]) C dX12_drops_11 rfl (by decide) rfl ?_
  refine x_keep (L' := [(0, xm_r (some h)), (2, xm_i x1)]) C [1, 0] rfl ?_
  exact kp_X12_drops_12 h x1 S45 C N hg  h1
theorem kp_X12_drops_met {h : Nat} {x1 : Int32} {S : xm_S} {g : xm_S → Prop}  (h1 : wp_X12_drops h x1 S g) : xm_Met yX12_drops cX12_drops 4 none rm_X12_drops [xm_r (some h), xm_i x1] S (xm_qv g) xm_nox :=
  xm_ofW RX12 (by decide +kernel) rfl (Nat.le_of_ble_eq_true rfl) (fun K C N hq hx hi => kp_X12_drops h x1 S C N (fun S h => by rw [hq]; exact ⟨rfl, h⟩)  h1)
def rm_X12_collect : Room := { frames := 2, cells := 0, slots := 0, locals := 43 }
theorem dX12_collect_0 : decode cX12_collect 0 = .ok (.aload_n 0, 1) := by decide +kernel
theorem dX12_collect_1 : decode cX12_collect 1 = .ok (.iconst 0, 1) := by decide +kernel
theorem dX12_collect_2 : decode cX12_collect 2 = .ok (.putfield 169, 3) := by decide +kernel
theorem dX12_collect_5 : decode cX12_collect 5 = .ok (.iconst 0, 1) := by decide +kernel
theorem dX12_collect_6 : decode cX12_collect 6 = .ok (.istore_n 1, 1) := by decide +kernel
theorem dX12_collect_7 : decode cX12_collect 7 = .ok (.aload_n 0, 1) := by decide +kernel
theorem dX12_collect_8 : decode cX12_collect 8 = .ok (.getfield 340, 3) := by decide +kernel
theorem dX12_collect_11 : decode cX12_collect 11 = .ok (.iconst 1, 1) := by decide +kernel
theorem dX12_collect_12 : decode cX12_collect 12 = .ok (.isub, 1) := by decide +kernel
theorem dX12_collect_13 : decode cX12_collect 13 = .ok (.istore_n 2, 1) := by decide +kernel
theorem dX12_collect_14 : decode cX12_collect 14 = .ok (.iload_n 2, 1) := by decide +kernel
theorem dX12_collect_15 : decode cX12_collect 15 = .ok (.ifCond .lt 39, 3) := by decide +kernel
theorem dX12_collect_18 : decode cX12_collect 18 = .ok (.aload_n 0, 1) := by decide +kernel
theorem dX12_collect_19 : decode cX12_collect 19 = .ok (.getfield 160, 3) := by decide +kernel
theorem dX12_collect_22 : decode cX12_collect 22 = .ok (.iload_n 2, 1) := by decide +kernel
theorem dX12_collect_23 : decode cX12_collect 23 = .ok (.baload, 1) := by decide +kernel
theorem dX12_collect_24 : decode cX12_collect 24 = .ok (.ifCond .ne 24, 3) := by decide +kernel
theorem dX12_collect_27 : decode cX12_collect 27 = .ok (.aload_n 0, 1) := by decide +kernel
theorem dX12_collect_28 : decode cX12_collect 28 = .ok (.getfield 157, 3) := by decide +kernel
theorem dX12_collect_31 : decode cX12_collect 31 = .ok (.iload_n 2, 1) := by decide +kernel
theorem dX12_collect_32 : decode cX12_collect 32 = .ok (.iaload, 1) := by decide +kernel
theorem dX12_collect_33 : decode cX12_collect 33 = .ok (.aload_n 0, 1) := by decide +kernel
theorem dX12_collect_34 : decode cX12_collect 34 = .ok (.getfield 154, 3) := by decide +kernel
theorem dX12_collect_37 : decode cX12_collect 37 = .ok (.if_icmp .eq 11, 3) := by decide +kernel
theorem dX12_collect_40 : decode cX12_collect 40 = .ok (.aload_n 0, 1) := by decide +kernel
theorem dX12_collect_41 : decode cX12_collect 41 = .ok (.iload_n 2, 1) := by decide +kernel
theorem dX12_collect_42 : decode cX12_collect 42 = .ok (.invokevirtual 352, 3) := by decide +kernel
theorem dX12_collect_45 : decode cX12_collect 45 = .ok (.iinc 1 1, 3) := by decide +kernel
theorem dX12_collect_48 : decode cX12_collect 48 = .ok (.iinc 2 (-1), 3) := by decide +kernel
theorem dX12_collect_51 : decode cX12_collect 51 = .ok (.goto (-37), 3) := by decide +kernel
theorem dX12_collect_54 : decode cX12_collect 54 = .ok (.iload_n 1, 1) := by decide +kernel
theorem dX12_collect_55 : decode cX12_collect 55 = .ok (.ireturn, 1) := by decide +kernel
def wp_X12_collect_48 (h : Nat) (x1 : Int32) (x2 : Int32) (S : xm_S) (g : Int32 → xm_S → Prop) (Z14 : Int32 → Int32 → xm_S → Prop) : Prop :=
  ∀ y1, y1 = (x2 + (-1 : Int32)) → Z14 x1 y1 S
set_option maxRecDepth 100000 in
set_option maxHeartbeats 4000000 in
theorem kp_X12_collect_48 {K : xm_K} (h : Nat) (x1 : Int32) (x2 : Int32) (S : xm_S) {g : Int32 → xm_S → Prop} {Z14 : Int32 → Int32 → xm_S → Prop} (C : xm_Cx K cX12_collect RX12 3 (some (FieldType.int)) rm_X12_collect) (N : xm_Nx K) (hg : ∀ v S, g v S → xm_q K (some (xm_i v)) S) (hZ14 : ∀ x1 x2 S, Z14 x1 x2 S → xm_W K 0 0 14 [(0, xm_r (some h)), (1, xm_i x1), (2, xm_i x2)] [] S) (h1 : wp_X12_collect_48 h x1 x2 S g Z14) : xm_W K 0 0 48 [(0, xm_r (some h)), (1, xm_i x1), (2, xm_i x2)] [] S := by
  unfold wp_X12_collect_48 at h1
  obtain ⟨y1, e2⟩ : ∃ y1, y1 = (x2 + (-1 : Int32)) := ⟨_, rfl⟩
  have h1 := h1 y1 e2
  refine x_iinc (v := y1) (L' := [(2, xm_i y1), (0, xm_r (some h)), (1, xm_i x1)]) C 2 dX12_collect_48 rfl (by rw [e2]; rfl) (by decide) rfl ?_
  refine x_goto (tgt := 14) C dX12_collect_51 (by decide) ?_
  refine x_keep (L' := [(0, xm_r (some h)), (1, xm_i x1), (2, xm_i y1)]) C [1, 2, 0] rfl ?_
  exact hZ14 x1 y1 S h1
def wp_X12_collect_14B (h : Nat) (x1 : Int32) (x2 : Int32) (S : xm_S) (g : Int32 → xm_S → Prop) (Z14 : Int32 → Int32 → xm_S → Prop) : Prop :=
  (x2 < 0 → g x1 S) ∧ (¬ x2 < 0 → st_t S h = some (12, 0) ∧ ∃ n4, (st_r S h 58) = some n4 ∧ ∃ z7, st_t S n4 = some (101, z7) ∧ vp_in x2 z7 ∧ (¬ (st_i S n4 (x2).toNatClampNeg) = 0 → wp_X12_collect_48 h x1 x2 S g Z14) ∧ ((st_i S n4 (x2).toNatClampNeg) = 0 → ∃ n9, (st_r S h 57) = some n9 ∧ ∃ z12, st_t S n9 = some (100, z12) ∧ vp_in x2 z12 ∧ ((st_i S n9 (x2).toNatClampNeg) = (st_i S h 55) → wp_X12_collect_48 h x1 x2 S g Z14) ∧ (¬ (st_i S n9 (x2).toNatClampNeg) = (st_i S h 55) → wp_X12_drops h x2 S (fun S14 => ∀ y16, y16 = (x1 + (1 : Int32)) → wp_X12_collect_48 h y16 x2 S14 g Z14))))
def wp_X12_collect_14 (h : Nat) (x1 : Int32) (x2 : Int32) (S : xm_S) (g : Int32 → xm_S → Prop) : Prop :=
  ∀ Z14 : Int32 → Int32 → xm_S → Prop, (∀ x1 x2 S, wp_X12_collect_14B h x1 x2 S g Z14 → Z14 x1 x2 S) → Z14 x1 x2 S
set_option maxRecDepth 100000 in
set_option maxHeartbeats 4000000 in
theorem kp_X12_collect_14B {K : xm_K} (h : Nat) (x1 : Int32) (x2 : Int32) (S : xm_S) {g : Int32 → xm_S → Prop} {Z14 : Int32 → Int32 → xm_S → Prop} (C : xm_Cx K cX12_collect RX12 3 (some (FieldType.int)) rm_X12_collect) (N : xm_Nx K) (hg : ∀ v S, g v S → xm_q K (some (xm_i v)) S) (hZ14 : ∀ x1 x2 S, Z14 x1 x2 S → xm_W K 0 0 14 [(0, xm_r (some h)), (1, xm_i x1), (2, xm_i x2)] [] S) (h1 : wp_X12_collect_14B h x1 x2 S g Z14) : xm_W K 0 0 14 [(0, xm_r (some h)), (1, xm_i x1), (2, xm_i x2)] [] S := by
  unfold wp_X12_collect_14B at h1
  refine x_iload_n C 2 dX12_collect_14 rfl rfl ?_
  refine x_if_lt (tgt := 54) C dX12_collect_15 (by decide) (fun z9 => ?_) (fun z9 => ?_)
  · have h1 := h1.1 z9
    refine x_iload_n C 1 dX12_collect_54 rfl rfl ?_
    exact x_iret C (Nat.le_of_ble_eq_true rfl) (Nat.le_of_ble_eq_true rfl) rfl dX12_collect_55 (hg _ _ h1)
  · have h1 := h1.2 z9
    refine x_aload_n C 0 dX12_collect_18 rfl rfl ?_
    obtain ⟨ht3, h1⟩ := h1
    refine x_getf_r (n := h) C rfl ht3 fd_199 (by decide) dX12_collect_19 ?_
    refine x_iload_n C 2 dX12_collect_22 rfl rfl ?_
    obtain ⟨n4, hr5, h1⟩ := h1
    obtain ⟨z7, ht6, h1⟩ := h1
    obtain ⟨hi8, h1⟩ := h1
    refine x_zald (n := n4) C hr5 ht6 hi8 dX12_collect_23 ?_
    refine x_if_ne (tgt := 48) C dX12_collect_24 (by decide) (fun z9 => ?_) (fun z9 => ?_)
    · have h1 := h1.1 z9
      exact kp_X12_collect_48 h x1 x2 S C N hg hZ14 h1
    · have h1 := h1.2 z9
      refine x_aload_n C 0 dX12_collect_27 rfl rfl ?_
      refine x_getf_r (n := h) C rfl ht3 fd_198 (by decide) dX12_collect_28 ?_
      refine x_iload_n C 2 dX12_collect_31 rfl rfl ?_
      obtain ⟨n9, hr10, h1⟩ := h1
      obtain ⟨z12, ht11, h1⟩ := h1
      obtain ⟨hi13, h1⟩ := h1
      refine x_iald (n := n9) C hr10 ht11 hi13 dX12_collect_32 ?_
      refine x_aload_n C 0 dX12_collect_33 rfl rfl ?_
      refine x_getf_i (n := h) C rfl ht3 fd_200 (by decide) dX12_collect_34 ?_
      refine x_icmp_eq (tgt := 48) C dX12_collect_37 (by decide) (fun z9 => ?_) (fun z9 => ?_)
      · have h1 := h1.1 z9
        exact kp_X12_collect_48 h x1 x2 S C N hg hZ14 h1
      · have h1 := h1.2 z9
        refine x_aload_n C 0 dX12_collect_40 rfl rfl ?_
        refine x_iload_n C 2 dX12_collect_41 rfl rfl ?_
        refine x_callV (rm' := rm_X12_drops) (n := h) C (kp_X12_drops_met h1) lk_118 gw_695 gw_696 xv_12 rfl rfl ht3 rfl (Nat.le_of_ble_eq_true rfl) ⟨Nat.le_of_ble_eq_true rfl, Nat.le_of_ble_eq_true rfl, (Nat.le_of_ble_eq_true rfl), (Nat.le_of_ble_eq_true rfl)⟩ dX12_collect_42 xm_kx (xm_kv (fun S14 h1 => ?_))
        obtain ⟨y16, e17⟩ : ∃ y16, y16 = (x1 + (1 : Int32)) := ⟨_, rfl⟩
        have h1 := h1 y16 e17
        refine x_iinc (v := y16) (L' := [(1, xm_i y16), (0, xm_r (some h)), (2, xm_i x2)]) C 1 dX12_collect_45 rfl (by rw [e17]; rfl) (by decide) rfl ?_
        refine x_keep (L' := [(0, xm_r (some h)), (1, xm_i y16), (2, xm_i x2)]) C [1, 0, 2] rfl ?_
        exact kp_X12_collect_48 h y16 x2 S14 C N hg hZ14 h1
theorem kp_X12_collect_14 {K : xm_K} (h : Nat) (x1 : Int32) (x2 : Int32) (S : xm_S) {g : Int32 → xm_S → Prop} (C : xm_Cx K cX12_collect RX12 3 (some (FieldType.int)) rm_X12_collect) (N : xm_Nx K) (hg : ∀ v S, g v S → xm_q K (some (xm_i v)) S)  (h1 : wp_X12_collect_14 h x1 x2 S g) : xm_W K 0 0 14 [(0, xm_r (some h)), (1, xm_i x1), (2, xm_i x2)] [] S :=
  h1 (fun x1 x2 S => xm_W K 0 0 14 [(0, xm_r (some h)), (1, xm_i x1), (2, xm_i x2)] [] S) (fun x1 x2 S hb => kp_X12_collect_14B h x1 x2 S C N hg (fun x1 x2 S hz => hz) hb)
def wp_X12_collect (h : Nat)  (S : xm_S) (g : Int32 → xm_S → Prop) : Prop :=
  st_t S h = some (12, 0) ∧ ∀ S19, S19 = st_pi S h 0 (0 : Int32) → ∀ y21, y21 = ((st_i S19 h 56) - (1 : Int32)) → wp_X12_collect_14 h (0 : Int32) y21 S19 g
set_option maxRecDepth 100000 in
set_option maxHeartbeats 4000000 in
theorem kp_X12_collect {K : xm_K} (h : Nat)  (S : xm_S) {g : Int32 → xm_S → Prop} (C : xm_Cx K cX12_collect RX12 3 (some (FieldType.int)) rm_X12_collect) (N : xm_Nx K) (hg : ∀ v S, g v S → xm_q K (some (xm_i v)) S)  (h1 : wp_X12_collect h  S g) : xm_W K 0 0 0 [(0, xm_r (some h))] [] S := by
  unfold wp_X12_collect at h1
  refine x_aload_n C 0 dX12_collect_0 rfl rfl ?_
  refine x_iconst (v := (0 : Int32)) C dX12_collect_1 (by decide) ?_
  obtain ⟨ht18, h1⟩ := h1
  refine x_putf_i (n := h) C rfl ht18 fd_165 xc_12 (by decide) rfl ⟨rfl, rfl⟩ dX12_collect_2 ?_
  refine x_topS (fun S19 e20 => ?_)
  have h1 := h1 S19 e20
  refine x_iconst (v := (0 : Int32)) C dX12_collect_5 (by decide) ?_
  refine x_istore_n (L' := [(1, xm_i (0 : Int32)), (0, xm_r (some h))]) C dX12_collect_6 rfl (by decide) rfl ?_
  refine x_aload_n C 1 dX12_collect_7 rfl rfl ?_
  refine x_getf_i (n := h) C rfl (tk_p e20 ht18) fd_197 (by decide) dX12_collect_8 ?_
  refine x_iconst (v := (1 : Int32)) C dX12_collect_11 (by decide) ?_
  refine x_isub C dX12_collect_12 ?_
  refine x_topi (fun y21 e22 => ?_)
  have h1 := h1 y21 e22
  refine x_istore_n (L' := [(2, xm_i y21), (1, xm_i (0 : Int32)), (0, xm_r (some h))]) C dX12_collect_13 rfl (by decide) rfl ?_
  refine x_keep (L' := [(0, xm_r (some h)), (1, xm_i (0 : Int32)), (2, xm_i y21)]) C [2, 1, 0] rfl ?_
  exact kp_X12_collect_14 h (0 : Int32) y21 S19 C N hg  h1
theorem kp_X12_collect_met {h : Nat}  {S : xm_S} {g : Int32 → xm_S → Prop}  (h1 : wp_X12_collect h  S g) : xm_Met yX12_collect cX12_collect 3 (some (FieldType.int)) rm_X12_collect [xm_r (some h)] S (xm_qi g) xm_nox :=
  xm_ofW RX12 (by decide +kernel) rfl (Nat.le_of_ble_eq_true rfl) (fun K C N hq hx hi => kp_X12_collect h  S C N (fun v S h => by rw [hq]; exact ⟨v, rfl, h⟩)  h1)
def rm_X12_isVersion : Room := { frames := 3, cells := 0, slots := 0, locals := 62 }
theorem dX12_isVersion_0 : decode cX12_isVersion 0 = .ok (.iload_n 1, 1) := by decide +kernel
theorem dX12_isVersion_1 : decode cX12_isVersion 1 = .ok (.invokestatic 176, 3) := by decide +kernel
theorem dX12_isVersion_4 : decode cX12_isVersion 4 = .ok (.ifCond .eq 23, 3) := by decide +kernel
theorem dX12_isVersion_7 : decode cX12_isVersion 7 = .ok (.iload_n 2, 1) := by decide +kernel
theorem dX12_isVersion_8 : decode cX12_isVersion 8 = .ok (.iconst 0, 1) := by decide +kernel
theorem dX12_isVersion_9 : decode cX12_isVersion 9 = .ok (.aload_n 0, 1) := by decide +kernel
theorem dX12_isVersion_10 : decode cX12_isVersion 10 = .ok (.getfield 13, 3) := by decide +kernel
theorem dX12_isVersion_13 : decode cX12_isVersion 13 = .ok (.iload_n 1, 1) := by decide +kernel
theorem dX12_isVersion_14 : decode cX12_isVersion 14 = .ok (.iaload, 1) := by decide +kernel
theorem dX12_isVersion_15 : decode cX12_isVersion 15 = .ok (.iconst 1, 1) := by decide +kernel
theorem dX12_isVersion_16 : decode cX12_isVersion 16 = .ok (.isub, 1) := by decide +kernel
theorem dX12_isVersion_17 : decode cX12_isVersion 17 = .ok (.invokestatic 172, 3) := by decide +kernel
theorem dX12_isVersion_20 : decode cX12_isVersion 20 = .ok (.ifCond .eq 7, 3) := by decide +kernel
theorem dX12_isVersion_23 : decode cX12_isVersion 23 = .ok (.iconst 1, 1) := by decide +kernel
theorem dX12_isVersion_24 : decode cX12_isVersion 24 = .ok (.goto 4, 3) := by decide +kernel
theorem dX12_isVersion_27 : decode cX12_isVersion 27 = .ok (.iconst 0, 1) := by decide +kernel
theorem dX12_isVersion_28 : decode cX12_isVersion 28 = .ok (.ireturn, 1) := by decide +kernel
def wp_X12_isVersion_28 (h : Nat) (s0 : Int32) (S : xm_S) (g : Int32 → xm_S → Prop) : Prop :=
  (s0 = 0 ∨ s0 = 1) ∧ g s0 S
set_option maxRecDepth 100000 in
set_option maxHeartbeats 4000000 in
theorem kp_X12_isVersion_28 {K : xm_K} (h : Nat) (s0 : Int32) (S : xm_S) {g : Int32 → xm_S → Prop} (C : xm_Cx K cX12_isVersion RX12 3 (some (FieldType.boolean)) rm_X12_isVersion) (N : xm_Nx K) (hg : ∀ v S, g v S → xm_q K (some (xm_i v)) S)  (h1 : wp_X12_isVersion_28 h s0 S g) : xm_W K 0 0 28 [] [xm_i s0] S := by
  unfold wp_X12_isVersion_28 at h1
  exact x_zret C (Nat.le_of_ble_eq_true rfl) (Nat.le_of_ble_eq_true rfl) rfl h1.1 dX12_isVersion_28 (hg _ _ h1.2)
def wp_X12_isVersion_27 (h : Nat)  (S : xm_S) (g : Int32 → xm_S → Prop) : Prop :=
  wp_X12_isVersion_28 h (0 : Int32) S g
set_option maxRecDepth 100000 in
set_option maxHeartbeats 4000000 in
theorem kp_X12_isVersion_27 {K : xm_K} (h : Nat)  (S : xm_S) {g : Int32 → xm_S → Prop} (C : xm_Cx K cX12_isVersion RX12 3 (some (FieldType.boolean)) rm_X12_isVersion) (N : xm_Nx K) (hg : ∀ v S, g v S → xm_q K (some (xm_i v)) S)  (h1 : wp_X12_isVersion_27 h  S g) : xm_W K 0 0 27 [] [] S := by
  unfold wp_X12_isVersion_27 at h1
  refine x_iconst (v := (0 : Int32)) C dX12_isVersion_27 (by decide) ?_
  exact kp_X12_isVersion_28 h (0 : Int32) S C N hg  h1
def wp_X12_isVersion (h : Nat) (x1 : Int32) (x2 : Int32) (S : xm_S) (g : Int32 → xm_S → Prop) : Prop :=
  wp_X12_isPack x1 S (fun r2 S1 => (r2 = 0 → wp_X12_isVersion_27 h S1 g) ∧ (¬ r2 = 0 → st_t S1 h = some (12, 0) ∧ ∃ n4, (st_r S1 h 2) = some n4 ∧ ∃ z7, st_t S1 n4 = some (100, z7) ∧ vp_in x1 z7 ∧ wp_X12_in x2 (0 : Int32) ((st_i S1 n4 (x1).toNatClampNeg) - (1 : Int32)) S1 (fun r10 S9 => (r10 = 0 → wp_X12_isVersion_27 h S9 g) ∧ (¬ r10 = 0 → wp_X12_isVersion_28 h (1 : Int32) S9 g))))
set_option maxRecDepth 100000 in
set_option maxHeartbeats 4000000 in
theorem kp_X12_isVersion {K : xm_K} (h : Nat) (x1 : Int32) (x2 : Int32) (S : xm_S) {g : Int32 → xm_S → Prop} (C : xm_Cx K cX12_isVersion RX12 3 (some (FieldType.boolean)) rm_X12_isVersion) (N : xm_Nx K) (hg : ∀ v S, g v S → xm_q K (some (xm_i v)) S)  (h1 : wp_X12_isVersion h x1 x2 S g) : xm_W K 0 0 0 [(0, xm_r (some h)), (1, xm_i x1), (2, xm_i x2)] [] S := by
  unfold wp_X12_isVersion at h1
  refine x_iload_n C 1 dX12_isVersion_0 rfl rfl ?_
  refine x_callS (rm' := rm_X12_isPack) C (kp_X12_isPack_met h1) lk_97 gw_583 rfl (Nat.le_of_ble_eq_true rfl) ⟨Nat.le_of_ble_eq_true rfl, Nat.le_of_ble_eq_true rfl, (Nat.le_of_ble_eq_true rfl), (Nat.le_of_ble_eq_true rfl)⟩ dX12_isVersion_1 xm_kx (xm_ki (fun r2 S1 h1 => ?_))
  refine x_if_eq (tgt := 27) C dX12_isVersion_4 (by decide) (fun z9 => ?_) (fun z9 => ?_)
  · have h1 := h1.1 z9
    refine x_keep (L' := []) C [] rfl ?_
    exact kp_X12_isVersion_27 h S1 C N hg  h1
  · have h1 := h1.2 z9
    refine x_iload_n C 2 dX12_isVersion_7 rfl rfl ?_
    refine x_iconst (v := (0 : Int32)) C dX12_isVersion_8 (by decide) ?_
    refine x_aload_n C 0 dX12_isVersion_9 rfl rfl ?_
    obtain ⟨ht3, h1⟩ := h1
    refine x_getf_r (n := h) C rfl ht3 fd_175 (by decide) dX12_isVersion_10 ?_
    refine x_iload_n C 1 dX12_isVersion_13 rfl rfl ?_
    obtain ⟨n4, hr5, h1⟩ := h1
    obtain ⟨z7, ht6, h1⟩ := h1
    obtain ⟨hi8, h1⟩ := h1
    refine x_iald (n := n4) C hr5 ht6 hi8 dX12_isVersion_14 ?_
    refine x_iconst (v := (1 : Int32)) C dX12_isVersion_15 (by decide) ?_
    refine x_isub C dX12_isVersion_16 ?_
    refine x_callS (rm' := rm_X12_in) C (kp_X12_in_met h1) lk_87 gw_533 rfl (Nat.le_of_ble_eq_true rfl) ⟨Nat.le_of_ble_eq_true rfl, Nat.le_of_ble_eq_true rfl, (Nat.le_of_ble_eq_true rfl), (Nat.le_of_ble_eq_true rfl)⟩ dX12_isVersion_17 xm_kx (xm_ki (fun r10 S9 h1 => ?_))
    refine x_if_eq (tgt := 27) C dX12_isVersion_20 (by decide) (fun z9 => ?_) (fun z9 => ?_)
    · have h1 := h1.1 z9
      refine x_keep (L' := []) C [] rfl ?_
      exact kp_X12_isVersion_27 h S9 C N hg  h1
    · have h1 := h1.2 z9
      refine x_iconst (v := (1 : Int32)) C dX12_isVersion_23 (by decide) ?_
      refine x_goto (tgt := 28) C dX12_isVersion_24 (by decide) ?_
      refine x_keep (L' := []) C [] rfl ?_
      exact kp_X12_isVersion_28 h (1 : Int32) S9 C N hg  h1
theorem kp_X12_isVersion_met {h : Nat} {x1 : Int32} {x2 : Int32} {S : xm_S} {g : Int32 → xm_S → Prop}  (h1 : wp_X12_isVersion h x1 x2 S g) : xm_Met yX12_isVersion cX12_isVersion 3 (some (FieldType.boolean)) rm_X12_isVersion [xm_r (some h), xm_i x1, xm_i x2] S (xm_qi g) xm_nox :=
  xm_ofW RX12 (by decide +kernel) rfl (Nat.le_of_ble_eq_true rfl) (fun K C N hq hx hi => kp_X12_isVersion h x1 x2 S C N (fun v S h => by rw [hq]; exact ⟨v, rfl, h⟩)  h1)
def rm_X12_compare : Room := { frames := 4, cells := 0, slots := 0, locals := 92 }
theorem dX12_compare_0 : decode cX12_compare 0 = .ok (.aload_n 0, 1) := by decide +kernel
theorem dX12_compare_1 : decode cX12_compare 1 = .ok (.aload_n 0, 1) := by decide +kernel
theorem dX12_compare_2 : decode cX12_compare 2 = .ok (.iload_n 1, 1) := by decide +kernel
theorem dX12_compare_3 : decode cX12_compare 3 = .ok (.iload_n 2, 1) := by decide +kernel
theorem dX12_compare_4 : decode cX12_compare 4 = .ok (.invokevirtual 237, 3) := by decide +kernel
theorem dX12_compare_7 : decode cX12_compare 7 = .ok (.ifCond .eq 16, 3) := by decide +kernel
theorem dX12_compare_10 : decode cX12_compare 10 = .ok (.aload_n 0, 1) := by decide +kernel
theorem dX12_compare_11 : decode cX12_compare 11 = .ok (.iload_n 1, 1) := by decide +kernel
theorem dX12_compare_12 : decode cX12_compare 12 = .ok (.iload_n 3, 1) := by decide +kernel
theorem dX12_compare_13 : decode cX12_compare 13 = .ok (.invokevirtual 237, 3) := by decide +kernel
theorem dX12_compare_16 : decode cX12_compare 16 = .ok (.ifCond .eq 7, 3) := by decide +kernel
theorem dX12_compare_19 : decode cX12_compare 19 = .ok (.iconst 0, 1) := by decide +kernel
theorem dX12_compare_20 : decode cX12_compare 20 = .ok (.goto 4, 3) := by decide +kernel
theorem dX12_compare_23 : decode cX12_compare 23 = .ok (.iconst 1, 1) := by decide +kernel
theorem dX12_compare_24 : decode cX12_compare 24 = .ok (.invokevirtual 182, 3) := by decide +kernel
theorem dX12_compare_27 : decode cX12_compare 27 = .ok (.ifCond .ne 5, 3) := by decide +kernel
theorem dX12_compare_30 : decode cX12_compare 30 = .ok (.iconst 0, 1) := by decide +kernel
theorem dX12_compare_31 : decode cX12_compare 31 = .ok (.ireturn, 1) := by decide +kernel
theorem dX12_compare_32 : decode cX12_compare 32 = .ok (.aload_n 0, 1) := by decide +kernel
theorem dX12_compare_33 : decode cX12_compare 33 = .ok (.iload_n 1, 1) := by decide +kernel
theorem dX12_compare_34 : decode cX12_compare 34 = .ok (.iload_n 2, 1) := by decide +kernel
theorem dX12_compare_35 : decode cX12_compare 35 = .ok (.iload_n 3, 1) := by decide +kernel
theorem dX12_compare_36 : decode cX12_compare 36 = .ok (.invokevirtual 247, 3) := by decide +kernel
theorem dX12_compare_39 : decode cX12_compare 39 = .ok (.istore 4, 2) := by decide +kernel
theorem dX12_compare_41 : decode cX12_compare 41 = .ok (.iload 4, 2) := by decide +kernel
theorem dX12_compare_43 : decode cX12_compare 43 = .ok (.ifCond .ge 7, 3) := by decide +kernel
theorem dX12_compare_46 : decode cX12_compare 46 = .ok (.iconst (-1), 1) := by decide +kernel
theorem dX12_compare_47 : decode cX12_compare 47 = .ok (.goto 13, 3) := by decide +kernel
theorem dX12_compare_50 : decode cX12_compare 50 = .ok (.iload 4, 2) := by decide +kernel
theorem dX12_compare_52 : decode cX12_compare 52 = .ok (.ifCond .le 7, 3) := by decide +kernel
theorem dX12_compare_55 : decode cX12_compare 55 = .ok (.iconst 1, 1) := by decide +kernel
theorem dX12_compare_56 : decode cX12_compare 56 = .ok (.goto 4, 3) := by decide +kernel
theorem dX12_compare_59 : decode cX12_compare 59 = .ok (.iconst 0, 1) := by decide +kernel
theorem dX12_compare_60 : decode cX12_compare 60 = .ok (.ireturn, 1) := by decide +kernel
def wp_X12_compare_60 (h : Nat) (s0 : Int32) (S : xm_S) (g : Int32 → xm_S → Prop) : Prop :=
  g s0 S
set_option maxRecDepth 100000 in
set_option maxHeartbeats 4000000 in
theorem kp_X12_compare_60 {K : xm_K} (h : Nat) (s0 : Int32) (S : xm_S) {g : Int32 → xm_S → Prop} (C : xm_Cx K cX12_compare RX12 5 (some (FieldType.int)) rm_X12_compare) (N : xm_Nx K) (hg : ∀ v S, g v S → xm_q K (some (xm_i v)) S)  (h1 : wp_X12_compare_60 h s0 S g) : xm_W K 0 0 60 [] [xm_i s0] S := by
  unfold wp_X12_compare_60 at h1
  exact x_iret C (Nat.le_of_ble_eq_true rfl) (Nat.le_of_ble_eq_true rfl) rfl dX12_compare_60 (hg _ _ h1)
def wp_X12_compare_24 (h : Nat) (x1 : Int32) (x2 : Int32) (x3 : Int32) (s0 : Int32) (s1 : Option Nat) (S : xm_S) (g : Int32 → xm_S → Prop) : Prop :=
  ∃ n1, s1 = some n1 ∧ st_t S n1 = some (12, 0) ∧ wp_X12_may n1 s0 S (fun r5 S4 => (¬ r5 = 0 → st_t S4 h = some (12, 0) ∧ wp_X12_compares h x1 x2 x3 S4 (fun r8 S7 => (0 ≤ r8 → (r8 ≤ 0 → wp_X12_compare_60 h (0 : Int32) S7 g) ∧ (¬ r8 ≤ 0 → wp_X12_compare_60 h (1 : Int32) S7 g)) ∧ (¬ 0 ≤ r8 → wp_X12_compare_60 h (-1 : Int32) S7 g))) ∧ (r5 = 0 → g (0 : Int32) S4))
set_option maxRecDepth 100000 in
set_option maxHeartbeats 4000000 in
theorem kp_X12_compare_24 {K : xm_K} (h : Nat) (x1 : Int32) (x2 : Int32) (x3 : Int32) (s0 : Int32) (s1 : Option Nat) (S : xm_S) {g : Int32 → xm_S → Prop} (C : xm_Cx K cX12_compare RX12 5 (some (FieldType.int)) rm_X12_compare) (N : xm_Nx K) (hg : ∀ v S, g v S → xm_q K (some (xm_i v)) S)  (h1 : wp_X12_compare_24 h x1 x2 x3 s0 s1 S g) : xm_W K 0 0 24 [(0, xm_r (some h)), (1, xm_i x1), (2, xm_i x2), (3, xm_i x3)] [xm_i s0, xm_r s1] S := by
  unfold wp_X12_compare_24 at h1
  obtain ⟨n1, hr2, h1⟩ := h1
  obtain ⟨ht3, h1⟩ := h1
  refine x_callV (rm' := rm_X12_may) (n := n1) C (kp_X12_may_met h1) lk_95 gw_572 gw_573 xv_12 rfl hr2 ht3 rfl (Nat.le_of_ble_eq_true rfl) ⟨Nat.le_of_ble_eq_true rfl, Nat.le_of_ble_eq_true rfl, (Nat.le_of_ble_eq_true rfl), (Nat.le_of_ble_eq_true rfl)⟩ dX12_compare_24 xm_kx (xm_ki (fun r5 S4 h1 => ?_))
  refine x_if_ne (tgt := 32) C dX12_compare_27 (by decide) (fun z9 => ?_) (fun z9 => ?_)
  · have h1 := h1.1 z9
    refine x_aload_n C 0 dX12_compare_32 rfl rfl ?_
    refine x_iload_n C 1 dX12_compare_33 rfl rfl ?_
    refine x_iload_n C 2 dX12_compare_34 rfl rfl ?_
    refine x_iload_n C 3 dX12_compare_35 rfl rfl ?_
    obtain ⟨ht6, h1⟩ := h1
    refine x_callV (rm' := rm_X12_compares) (n := h) C (kp_X12_compares_met h1) lk_114 gw_674 gw_675 xv_12 rfl rfl ht6 rfl (Nat.le_of_ble_eq_true rfl) ⟨Nat.le_of_ble_eq_true rfl, Nat.le_of_ble_eq_true rfl, (Nat.le_of_ble_eq_true rfl), (Nat.le_of_ble_eq_true rfl)⟩ dX12_compare_36 xm_kx (xm_ki (fun r8 S7 h1 => ?_))
    refine x_istore (L' := [(4, xm_i r8), (0, xm_r (some h)), (1, xm_i x1), (2, xm_i x2), (3, xm_i x3)]) C dX12_compare_39 (by decide) rfl ?_
    refine x_iload C 0 dX12_compare_41 rfl ?_
    refine x_if_ge (tgt := 50) C dX12_compare_43 (by decide) (fun z9 => ?_) (fun z9 => ?_)
    · have h1 := h1.1 z9
      refine x_iload C 0 dX12_compare_50 rfl ?_
      refine x_if_le (tgt := 59) C dX12_compare_52 (by decide) (fun z9 => ?_) (fun z9 => ?_)
      · have h1 := h1.1 z9
        refine x_iconst (v := (0 : Int32)) C dX12_compare_59 (by decide) ?_
        refine x_keep (L' := []) C [] rfl ?_
        exact kp_X12_compare_60 h (0 : Int32) S7 C N hg  h1
      · have h1 := h1.2 z9
        refine x_iconst (v := (1 : Int32)) C dX12_compare_55 (by decide) ?_
        refine x_goto (tgt := 60) C dX12_compare_56 (by decide) ?_
        refine x_keep (L' := []) C [] rfl ?_
        exact kp_X12_compare_60 h (1 : Int32) S7 C N hg  h1
    · have h1 := h1.2 z9
      refine x_iconst (v := (-1 : Int32)) C dX12_compare_46 (by decide) ?_
      refine x_goto (tgt := 60) C dX12_compare_47 (by decide) ?_
      refine x_keep (L' := []) C [] rfl ?_
      exact kp_X12_compare_60 h (-1 : Int32) S7 C N hg  h1
  · have h1 := h1.2 z9
    refine x_iconst (v := (0 : Int32)) C dX12_compare_30 (by decide) ?_
    exact x_iret C (Nat.le_of_ble_eq_true rfl) (Nat.le_of_ble_eq_true rfl) rfl dX12_compare_31 (hg _ _ h1)
def wp_X12_compare_23 (h : Nat) (x1 : Int32) (x2 : Int32) (x3 : Int32) (s0 : Option Nat) (S : xm_S) (g : Int32 → xm_S → Prop) : Prop :=
  wp_X12_compare_24 h x1 x2 x3 (1 : Int32) s0 S g
set_option maxRecDepth 100000 in
set_option maxHeartbeats 4000000 in
theorem kp_X12_compare_23 {K : xm_K} (h : Nat) (x1 : Int32) (x2 : Int32) (x3 : Int32) (s0 : Option Nat) (S : xm_S) {g : Int32 → xm_S → Prop} (C : xm_Cx K cX12_compare RX12 5 (some (FieldType.int)) rm_X12_compare) (N : xm_Nx K) (hg : ∀ v S, g v S → xm_q K (some (xm_i v)) S)  (h1 : wp_X12_compare_23 h x1 x2 x3 s0 S g) : xm_W K 0 0 23 [(0, xm_r (some h)), (1, xm_i x1), (2, xm_i x2), (3, xm_i x3)] [xm_r s0] S := by
  unfold wp_X12_compare_23 at h1
  refine x_iconst (v := (1 : Int32)) C dX12_compare_23 (by decide) ?_
  exact kp_X12_compare_24 h x1 x2 x3 (1 : Int32) s0 S C N hg  h1
def wp_X12_compare (h : Nat) (x1 : Int32) (x2 : Int32) (x3 : Int32) (S : xm_S) (g : Int32 → xm_S → Prop) : Prop :=
  st_t S h = some (12, 0) ∧ wp_X12_isVersion h x1 x2 S (fun r11 S10 => (r11 = 0 → wp_X12_compare_23 h x1 x2 x3 (some h) S10 g) ∧ (¬ r11 = 0 → st_t S10 h = some (12, 0) ∧ wp_X12_isVersion h x1 x3 S10 (fun r14 S13 => (r14 = 0 → wp_X12_compare_23 h x1 x2 x3 (some h) S13 g) ∧ (¬ r14 = 0 → wp_X12_compare_24 h x1 x2 x3 (0 : Int32) (some h) S13 g))))
set_option maxRecDepth 100000 in
set_option maxHeartbeats 4000000 in
theorem kp_X12_compare {K : xm_K} (h : Nat) (x1 : Int32) (x2 : Int32) (x3 : Int32) (S : xm_S) {g : Int32 → xm_S → Prop} (C : xm_Cx K cX12_compare RX12 5 (some (FieldType.int)) rm_X12_compare) (N : xm_Nx K) (hg : ∀ v S, g v S → xm_q K (some (xm_i v)) S)  (h1 : wp_X12_compare h x1 x2 x3 S g) : xm_W K 0 0 0 [(0, xm_r (some h)), (1, xm_i x1), (2, xm_i x2), (3, xm_i x3)] [] S := by
  unfold wp_X12_compare at h1
  refine x_aload_n C 0 dX12_compare_0 rfl rfl ?_
  refine x_aload_n C 0 dX12_compare_1 rfl rfl ?_
  refine x_iload_n C 1 dX12_compare_2 rfl rfl ?_
  refine x_iload_n C 2 dX12_compare_3 rfl rfl ?_
  obtain ⟨ht9, h1⟩ := h1
  refine x_callV (rm' := rm_X12_isVersion) (n := h) C (kp_X12_isVersion_met h1) lk_119 gw_699 gw_700 xv_12 rfl rfl ht9 rfl (Nat.le_of_ble_eq_true rfl) ⟨Nat.le_of_ble_eq_true rfl, Nat.le_of_ble_eq_true rfl, (Nat.le_of_ble_eq_true rfl), (Nat.le_of_ble_eq_true rfl)⟩ dX12_compare_4 xm_kx (xm_ki (fun r11 S10 h1 => ?_))
  refine x_if_eq (tgt := 23) C dX12_compare_7 (by decide) (fun z9 => ?_) (fun z9 => ?_)
  · have h1 := h1.1 z9
    exact kp_X12_compare_23 h x1 x2 x3 (some h) S10 C N hg  h1
  · have h1 := h1.2 z9
    refine x_aload_n C 0 dX12_compare_10 rfl rfl ?_
    refine x_iload_n C 1 dX12_compare_11 rfl rfl ?_
    refine x_iload_n C 3 dX12_compare_12 rfl rfl ?_
    obtain ⟨ht12, h1⟩ := h1
    refine x_callV (rm' := rm_X12_isVersion) (n := h) C (kp_X12_isVersion_met h1) lk_119 gw_699 gw_700 xv_12 rfl rfl ht12 rfl (Nat.le_of_ble_eq_true rfl) ⟨Nat.le_of_ble_eq_true rfl, Nat.le_of_ble_eq_true rfl, (Nat.le_of_ble_eq_true rfl), (Nat.le_of_ble_eq_true rfl)⟩ dX12_compare_13 xm_kx (xm_ki (fun r14 S13 h1 => ?_))
    refine x_if_eq (tgt := 23) C dX12_compare_16 (by decide) (fun z9 => ?_) (fun z9 => ?_)
    · have h1 := h1.1 z9
      exact kp_X12_compare_23 h x1 x2 x3 (some h) S13 C N hg  h1
    · have h1 := h1.2 z9
      refine x_iconst (v := (0 : Int32)) C dX12_compare_19 (by decide) ?_
      refine x_goto (tgt := 24) C dX12_compare_20 (by decide) ?_
      exact kp_X12_compare_24 h x1 x2 x3 (0 : Int32) (some h) S13 C N hg  h1
theorem kp_X12_compare_met {h : Nat} {x1 : Int32} {x2 : Int32} {x3 : Int32} {S : xm_S} {g : Int32 → xm_S → Prop}  (h1 : wp_X12_compare h x1 x2 x3 S g) : xm_Met yX12_compare cX12_compare 5 (some (FieldType.int)) rm_X12_compare [xm_r (some h), xm_i x1, xm_i x2, xm_i x3] S (xm_qi g) xm_nox :=
  xm_ofW RX12 (by decide +kernel) rfl (Nat.le_of_ble_eq_true rfl) (fun K C N hq hx hi => kp_X12_compare h x1 x2 x3 S C N (fun v S h => by rw [hq]; exact ⟨v, rfl, h⟩)  h1)
def rm_X12_conflict : Room := { frames := 8, cells := 0, slots := 0, locals := 168 }
theorem dX12_conflict_0 : decode cX12_conflict 0 = .ok (.aload_n 0, 1) := by decide +kernel
theorem dX12_conflict_1 : decode cX12_conflict 1 = .ok (.iload_n 1, 1) := by decide +kernel
theorem dX12_conflict_2 : decode cX12_conflict 2 = .ok (.iload_n 2, 1) := by decide +kernel
theorem dX12_conflict_3 : decode cX12_conflict 3 = .ok (.invokevirtual 237, 3) := by decide +kernel
theorem dX12_conflict_6 : decode cX12_conflict 6 = .ok (.ifCond .eq 14, 3) := by decide +kernel
theorem dX12_conflict_9 : decode cX12_conflict 9 = .ok (.iload_n 3, 1) := by decide +kernel
theorem dX12_conflict_10 : decode cX12_conflict 10 = .ok (.invokestatic 176, 3) := by decide +kernel
theorem dX12_conflict_13 : decode cX12_conflict 13 = .ok (.ifCond .eq 7, 3) := by decide +kernel
theorem dX12_conflict_16 : decode cX12_conflict 16 = .ok (.iconst 1, 1) := by decide +kernel
theorem dX12_conflict_17 : decode cX12_conflict 17 = .ok (.goto 4, 3) := by decide +kernel
theorem dX12_conflict_20 : decode cX12_conflict 20 = .ok (.iconst 0, 1) := by decide +kernel
theorem dX12_conflict_21 : decode cX12_conflict 21 = .ok (.istore 4, 2) := by decide +kernel
theorem dX12_conflict_23 : decode cX12_conflict 23 = .ok (.iload 4, 2) := by decide +kernel
theorem dX12_conflict_25 : decode cX12_conflict 25 = .ok (.ifCond .eq 19, 3) := by decide +kernel
theorem dX12_conflict_28 : decode cX12_conflict 28 = .ok (.iload_n 3, 1) := by decide +kernel
theorem dX12_conflict_29 : decode cX12_conflict 29 = .ok (.iload_n 1, 1) := by decide +kernel
theorem dX12_conflict_30 : decode cX12_conflict 30 = .ok (.if_icmp .eq 14, 3) := by decide +kernel
theorem dX12_conflict_33 : decode cX12_conflict 33 = .ok (.aload_n 0, 1) := by decide +kernel
theorem dX12_conflict_34 : decode cX12_conflict 34 = .ok (.invokevirtual 240, 3) := by decide +kernel
theorem dX12_conflict_37 : decode cX12_conflict 37 = .ok (.ifCond .eq 7, 3) := by decide +kernel
theorem dX12_conflict_40 : decode cX12_conflict 40 = .ok (.iconst 1, 1) := by decide +kernel
theorem dX12_conflict_41 : decode cX12_conflict 41 = .ok (.goto 4, 3) := by decide +kernel
theorem dX12_conflict_44 : decode cX12_conflict 44 = .ok (.iconst 0, 1) := by decide +kernel
theorem dX12_conflict_45 : decode cX12_conflict 45 = .ok (.istore 5, 2) := by decide +kernel
theorem dX12_conflict_47 : decode cX12_conflict 47 = .ok (.iload 4, 2) := by decide +kernel
theorem dX12_conflict_49 : decode cX12_conflict 49 = .ok (.ifCond .eq 11, 3) := by decide +kernel
theorem dX12_conflict_52 : decode cX12_conflict 52 = .ok (.iconst 4, 1) := by decide +kernel
theorem dX12_conflict_53 : decode cX12_conflict 53 = .ok (.iload_n 1, 1) := by decide +kernel
theorem dX12_conflict_54 : decode cX12_conflict 54 = .ok (.imul, 1) := by decide +kernel
theorem dX12_conflict_55 : decode cX12_conflict 55 = .ok (.iload_n 2, 1) := by decide +kernel
theorem dX12_conflict_56 : decode cX12_conflict 56 = .ok (.iadd, 1) := by decide +kernel
theorem dX12_conflict_57 : decode cX12_conflict 57 = .ok (.goto 4, 3) := by decide +kernel
theorem dX12_conflict_60 : decode cX12_conflict 60 = .ok (.iconst 0, 1) := by decide +kernel
theorem dX12_conflict_61 : decode cX12_conflict 61 = .ok (.istore 6, 2) := by decide +kernel
theorem dX12_conflict_63 : decode cX12_conflict 63 = .ok (.aload_n 0, 1) := by decide +kernel
theorem dX12_conflict_64 : decode cX12_conflict 64 = .ok (.iload 4, 2) := by decide +kernel
theorem dX12_conflict_66 : decode cX12_conflict 66 = .ok (.ifCond .ne 7, 3) := by decide +kernel
theorem dX12_conflict_69 : decode cX12_conflict 69 = .ok (.iconst 1, 1) := by decide +kernel
theorem dX12_conflict_70 : decode cX12_conflict 70 = .ok (.goto 28, 3) := by decide +kernel
theorem dX12_conflict_73 : decode cX12_conflict 73 = .ok (.iload 5, 2) := by decide +kernel
theorem dX12_conflict_75 : decode cX12_conflict 75 = .ok (.ifCond .ne 7, 3) := by decide +kernel
theorem dX12_conflict_78 : decode cX12_conflict 78 = .ok (.iconst 2, 1) := by decide +kernel
theorem dX12_conflict_79 : decode cX12_conflict 79 = .ok (.goto 19, 3) := by decide +kernel
theorem dX12_conflict_82 : decode cX12_conflict 82 = .ok (.aload_n 0, 1) := by decide +kernel
theorem dX12_conflict_83 : decode cX12_conflict 83 = .ok (.getfield 47, 3) := by decide +kernel
theorem dX12_conflict_86 : decode cX12_conflict 86 = .ok (.iload 6, 2) := by decide +kernel
theorem dX12_conflict_88 : decode cX12_conflict 88 = .ok (.iaload, 1) := by decide +kernel
theorem dX12_conflict_89 : decode cX12_conflict 89 = .ok (.iconst 2, 1) := by decide +kernel
theorem dX12_conflict_90 : decode cX12_conflict 90 = .ok (.if_icmp .ne 7, 3) := by decide +kernel
theorem dX12_conflict_93 : decode cX12_conflict 93 = .ok (.iconst 3, 1) := by decide +kernel
theorem dX12_conflict_94 : decode cX12_conflict 94 = .ok (.goto 4, 3) := by decide +kernel
theorem dX12_conflict_97 : decode cX12_conflict 97 = .ok (.iconst 0, 1) := by decide +kernel
theorem dX12_conflict_98 : decode cX12_conflict 98 = .ok (.invokevirtual 182, 3) := by decide +kernel
theorem dX12_conflict_101 : decode cX12_conflict 101 = .ok (.ifCond .ne 5, 3) := by decide +kernel
theorem dX12_conflict_104 : decode cX12_conflict 104 = .ok (.iconst 0, 1) := by decide +kernel
theorem dX12_conflict_105 : decode cX12_conflict 105 = .ok (.ireturn, 1) := by decide +kernel
theorem dX12_conflict_106 : decode cX12_conflict 106 = .ok (.aload_n 0, 1) := by decide +kernel
theorem dX12_conflict_107 : decode cX12_conflict 107 = .ok (.getfield 50, 3) := by decide +kernel
theorem dX12_conflict_110 : decode cX12_conflict 110 = .ok (.iconst 2, 1) := by decide +kernel
theorem dX12_conflict_111 : decode cX12_conflict 111 = .ok (.iload 6, 2) := by decide +kernel
theorem dX12_conflict_113 : decode cX12_conflict 113 = .ok (.imul, 1) := by decide +kernel
theorem dX12_conflict_114 : decode cX12_conflict 114 = .ok (.aload_n 0, 1) := by decide +kernel
theorem dX12_conflict_115 : decode cX12_conflict 115 = .ok (.getfield 47, 3) := by decide +kernel
theorem dX12_conflict_118 : decode cX12_conflict 118 = .ok (.iload 6, 2) := by decide +kernel
theorem dX12_conflict_120 : decode cX12_conflict 120 = .ok (.iaload, 1) := by decide +kernel
theorem dX12_conflict_121 : decode cX12_conflict 121 = .ok (.iadd, 1) := by decide +kernel
theorem dX12_conflict_122 : decode cX12_conflict 122 = .ok (.iload_n 3, 1) := by decide +kernel
theorem dX12_conflict_123 : decode cX12_conflict 123 = .ok (.iastore, 1) := by decide +kernel
theorem dX12_conflict_124 : decode cX12_conflict 124 = .ok (.aload_n 0, 1) := by decide +kernel
theorem dX12_conflict_125 : decode cX12_conflict 125 = .ok (.bipush 96, 2) := by decide +kernel
theorem dX12_conflict_127 : decode cX12_conflict 127 = .ok (.iconst 2, 1) := by decide +kernel
theorem dX12_conflict_128 : decode cX12_conflict 128 = .ok (.iload 6, 2) := by decide +kernel
theorem dX12_conflict_130 : decode cX12_conflict 130 = .ok (.imul, 1) := by decide +kernel
theorem dX12_conflict_131 : decode cX12_conflict 131 = .ok (.iadd, 1) := by decide +kernel
theorem dX12_conflict_132 : decode cX12_conflict 132 = .ok (.aload_n 0, 1) := by decide +kernel
theorem dX12_conflict_133 : decode cX12_conflict 133 = .ok (.getfield 47, 3) := by decide +kernel
theorem dX12_conflict_136 : decode cX12_conflict 136 = .ok (.iload 6, 2) := by decide +kernel
theorem dX12_conflict_138 : decode cX12_conflict 138 = .ok (.iaload, 1) := by decide +kernel
theorem dX12_conflict_139 : decode cX12_conflict 139 = .ok (.iadd, 1) := by decide +kernel
theorem dX12_conflict_140 : decode cX12_conflict 140 = .ok (.invokevirtual 243, 3) := by decide +kernel
theorem dX12_conflict_143 : decode cX12_conflict 143 = .ok (.aload_n 0, 1) := by decide +kernel
theorem dX12_conflict_144 : decode cX12_conflict 144 = .ok (.getfield 47, 3) := by decide +kernel
theorem dX12_conflict_147 : decode cX12_conflict 147 = .ok (.iload 6, 2) := by decide +kernel
theorem dX12_conflict_149 : decode cX12_conflict 149 = .ok (.dup2, 1) := by decide +kernel
theorem dX12_conflict_150 : decode cX12_conflict 150 = .ok (.iaload, 1) := by decide +kernel
theorem dX12_conflict_151 : decode cX12_conflict 151 = .ok (.iconst 1, 1) := by decide +kernel
theorem dX12_conflict_152 : decode cX12_conflict 152 = .ok (.iadd, 1) := by decide +kernel
theorem dX12_conflict_153 : decode cX12_conflict 153 = .ok (.iastore, 1) := by decide +kernel
theorem dX12_conflict_154 : decode cX12_conflict 154 = .ok (.aload_n 0, 1) := by decide +kernel
theorem dX12_conflict_155 : decode cX12_conflict 155 = .ok (.getfield 47, 3) := by decide +kernel
theorem dX12_conflict_158 : decode cX12_conflict 158 = .ok (.iload 6, 2) := by decide +kernel
theorem dX12_conflict_160 : decode cX12_conflict 160 = .ok (.iaload, 1) := by decide +kernel
theorem dX12_conflict_161 : decode cX12_conflict 161 = .ok (.ireturn, 1) := by decide +kernel
def wp_X12_conflict_98 (h : Nat) (x3 : Int32) (x6 : Int32) (s0 : Int32) (s1 : Option Nat) (S : xm_S) (g : Int32 → xm_S → Prop) : Prop :=
  ∃ n1, s1 = some n1 ∧ st_t S n1 = some (12, 0) ∧ wp_X12_may n1 s0 S (fun r5 S4 => (¬ r5 = 0 → st_t S4 h = some (12, 0) ∧ ∃ n7, (st_r S4 h 13) = some n7 ∧ ∃ z10, st_t S4 n7 = some (100, z10) ∧ vp_in x6 z10 ∧ ∃ n12, (st_r S4 h 14) = some n12 ∧ ∃ z15, st_t S4 n12 = some (100, z15) ∧ vp_in (((nI 2) * x6) + (st_i S4 n7 (x6).toNatClampNeg)) z15 ∧ ∀ S17, S17 = st_pi S4 n12 ((((nI 2) * x6) + (st_i S4 n7 (x6).toNatClampNeg))).toNatClampNeg x3 → ∃ n19, (st_r S17 h 13) = some n19 ∧ ∃ z22, st_t S17 n19 = some (100, z22) ∧ vp_in x6 z22 ∧ wp_X12_keeps h (((nI 96) + ((nI 2) * x6)) + (st_i S17 n19 (x6).toNatClampNeg)) S17 (fun S24 => st_t S24 h = some (12, 0) ∧ ∃ n27, (st_r S24 h 13) = some n27 ∧ ∃ z30, st_t S24 n27 = some (100, z30) ∧ vp_in x6 z30 ∧ ∃ n32, (st_r S24 h 13) = some n32 ∧ ∃ z35, st_t S24 n32 = some (100, z35) ∧ vp_in x6 z35 ∧ ∀ S37, S37 = st_pi S24 n32 (x6).toNatClampNeg ((st_i S24 n27 (x6).toNatClampNeg) + (1 : Int32)) → ∃ n39, (st_r S37 h 13) = some n39 ∧ ∃ z42, st_t S37 n39 = some (100, z42) ∧ vp_in x6 z42 ∧ g (st_i S37 n39 (x6).toNatClampNeg) S37)) ∧ (r5 = 0 → g (0 : Int32) S4))
set_option maxRecDepth 100000 in
set_option maxHeartbeats 4000000 in
theorem kp_X12_conflict_98 {K : xm_K} (h : Nat) (x3 : Int32) (x6 : Int32) (s0 : Int32) (s1 : Option Nat) (S : xm_S) {g : Int32 → xm_S → Prop} (C : xm_Cx K cX12_conflict RX12 7 (some (FieldType.int)) rm_X12_conflict) (N : xm_Nx K) (hg : ∀ v S, g v S → xm_q K (some (xm_i v)) S)  (h1 : wp_X12_conflict_98 h x3 x6 s0 s1 S g) : xm_W K 0 0 98 [(0, xm_r (some h)), (3, xm_i x3), (6, xm_i x6)] [xm_i s0, xm_r s1] S := by
  unfold wp_X12_conflict_98 at h1
  obtain ⟨n1, hr2, h1⟩ := h1
  obtain ⟨ht3, h1⟩ := h1
  refine x_callV (rm' := rm_X12_may) (n := n1) C (kp_X12_may_met h1) lk_95 gw_572 gw_573 xv_12 rfl hr2 ht3 rfl (Nat.le_of_ble_eq_true rfl) ⟨Nat.le_of_ble_eq_true rfl, Nat.le_of_ble_eq_true rfl, (Nat.le_of_ble_eq_true rfl), (Nat.le_of_ble_eq_true rfl)⟩ dX12_conflict_98 xm_kx (xm_ki (fun r5 S4 h1 => ?_))
  refine x_if_ne (tgt := 106) C dX12_conflict_101 (by decide) (fun z9 => ?_) (fun z9 => ?_)
  · have h1 := h1.1 z9
    refine x_aload_n C 0 dX12_conflict_106 rfl rfl ?_
    obtain ⟨ht6, h1⟩ := h1
    refine x_getf_r (n := h) C rfl ht6 fd_179 (by decide) dX12_conflict_107 ?_
    refine x_iconst (v := (nI 2)) C dX12_conflict_110 (by decide) ?_
    refine x_iload C 2 dX12_conflict_111 rfl ?_
    refine x_imul C dX12_conflict_113 ?_
    refine x_aload_n C 0 dX12_conflict_114 rfl rfl ?_
    refine x_getf_r (n := h) C rfl ht6 fd_178 (by decide) dX12_conflict_115 ?_
    refine x_iload C 2 dX12_conflict_118 rfl ?_
    obtain ⟨n7, hr8, h1⟩ := h1
    obtain ⟨z10, ht9, h1⟩ := h1
    obtain ⟨hi11, h1⟩ := h1
    refine x_iald (n := n7) C hr8 ht9 hi11 dX12_conflict_120 ?_
    refine x_iadd C dX12_conflict_121 ?_
    refine x_iload_n C 1 dX12_conflict_122 rfl rfl ?_
    obtain ⟨n12, hr13, h1⟩ := h1
    obtain ⟨z15, ht14, h1⟩ := h1
    obtain ⟨hi16, h1⟩ := h1
    refine x_iast (n := n12) C hr13 ht14 hi16 dX12_conflict_123 ?_
    refine x_topS (fun S17 e18 => ?_)
    have h1 := h1 S17 e18
    refine x_aload_n C 0 dX12_conflict_124 rfl rfl ?_
    refine x_bipush (v := (nI 96)) C dX12_conflict_125 (by decide) ?_
    refine x_iconst (v := (nI 2)) C dX12_conflict_127 (by decide) ?_
    refine x_iload C 2 dX12_conflict_128 rfl ?_
    refine x_imul C dX12_conflict_130 ?_
    refine x_iadd C dX12_conflict_131 ?_
    refine x_aload_n C 0 dX12_conflict_132 rfl rfl ?_
    refine x_getf_r (n := h) C rfl (tk_p e18 ht6) fd_178 (by decide) dX12_conflict_133 ?_
    refine x_iload C 2 dX12_conflict_136 rfl ?_
    obtain ⟨n19, hr20, h1⟩ := h1
    obtain ⟨z22, ht21, h1⟩ := h1
    obtain ⟨hi23, h1⟩ := h1
    refine x_iald (n := n19) C hr20 ht21 hi23 dX12_conflict_138 ?_
    refine x_iadd C dX12_conflict_139 ?_
    refine x_callV (rm' := rm_X12_keeps) (n := h) C (kp_X12_keeps_met h1) lk_96 gw_579 gw_580 xv_12 rfl rfl (tk_p e18 ht6) rfl (Nat.le_of_ble_eq_true rfl) ⟨Nat.le_of_ble_eq_true rfl, Nat.le_of_ble_eq_true rfl, (Nat.le_of_ble_eq_true rfl), (Nat.le_of_ble_eq_true rfl)⟩ dX12_conflict_140 xm_kx (xm_kv (fun S24 h1 => ?_))
    refine x_aload_n C 0 dX12_conflict_143 rfl rfl ?_
    obtain ⟨ht26, h1⟩ := h1
    refine x_getf_r (n := h) C rfl ht26 fd_178 (by decide) dX12_conflict_144 ?_
    refine x_iload C 2 dX12_conflict_147 rfl ?_
    refine x_dup2_ir C dX12_conflict_149 ?_
    obtain ⟨n27, hr28, h1⟩ := h1
    obtain ⟨z30, ht29, h1⟩ := h1
    obtain ⟨hi31, h1⟩ := h1
    refine x_iald (n := n27) C hr28 ht29 hi31 dX12_conflict_150 ?_
    refine x_iconst (v := (1 : Int32)) C dX12_conflict_151 (by decide) ?_
    refine x_iadd C dX12_conflict_152 ?_
    obtain ⟨n32, hr33, h1⟩ := h1
    obtain ⟨z35, ht34, h1⟩ := h1
    obtain ⟨hi36, h1⟩ := h1
    refine x_iast (n := n32) C hr33 ht34 hi36 dX12_conflict_153 ?_
    refine x_topS (fun S37 e38 => ?_)
    have h1 := h1 S37 e38
    refine x_aload_n C 0 dX12_conflict_154 rfl rfl ?_
    refine x_getf_r (n := h) C rfl (tk_p e38 ht26) fd_178 (by decide) dX12_conflict_155 ?_
    refine x_iload C 2 dX12_conflict_158 rfl ?_
    obtain ⟨n39, hr40, h1⟩ := h1
    obtain ⟨z42, ht41, h1⟩ := h1
    obtain ⟨hi43, h1⟩ := h1
    refine x_iald (n := n39) C hr40 ht41 hi43 dX12_conflict_160 ?_
    exact x_iret C (Nat.le_of_ble_eq_true rfl) (Nat.le_of_ble_eq_true rfl) rfl dX12_conflict_161 (hg _ _ h1)
  · have h1 := h1.2 z9
    refine x_iconst (v := (0 : Int32)) C dX12_conflict_104 (by decide) ?_
    exact x_iret C (Nat.le_of_ble_eq_true rfl) (Nat.le_of_ble_eq_true rfl) rfl dX12_conflict_105 (hg _ _ h1)
def wp_X12_conflict_61 (h : Nat) (x3 : Int32) (x4 : Int32) (x5 : Int32) (s0 : Int32) (S : xm_S) (g : Int32 → xm_S → Prop) : Prop :=
  (¬ x4 = 0 → (¬ x5 = 0 → st_t S h = some (12, 0) ∧ ∃ n45, (st_r S h 13) = some n45 ∧ ∃ z48, st_t S n45 = some (100, z48) ∧ vp_in s0 z48 ∧ (¬ (st_i S n45 (s0).toNatClampNeg) = (nI 2) → wp_X12_conflict_98 h x3 s0 (0 : Int32) (some h) S g) ∧ ((st_i S n45 (s0).toNatClampNeg) = (nI 2) → wp_X12_conflict_98 h x3 s0 (nI 3) (some h) S g)) ∧ (x5 = 0 → wp_X12_conflict_98 h x3 s0 (nI 2) (some h) S g)) ∧ (x4 = 0 → wp_X12_conflict_98 h x3 s0 (1 : Int32) (some h) S g)
set_option maxRecDepth 100000 in
set_option maxHeartbeats 4000000 in
theorem kp_X12_conflict_61 {K : xm_K} (h : Nat) (x3 : Int32) (x4 : Int32) (x5 : Int32) (s0 : Int32) (S : xm_S) {g : Int32 → xm_S → Prop} (C : xm_Cx K cX12_conflict RX12 7 (some (FieldType.int)) rm_X12_conflict) (N : xm_Nx K) (hg : ∀ v S, g v S → xm_q K (some (xm_i v)) S)  (h1 : wp_X12_conflict_61 h x3 x4 x5 s0 S g) : xm_W K 0 0 61 [(0, xm_r (some h)), (3, xm_i x3), (4, xm_i x4), (5, xm_i x5)] [xm_i s0] S := by
  unfold wp_X12_conflict_61 at h1
  refine x_istore (L' := [(6, xm_i s0), (0, xm_r (some h)), (3, xm_i x3), (4, xm_i x4), (5, xm_i x5)]) C dX12_conflict_61 (by decide) rfl ?_
  refine x_aload_n C 1 dX12_conflict_63 rfl rfl ?_
  refine x_iload C 3 dX12_conflict_64 rfl ?_
  refine x_if_ne (tgt := 73) C dX12_conflict_66 (by decide) (fun z9 => ?_) (fun z9 => ?_)
  · have h1 := h1.1 z9
    refine x_iload C 4 dX12_conflict_73 rfl ?_
    refine x_if_ne (tgt := 82) C dX12_conflict_75 (by decide) (fun z9 => ?_) (fun z9 => ?_)
    · have h1 := h1.1 z9
      refine x_aload_n C 1 dX12_conflict_82 rfl rfl ?_
      obtain ⟨ht44, h1⟩ := h1
      refine x_getf_r (n := h) C rfl ht44 fd_178 (by decide) dX12_conflict_83 ?_
      refine x_iload C 0 dX12_conflict_86 rfl ?_
      obtain ⟨n45, hr46, h1⟩ := h1
      obtain ⟨z48, ht47, h1⟩ := h1
      obtain ⟨hi49, h1⟩ := h1
      refine x_iald (n := n45) C hr46 ht47 hi49 dX12_conflict_88 ?_
      refine x_iconst (v := (nI 2)) C dX12_conflict_89 (by decide) ?_
      refine x_icmp_ne (tgt := 97) C dX12_conflict_90 (by decide) (fun z9 => ?_) (fun z9 => ?_)
      · have h1 := h1.1 z9
        refine x_iconst (v := (0 : Int32)) C dX12_conflict_97 (by decide) ?_
        refine x_keep (L' := [(0, xm_r (some h)), (3, xm_i x3), (6, xm_i s0)]) C [1, 2, 0] rfl ?_
        exact kp_X12_conflict_98 h x3 s0 (0 : Int32) (some h) S C N hg  h1
      · have h1 := h1.2 z9
        refine x_iconst (v := (nI 3)) C dX12_conflict_93 (by decide) ?_
        refine x_goto (tgt := 98) C dX12_conflict_94 (by decide) ?_
        refine x_keep (L' := [(0, xm_r (some h)), (3, xm_i x3), (6, xm_i s0)]) C [1, 2, 0] rfl ?_
        exact kp_X12_conflict_98 h x3 s0 (nI 3) (some h) S C N hg  h1
    · have h1 := h1.2 z9
      refine x_iconst (v := (nI 2)) C dX12_conflict_78 (by decide) ?_
      refine x_goto (tgt := 98) C dX12_conflict_79 (by decide) ?_
      refine x_keep (L' := [(0, xm_r (some h)), (3, xm_i x3), (6, xm_i s0)]) C [1, 2, 0] rfl ?_
      exact kp_X12_conflict_98 h x3 s0 (nI 2) (some h) S C N hg  h1
  · have h1 := h1.2 z9
    refine x_iconst (v := (1 : Int32)) C dX12_conflict_69 (by decide) ?_
    refine x_goto (tgt := 98) C dX12_conflict_70 (by decide) ?_
    refine x_keep (L' := [(0, xm_r (some h)), (3, xm_i x3), (6, xm_i s0)]) C [1, 2, 0] rfl ?_
    exact kp_X12_conflict_98 h x3 s0 (1 : Int32) (some h) S C N hg  h1
def wp_X12_conflict_45 (h : Nat) (x1 : Int32) (x2 : Int32) (x3 : Int32) (x4 : Int32) (s0 : Int32) (S : xm_S) (g : Int32 → xm_S → Prop) : Prop :=
  (x4 = 0 → wp_X12_conflict_61 h x3 x4 s0 (0 : Int32) S g) ∧ (¬ x4 = 0 → wp_X12_conflict_61 h x3 x4 s0 (((nI 4) * x1) + x2) S g)
set_option maxRecDepth 100000 in
set_option maxHeartbeats 4000000 in
theorem kp_X12_conflict_45 {K : xm_K} (h : Nat) (x1 : Int32) (x2 : Int32) (x3 : Int32) (x4 : Int32) (s0 : Int32) (S : xm_S) {g : Int32 → xm_S → Prop} (C : xm_Cx K cX12_conflict RX12 7 (some (FieldType.int)) rm_X12_conflict) (N : xm_Nx K) (hg : ∀ v S, g v S → xm_q K (some (xm_i v)) S)  (h1 : wp_X12_conflict_45 h x1 x2 x3 x4 s0 S g) : xm_W K 0 0 45 [(0, xm_r (some h)), (1, xm_i x1), (2, xm_i x2), (3, xm_i x3), (4, xm_i x4)] [xm_i s0] S := by
  unfold wp_X12_conflict_45 at h1
  refine x_istore (L' := [(5, xm_i s0), (0, xm_r (some h)), (1, xm_i x1), (2, xm_i x2), (3, xm_i x3), (4, xm_i x4)]) C dX12_conflict_45 (by decide) rfl ?_
  refine x_iload C 5 dX12_conflict_47 rfl ?_
  refine x_if_eq (tgt := 60) C dX12_conflict_49 (by decide) (fun z9 => ?_) (fun z9 => ?_)
  · have h1 := h1.1 z9
    refine x_iconst (v := (0 : Int32)) C dX12_conflict_60 (by decide) ?_
    refine x_keep (L' := [(0, xm_r (some h)), (3, xm_i x3), (4, xm_i x4), (5, xm_i s0)]) C [1, 4, 5, 0] rfl ?_
    exact kp_X12_conflict_61 h x3 x4 s0 (0 : Int32) S C N hg  h1
  · have h1 := h1.2 z9
    refine x_iconst (v := (nI 4)) C dX12_conflict_52 (by decide) ?_
    refine x_iload_n C 2 dX12_conflict_53 rfl rfl ?_
    refine x_imul C dX12_conflict_54 ?_
    refine x_iload_n C 3 dX12_conflict_55 rfl rfl ?_
    refine x_iadd C dX12_conflict_56 ?_
    refine x_goto (tgt := 61) C dX12_conflict_57 (by decide) ?_
    refine x_keep (L' := [(0, xm_r (some h)), (3, xm_i x3), (4, xm_i x4), (5, xm_i s0)]) C [1, 4, 5, 0] rfl ?_
    exact kp_X12_conflict_61 h x3 x4 s0 (((nI 4) * x1) + x2) S C N hg  h1
def wp_X12_conflict_44 (h : Nat) (x1 : Int32) (x2 : Int32) (x3 : Int32) (x4 : Int32) (S : xm_S) (g : Int32 → xm_S → Prop) : Prop :=
  wp_X12_conflict_45 h x1 x2 x3 x4 (0 : Int32) S g
set_option maxRecDepth 100000 in
set_option maxHeartbeats 4000000 in
theorem kp_X12_conflict_44 {K : xm_K} (h : Nat) (x1 : Int32) (x2 : Int32) (x3 : Int32) (x4 : Int32) (S : xm_S) {g : Int32 → xm_S → Prop} (C : xm_Cx K cX12_conflict RX12 7 (some (FieldType.int)) rm_X12_conflict) (N : xm_Nx K) (hg : ∀ v S, g v S → xm_q K (some (xm_i v)) S)  (h1 : wp_X12_conflict_44 h x1 x2 x3 x4 S g) : xm_W K 0 0 44 [(0, xm_r (some h)), (1, xm_i x1), (2, xm_i x2), (3, xm_i x3), (4, xm_i x4)] [] S := by
  unfold wp_X12_conflict_44 at h1
  refine x_iconst (v := (0 : Int32)) C dX12_conflict_44 (by decide) ?_
  exact kp_X12_conflict_45 h x1 x2 x3 x4 (0 : Int32) S C N hg  h1
def wp_X12_conflict_21 (h : Nat) (x1 : Int32) (x2 : Int32) (x3 : Int32) (s0 : Int32) (S : xm_S) (g : Int32 → xm_S → Prop) : Prop :=
  (s0 = 0 → wp_X12_conflict_44 h x1 x2 x3 s0 S g) ∧ (¬ s0 = 0 → (x3 = x1 → wp_X12_conflict_44 h x1 x2 x3 s0 S g) ∧ (¬ x3 = x1 → st_t S h = some (12, 0) ∧ wp_X12_isTyped h S (fun r52 S51 => (r52 = 0 → wp_X12_conflict_44 h x1 x2 x3 s0 S51 g) ∧ (¬ r52 = 0 → wp_X12_conflict_45 h x1 x2 x3 s0 (1 : Int32) S51 g))))
set_option maxRecDepth 100000 in
set_option maxHeartbeats 4000000 in
theorem kp_X12_conflict_21 {K : xm_K} (h : Nat) (x1 : Int32) (x2 : Int32) (x3 : Int32) (s0 : Int32) (S : xm_S) {g : Int32 → xm_S → Prop} (C : xm_Cx K cX12_conflict RX12 7 (some (FieldType.int)) rm_X12_conflict) (N : xm_Nx K) (hg : ∀ v S, g v S → xm_q K (some (xm_i v)) S)  (h1 : wp_X12_conflict_21 h x1 x2 x3 s0 S g) : xm_W K 0 0 21 [(0, xm_r (some h)), (1, xm_i x1), (2, xm_i x2), (3, xm_i x3)] [xm_i s0] S := by
  unfold wp_X12_conflict_21 at h1
  refine x_istore (L' := [(4, xm_i s0), (0, xm_r (some h)), (1, xm_i x1), (2, xm_i x2), (3, xm_i x3)]) C dX12_conflict_21 (by decide) rfl ?_
  refine x_iload C 0 dX12_conflict_23 rfl ?_
  refine x_if_eq (tgt := 44) C dX12_conflict_25 (by decide) (fun z9 => ?_) (fun z9 => ?_)
  · have h1 := h1.1 z9
    refine x_keep (L' := [(0, xm_r (some h)), (1, xm_i x1), (2, xm_i x2), (3, xm_i x3), (4, xm_i s0)]) C [1, 2, 3, 4, 0] rfl ?_
    exact kp_X12_conflict_44 h x1 x2 x3 s0 S C N hg  h1
  · have h1 := h1.2 z9
    refine x_iload_n C 4 dX12_conflict_28 rfl rfl ?_
    refine x_iload_n C 2 dX12_conflict_29 rfl rfl ?_
    refine x_icmp_eq (tgt := 44) C dX12_conflict_30 (by decide) (fun z9 => ?_) (fun z9 => ?_)
    · have h1 := h1.1 z9
      refine x_keep (L' := [(0, xm_r (some h)), (1, xm_i x1), (2, xm_i x2), (3, xm_i x3), (4, xm_i s0)]) C [1, 2, 3, 4, 0] rfl ?_
      exact kp_X12_conflict_44 h x1 x2 x3 s0 S C N hg  h1
    · have h1 := h1.2 z9
      refine x_aload_n C 1 dX12_conflict_33 rfl rfl ?_
      obtain ⟨ht50, h1⟩ := h1
      refine x_callV (rm' := rm_X12_isTyped) (n := h) C (kp_X12_isTyped_met h1) lk_98 gw_586 gw_587 xv_12 rfl rfl ht50 rfl (Nat.le_of_ble_eq_true rfl) ⟨Nat.le_of_ble_eq_true rfl, Nat.le_of_ble_eq_true rfl, (Nat.le_of_ble_eq_true rfl), (Nat.le_of_ble_eq_true rfl)⟩ dX12_conflict_34 xm_kx (xm_ki (fun r52 S51 h1 => ?_))
      refine x_if_eq (tgt := 44) C dX12_conflict_37 (by decide) (fun z9 => ?_) (fun z9 => ?_)
      · have h1 := h1.1 z9
        refine x_keep (L' := [(0, xm_r (some h)), (1, xm_i x1), (2, xm_i x2), (3, xm_i x3), (4, xm_i s0)]) C [1, 2, 3, 4, 0] rfl ?_
        exact kp_X12_conflict_44 h x1 x2 x3 s0 S51 C N hg  h1
      · have h1 := h1.2 z9
        refine x_iconst (v := (1 : Int32)) C dX12_conflict_40 (by decide) ?_
        refine x_goto (tgt := 45) C dX12_conflict_41 (by decide) ?_
        refine x_keep (L' := [(0, xm_r (some h)), (1, xm_i x1), (2, xm_i x2), (3, xm_i x3), (4, xm_i s0)]) C [1, 2, 3, 4, 0] rfl ?_
        exact kp_X12_conflict_45 h x1 x2 x3 s0 (1 : Int32) S51 C N hg  h1
def wp_X12_conflict_20 (h : Nat) (x1 : Int32) (x2 : Int32) (x3 : Int32) (S : xm_S) (g : Int32 → xm_S → Prop) : Prop :=
  wp_X12_conflict_21 h x1 x2 x3 (0 : Int32) S g
set_option maxRecDepth 100000 in
set_option maxHeartbeats 4000000 in
theorem kp_X12_conflict_20 {K : xm_K} (h : Nat) (x1 : Int32) (x2 : Int32) (x3 : Int32) (S : xm_S) {g : Int32 → xm_S → Prop} (C : xm_Cx K cX12_conflict RX12 7 (some (FieldType.int)) rm_X12_conflict) (N : xm_Nx K) (hg : ∀ v S, g v S → xm_q K (some (xm_i v)) S)  (h1 : wp_X12_conflict_20 h x1 x2 x3 S g) : xm_W K 0 0 20 [(0, xm_r (some h)), (1, xm_i x1), (2, xm_i x2), (3, xm_i x3)] [] S := by
  unfold wp_X12_conflict_20 at h1
  refine x_iconst (v := (0 : Int32)) C dX12_conflict_20 (by decide) ?_
  exact kp_X12_conflict_21 h x1 x2 x3 (0 : Int32) S C N hg  h1
def wp_X12_conflict (h : Nat) (x1 : Int32) (x2 : Int32) (x3 : Int32) (S : xm_S) (g : Int32 → xm_S → Prop) : Prop :=
  st_t S h = some (12, 0) ∧ wp_X12_isVersion h x1 x2 S (fun r55 S54 => (r55 = 0 → wp_X12_conflict_20 h x1 x2 x3 S54 g) ∧ (¬ r55 = 0 → wp_X12_isPack x3 S54 (fun r57 S56 => (r57 = 0 → wp_X12_conflict_20 h x1 x2 x3 S56 g) ∧ (¬ r57 = 0 → wp_X12_conflict_21 h x1 x2 x3 (1 : Int32) S56 g))))
set_option maxRecDepth 100000 in
set_option maxHeartbeats 4000000 in
theorem kp_X12_conflict {K : xm_K} (h : Nat) (x1 : Int32) (x2 : Int32) (x3 : Int32) (S : xm_S) {g : Int32 → xm_S → Prop} (C : xm_Cx K cX12_conflict RX12 7 (some (FieldType.int)) rm_X12_conflict) (N : xm_Nx K) (hg : ∀ v S, g v S → xm_q K (some (xm_i v)) S)  (h1 : wp_X12_conflict h x1 x2 x3 S g) : xm_W K 0 0 0 [(0, xm_r (some h)), (1, xm_i x1), (2, xm_i x2), (3, xm_i x3)] [] S := by
  unfold wp_X12_conflict at h1
  refine x_aload_n C 0 dX12_conflict_0 rfl rfl ?_
  refine x_iload_n C 1 dX12_conflict_1 rfl rfl ?_
  refine x_iload_n C 2 dX12_conflict_2 rfl rfl ?_
  obtain ⟨ht53, h1⟩ := h1
  refine x_callV (rm' := rm_X12_isVersion) (n := h) C (kp_X12_isVersion_met h1) lk_119 gw_699 gw_700 xv_12 rfl rfl ht53 rfl (Nat.le_of_ble_eq_true rfl) ⟨Nat.le_of_ble_eq_true rfl, Nat.le_of_ble_eq_true rfl, (Nat.le_of_ble_eq_true rfl), (Nat.le_of_ble_eq_true rfl)⟩ dX12_conflict_3 xm_kx (xm_ki (fun r55 S54 h1 => ?_))
  refine x_if_eq (tgt := 20) C dX12_conflict_6 (by decide) (fun z9 => ?_) (fun z9 => ?_)
  · have h1 := h1.1 z9
    exact kp_X12_conflict_20 h x1 x2 x3 S54 C N hg  h1
  · have h1 := h1.2 z9
    refine x_iload_n C 3 dX12_conflict_9 rfl rfl ?_
    refine x_callS (rm' := rm_X12_isPack) C (kp_X12_isPack_met h1) lk_97 gw_583 rfl (Nat.le_of_ble_eq_true rfl) ⟨Nat.le_of_ble_eq_true rfl, Nat.le_of_ble_eq_true rfl, (Nat.le_of_ble_eq_true rfl), (Nat.le_of_ble_eq_true rfl)⟩ dX12_conflict_10 xm_kx (xm_ki (fun r57 S56 h1 => ?_))
    refine x_if_eq (tgt := 20) C dX12_conflict_13 (by decide) (fun z9 => ?_) (fun z9 => ?_)
    · have h1 := h1.1 z9
      exact kp_X12_conflict_20 h x1 x2 x3 S56 C N hg  h1
    · have h1 := h1.2 z9
      refine x_iconst (v := (1 : Int32)) C dX12_conflict_16 (by decide) ?_
      refine x_goto (tgt := 21) C dX12_conflict_17 (by decide) ?_
      exact kp_X12_conflict_21 h x1 x2 x3 (1 : Int32) S56 C N hg  h1
theorem kp_X12_conflict_met {h : Nat} {x1 : Int32} {x2 : Int32} {x3 : Int32} {S : xm_S} {g : Int32 → xm_S → Prop}  (h1 : wp_X12_conflict h x1 x2 x3 S g) : xm_Met yX12_conflict cX12_conflict 7 (some (FieldType.int)) rm_X12_conflict [xm_r (some h), xm_i x1, xm_i x2, xm_i x3] S (xm_qi g) xm_nox :=
  xm_ofW RX12 (by decide +kernel) rfl (Nat.le_of_ble_eq_true rfl) (fun K C N hq hx hi => kp_X12_conflict h x1 x2 x3 S C N (fun v S h => by rw [hq]; exact ⟨v, rfl, h⟩)  h1)
def rm_X12_divert : Room := { frames := 3, cells := 0, slots := 0, locals := 62 }
theorem dX12_divert_0 : decode cX12_divert 0 = .ok (.iload_n 2, 1) := by decide +kernel
theorem dX12_divert_1 : decode cX12_divert 1 = .ok (.iconst 0, 1) := by decide +kernel
theorem dX12_divert_2 : decode cX12_divert 2 = .ok (.bipush 15, 2) := by decide +kernel
theorem dX12_divert_4 : decode cX12_divert 4 = .ok (.invokestatic 172, 3) := by decide +kernel
theorem dX12_divert_7 : decode cX12_divert 7 = .ok (.ifCond .eq 22, 3) := by decide +kernel
theorem dX12_divert_10 : decode cX12_divert 10 = .ok (.iload_n 3, 1) := by decide +kernel
theorem dX12_divert_11 : decode cX12_divert 11 = .ok (.iconst 0, 1) := by decide +kernel
theorem dX12_divert_12 : decode cX12_divert 12 = .ok (.bipush 15, 2) := by decide +kernel
theorem dX12_divert_14 : decode cX12_divert 14 = .ok (.invokestatic 172, 3) := by decide +kernel
theorem dX12_divert_17 : decode cX12_divert 17 = .ok (.ifCond .eq 12, 3) := by decide +kernel
theorem dX12_divert_20 : decode cX12_divert 20 = .ok (.iload_n 2, 1) := by decide +kernel
theorem dX12_divert_21 : decode cX12_divert 21 = .ok (.iload_n 3, 1) := by decide +kernel
theorem dX12_divert_22 : decode cX12_divert 22 = .ok (.if_icmp .eq 7, 3) := by decide +kernel
theorem dX12_divert_25 : decode cX12_divert 25 = .ok (.iconst 1, 1) := by decide +kernel
theorem dX12_divert_26 : decode cX12_divert 26 = .ok (.goto 4, 3) := by decide +kernel
theorem dX12_divert_29 : decode cX12_divert 29 = .ok (.iconst 0, 1) := by decide +kernel
theorem dX12_divert_30 : decode cX12_divert 30 = .ok (.istore 4, 2) := by decide +kernel
theorem dX12_divert_32 : decode cX12_divert 32 = .ok (.aload_n 0, 1) := by decide +kernel
theorem dX12_divert_33 : decode cX12_divert 33 = .ok (.iload_n 1, 1) := by decide +kernel
theorem dX12_divert_34 : decode cX12_divert 34 = .ok (.iconst (-1), 1) := by decide +kernel
theorem dX12_divert_35 : decode cX12_divert 35 = .ok (.if_icmp .eq 14, 3) := by decide +kernel
theorem dX12_divert_38 : decode cX12_divert 38 = .ok (.iload_n 1, 1) := by decide +kernel
theorem dX12_divert_39 : decode cX12_divert 39 = .ok (.invokestatic 176, 3) := by decide +kernel
theorem dX12_divert_42 : decode cX12_divert 42 = .ok (.ifCond .ne 7, 3) := by decide +kernel
theorem dX12_divert_45 : decode cX12_divert 45 = .ok (.iconst 1, 1) := by decide +kernel
theorem dX12_divert_46 : decode cX12_divert 46 = .ok (.goto 13, 3) := by decide +kernel
theorem dX12_divert_49 : decode cX12_divert 49 = .ok (.iload 4, 2) := by decide +kernel
theorem dX12_divert_51 : decode cX12_divert 51 = .ok (.ifCond .eq 7, 3) := by decide +kernel
theorem dX12_divert_54 : decode cX12_divert 54 = .ok (.iconst 0, 1) := by decide +kernel
theorem dX12_divert_55 : decode cX12_divert 55 = .ok (.goto 4, 3) := by decide +kernel
theorem dX12_divert_58 : decode cX12_divert 58 = .ok (.iconst 2, 1) := by decide +kernel
theorem dX12_divert_59 : decode cX12_divert 59 = .ok (.invokevirtual 182, 3) := by decide +kernel
theorem dX12_divert_62 : decode cX12_divert 62 = .ok (.ifCond .ne 5, 3) := by decide +kernel
theorem dX12_divert_65 : decode cX12_divert 65 = .ok (.iconst 0, 1) := by decide +kernel
theorem dX12_divert_66 : decode cX12_divert 66 = .ok (.ireturn, 1) := by decide +kernel
theorem dX12_divert_67 : decode cX12_divert 67 = .ok (.aload_n 0, 1) := by decide +kernel
theorem dX12_divert_68 : decode cX12_divert 68 = .ok (.getfield 142, 3) := by decide +kernel
theorem dX12_divert_71 : decode cX12_divert 71 = .ok (.iload_n 2, 1) := by decide +kernel
theorem dX12_divert_72 : decode cX12_divert 72 = .ok (.iload_n 1, 1) := by decide +kernel
theorem dX12_divert_73 : decode cX12_divert 73 = .ok (.iastore, 1) := by decide +kernel
theorem dX12_divert_74 : decode cX12_divert 74 = .ok (.aload_n 0, 1) := by decide +kernel
theorem dX12_divert_75 : decode cX12_divert 75 = .ok (.getfield 145, 3) := by decide +kernel
theorem dX12_divert_78 : decode cX12_divert 78 = .ok (.iload_n 2, 1) := by decide +kernel
theorem dX12_divert_79 : decode cX12_divert 79 = .ok (.iload_n 3, 1) := by decide +kernel
theorem dX12_divert_80 : decode cX12_divert 80 = .ok (.iastore, 1) := by decide +kernel
theorem dX12_divert_81 : decode cX12_divert 81 = .ok (.iconst 0, 1) := by decide +kernel
theorem dX12_divert_82 : decode cX12_divert 82 = .ok (.istore 5, 2) := by decide +kernel
theorem dX12_divert_84 : decode cX12_divert 84 = .ok (.iconst 0, 1) := by decide +kernel
theorem dX12_divert_85 : decode cX12_divert 85 = .ok (.istore 6, 2) := by decide +kernel
theorem dX12_divert_87 : decode cX12_divert 87 = .ok (.iload 6, 2) := by decide +kernel
theorem dX12_divert_89 : decode cX12_divert 89 = .ok (.bipush 16, 2) := by decide +kernel
theorem dX12_divert_91 : decode cX12_divert 91 = .ok (.if_icmp .ge 30, 3) := by decide +kernel
theorem dX12_divert_94 : decode cX12_divert 94 = .ok (.iload 5, 2) := by decide +kernel
theorem dX12_divert_96 : decode cX12_divert 96 = .ok (.aload_n 0, 1) := by decide +kernel
theorem dX12_divert_97 : decode cX12_divert 97 = .ok (.getfield 142, 3) := by decide +kernel
theorem dX12_divert_100 : decode cX12_divert 100 = .ok (.iload 6, 2) := by decide +kernel
theorem dX12_divert_102 : decode cX12_divert 102 = .ok (.iaload, 1) := by decide +kernel
theorem dX12_divert_103 : decode cX12_divert 103 = .ok (.iconst (-1), 1) := by decide +kernel
theorem dX12_divert_104 : decode cX12_divert 104 = .ok (.if_icmp .ne 7, 3) := by decide +kernel
theorem dX12_divert_107 : decode cX12_divert 107 = .ok (.iconst 0, 1) := by decide +kernel
theorem dX12_divert_108 : decode cX12_divert 108 = .ok (.goto 4, 3) := by decide +kernel
theorem dX12_divert_111 : decode cX12_divert 111 = .ok (.iconst 1, 1) := by decide +kernel
theorem dX12_divert_112 : decode cX12_divert 112 = .ok (.iadd, 1) := by decide +kernel
theorem dX12_divert_113 : decode cX12_divert 113 = .ok (.istore 5, 2) := by decide +kernel
theorem dX12_divert_115 : decode cX12_divert 115 = .ok (.iinc 6 1, 3) := by decide +kernel
theorem dX12_divert_118 : decode cX12_divert 118 = .ok (.goto (-31), 3) := by decide +kernel
theorem dX12_divert_121 : decode cX12_divert 121 = .ok (.iload 5, 2) := by decide +kernel
theorem dX12_divert_123 : decode cX12_divert 123 = .ok (.ireturn, 1) := by decide +kernel
def wp_X12_divert_112 (h : Nat) (x6 : Int32) (s0 : Int32) (s1 : Int32) (S : xm_S) (g : Int32 → xm_S → Prop) (Z87 : Int32 → Int32 → xm_S → Prop) : Prop :=
  ∀ y1, y1 = (s1 + s0) → ∀ y3, y3 = (x6 + (1 : Int32)) → Z87 y1 y3 S
set_option maxRecDepth 100000 in
set_option maxHeartbeats 4000000 in
theorem kp_X12_divert_112 {K : xm_K} (h : Nat) (x6 : Int32) (s0 : Int32) (s1 : Int32) (S : xm_S) {g : Int32 → xm_S → Prop} {Z87 : Int32 → Int32 → xm_S → Prop} (C : xm_Cx K cX12_divert RX12 7 (some (FieldType.int)) rm_X12_divert) (N : xm_Nx K) (hg : ∀ v S, g v S → xm_q K (some (xm_i v)) S) (hZ87 : ∀ x5 x6 S, Z87 x5 x6 S → xm_W K 0 0 87 [(0, xm_r (some h)), (5, xm_i x5), (6, xm_i x6)] [] S) (h1 : wp_X12_divert_112 h x6 s0 s1 S g Z87) : xm_W K 0 0 112 [(0, xm_r (some h)), (6, xm_i x6)] [xm_i s0, xm_i s1] S := by
  unfold wp_X12_divert_112 at h1
  refine x_iadd C dX12_divert_112 ?_
  refine x_topi (fun y1 e2 => ?_)
  have h1 := h1 y1 e2
  refine x_istore (L' := [(5, xm_i y1), (0, xm_r (some h)), (6, xm_i x6)]) C dX12_divert_113 (by decide) rfl ?_
  obtain ⟨y3, e4⟩ : ∃ y3, y3 = (x6 + (1 : Int32)) := ⟨_, rfl⟩
  have h1 := h1 y3 e4
  refine x_iinc (v := y3) (L' := [(6, xm_i y3), (5, xm_i y1), (0, xm_r (some h))]) C 2 dX12_divert_115 rfl (by rw [e4]; rfl) (by decide) rfl ?_
  refine x_goto (tgt := 87) C dX12_divert_118 (by decide) ?_
  refine x_keep (L' := [(0, xm_r (some h)), (5, xm_i y1), (6, xm_i y3)]) C [2, 1, 0] rfl ?_
  exact hZ87 y1 y3 S h1
def wp_X12_divert_87B (h : Nat) (x5 : Int32) (x6 : Int32) (S : xm_S) (g : Int32 → xm_S → Prop) (Z87 : Int32 → Int32 → xm_S → Prop) : Prop :=
  ((nI 16) ≤ x6 → g x5 S) ∧ (¬ (nI 16) ≤ x6 → st_t S h = some (12, 0) ∧ ∃ n6, (st_r S h 48) = some n6 ∧ ∃ z9, st_t S n6 = some (100, z9) ∧ vp_in x6 z9 ∧ (¬ (st_i S n6 (x6).toNatClampNeg) = (-1 : Int32) → wp_X12_divert_112 h x6 (1 : Int32) x5 S g Z87) ∧ ((st_i S n6 (x6).toNatClampNeg) = (-1 : Int32) → wp_X12_divert_112 h x6 (0 : Int32) x5 S g Z87))
def wp_X12_divert_87 (h : Nat) (x5 : Int32) (x6 : Int32) (S : xm_S) (g : Int32 → xm_S → Prop) : Prop :=
  ∀ Z87 : Int32 → Int32 → xm_S → Prop, (∀ x5 x6 S, wp_X12_divert_87B h x5 x6 S g Z87 → Z87 x5 x6 S) → Z87 x5 x6 S
set_option maxRecDepth 100000 in
set_option maxHeartbeats 4000000 in
theorem kp_X12_divert_87B {K : xm_K} (h : Nat) (x5 : Int32) (x6 : Int32) (S : xm_S) {g : Int32 → xm_S → Prop} {Z87 : Int32 → Int32 → xm_S → Prop} (C : xm_Cx K cX12_divert RX12 7 (some (FieldType.int)) rm_X12_divert) (N : xm_Nx K) (hg : ∀ v S, g v S → xm_q K (some (xm_i v)) S) (hZ87 : ∀ x5 x6 S, Z87 x5 x6 S → xm_W K 0 0 87 [(0, xm_r (some h)), (5, xm_i x5), (6, xm_i x6)] [] S) (h1 : wp_X12_divert_87B h x5 x6 S g Z87) : xm_W K 0 0 87 [(0, xm_r (some h)), (5, xm_i x5), (6, xm_i x6)] [] S := by
  unfold wp_X12_divert_87B at h1
  refine x_iload C 2 dX12_divert_87 rfl ?_
  refine x_bipush (v := (nI 16)) C dX12_divert_89 (by decide) ?_
  refine x_icmp_ge (tgt := 121) C dX12_divert_91 (by decide) (fun z9 => ?_) (fun z9 => ?_)
  · have h1 := h1.1 z9
    refine x_iload C 1 dX12_divert_121 rfl ?_
    exact x_iret C (Nat.le_of_ble_eq_true rfl) (Nat.le_of_ble_eq_true rfl) rfl dX12_divert_123 (hg _ _ h1)
  · have h1 := h1.2 z9
    refine x_iload C 1 dX12_divert_94 rfl ?_
    refine x_aload_n C 0 dX12_divert_96 rfl rfl ?_
    obtain ⟨ht5, h1⟩ := h1
    refine x_getf_r (n := h) C rfl ht5 fd_201 (by decide) dX12_divert_97 ?_
    refine x_iload C 2 dX12_divert_100 rfl ?_
    obtain ⟨n6, hr7, h1⟩ := h1
    obtain ⟨z9, ht8, h1⟩ := h1
    obtain ⟨hi10, h1⟩ := h1
    refine x_iald (n := n6) C hr7 ht8 hi10 dX12_divert_102 ?_
    refine x_iconst (v := (-1 : Int32)) C dX12_divert_103 (by decide) ?_
    refine x_icmp_ne (tgt := 111) C dX12_divert_104 (by decide) (fun z9 => ?_) (fun z9 => ?_)
    · have h1 := h1.1 z9
      refine x_iconst (v := (1 : Int32)) C dX12_divert_111 (by decide) ?_
      refine x_keep (L' := [(0, xm_r (some h)), (6, xm_i x6)]) C [0, 2] rfl ?_
      exact kp_X12_divert_112 h x6 (1 : Int32) x5 S C N hg hZ87 h1
    · have h1 := h1.2 z9
      refine x_iconst (v := (0 : Int32)) C dX12_divert_107 (by decide) ?_
      refine x_goto (tgt := 112) C dX12_divert_108 (by decide) ?_
      refine x_keep (L' := [(0, xm_r (some h)), (6, xm_i x6)]) C [0, 2] rfl ?_
      exact kp_X12_divert_112 h x6 (0 : Int32) x5 S C N hg hZ87 h1
theorem kp_X12_divert_87 {K : xm_K} (h : Nat) (x5 : Int32) (x6 : Int32) (S : xm_S) {g : Int32 → xm_S → Prop} (C : xm_Cx K cX12_divert RX12 7 (some (FieldType.int)) rm_X12_divert) (N : xm_Nx K) (hg : ∀ v S, g v S → xm_q K (some (xm_i v)) S)  (h1 : wp_X12_divert_87 h x5 x6 S g) : xm_W K 0 0 87 [(0, xm_r (some h)), (5, xm_i x5), (6, xm_i x6)] [] S :=
  h1 (fun x5 x6 S => xm_W K 0 0 87 [(0, xm_r (some h)), (5, xm_i x5), (6, xm_i x6)] [] S) (fun x5 x6 S hb => kp_X12_divert_87B h x5 x6 S C N hg (fun x5 x6 S hz => hz) hb)
def wp_X12_divert_59 (h : Nat) (x1 : Int32) (x2 : Int32) (x3 : Int32) (s0 : Int32) (s1 : Option Nat) (S : xm_S) (g : Int32 → xm_S → Prop) : Prop :=
  ∃ n11, s1 = some n11 ∧ st_t S n11 = some (12, 0) ∧ wp_X12_may n11 s0 S (fun r15 S14 => (¬ r15 = 0 → st_t S14 h = some (12, 0) ∧ ∃ n17, (st_r S14 h 48) = some n17 ∧ ∃ z20, st_t S14 n17 = some (100, z20) ∧ vp_in x2 z20 ∧ ∀ S22, S22 = st_pi S14 n17 (x2).toNatClampNeg x1 → ∃ n24, (st_r S22 h 49) = some n24 ∧ ∃ z27, st_t S22 n24 = some (100, z27) ∧ vp_in x2 z27 ∧ ∀ S29, S29 = st_pi S22 n24 (x2).toNatClampNeg x3 → wp_X12_divert_87 h (0 : Int32) (0 : Int32) S29 g) ∧ (r15 = 0 → g (0 : Int32) S14))
set_option maxRecDepth 100000 in
set_option maxHeartbeats 4000000 in
theorem kp_X12_divert_59 {K : xm_K} (h : Nat) (x1 : Int32) (x2 : Int32) (x3 : Int32) (s0 : Int32) (s1 : Option Nat) (S : xm_S) {g : Int32 → xm_S → Prop} (C : xm_Cx K cX12_divert RX12 7 (some (FieldType.int)) rm_X12_divert) (N : xm_Nx K) (hg : ∀ v S, g v S → xm_q K (some (xm_i v)) S)  (h1 : wp_X12_divert_59 h x1 x2 x3 s0 s1 S g) : xm_W K 0 0 59 [(0, xm_r (some h)), (1, xm_i x1), (2, xm_i x2), (3, xm_i x3)] [xm_i s0, xm_r s1] S := by
  unfold wp_X12_divert_59 at h1
  obtain ⟨n11, hr12, h1⟩ := h1
  obtain ⟨ht13, h1⟩ := h1
  refine x_callV (rm' := rm_X12_may) (n := n11) C (kp_X12_may_met h1) lk_95 gw_572 gw_573 xv_12 rfl hr12 ht13 rfl (Nat.le_of_ble_eq_true rfl) ⟨Nat.le_of_ble_eq_true rfl, Nat.le_of_ble_eq_true rfl, (Nat.le_of_ble_eq_true rfl), (Nat.le_of_ble_eq_true rfl)⟩ dX12_divert_59 xm_kx (xm_ki (fun r15 S14 h1 => ?_))
  refine x_if_ne (tgt := 67) C dX12_divert_62 (by decide) (fun z9 => ?_) (fun z9 => ?_)
  · have h1 := h1.1 z9
    refine x_aload_n C 0 dX12_divert_67 rfl rfl ?_
    obtain ⟨ht16, h1⟩ := h1
    refine x_getf_r (n := h) C rfl ht16 fd_201 (by decide) dX12_divert_68 ?_
    refine x_iload_n C 2 dX12_divert_71 rfl rfl ?_
    refine x_iload_n C 1 dX12_divert_72 rfl rfl ?_
    obtain ⟨n17, hr18, h1⟩ := h1
    obtain ⟨z20, ht19, h1⟩ := h1
    obtain ⟨hi21, h1⟩ := h1
    refine x_iast (n := n17) C hr18 ht19 hi21 dX12_divert_73 ?_
    refine x_topS (fun S22 e23 => ?_)
    have h1 := h1 S22 e23
    refine x_aload_n C 0 dX12_divert_74 rfl rfl ?_
    refine x_getf_r (n := h) C rfl (tk_p e23 ht16) fd_202 (by decide) dX12_divert_75 ?_
    refine x_iload_n C 2 dX12_divert_78 rfl rfl ?_
    refine x_iload_n C 3 dX12_divert_79 rfl rfl ?_
    obtain ⟨n24, hr25, h1⟩ := h1
    obtain ⟨z27, ht26, h1⟩ := h1
    obtain ⟨hi28, h1⟩ := h1
    refine x_iast (n := n24) C hr25 ht26 hi28 dX12_divert_80 ?_
    refine x_topS (fun S29 e30 => ?_)
    have h1 := h1 S29 e30
    refine x_iconst (v := (0 : Int32)) C dX12_divert_81 (by decide) ?_
    refine x_istore (L' := [(5, xm_i (0 : Int32)), (0, xm_r (some h)), (1, xm_i x1), (2, xm_i x2), (3, xm_i x3)]) C dX12_divert_82 (by decide) rfl ?_
    refine x_iconst (v := (0 : Int32)) C dX12_divert_84 (by decide) ?_
    refine x_istore (L' := [(6, xm_i (0 : Int32)), (5, xm_i (0 : Int32)), (0, xm_r (some h)), (1, xm_i x1), (2, xm_i x2), (3, xm_i x3)]) C dX12_divert_85 (by decide) rfl ?_
    refine x_keep (L' := [(0, xm_r (some h)), (5, xm_i (0 : Int32)), (6, xm_i (0 : Int32))]) C [2, 1, 0] rfl ?_
    exact kp_X12_divert_87 h (0 : Int32) (0 : Int32) S29 C N hg  h1
  · have h1 := h1.2 z9
    refine x_iconst (v := (0 : Int32)) C dX12_divert_65 (by decide) ?_
    exact x_iret C (Nat.le_of_ble_eq_true rfl) (Nat.le_of_ble_eq_true rfl) rfl dX12_divert_66 (hg _ _ h1)
def wp_X12_divert_49 (h : Nat) (x1 : Int32) (x2 : Int32) (x3 : Int32) (x4 : Int32) (s0 : Option Nat) (S : xm_S) (g : Int32 → xm_S → Prop) : Prop :=
  (x4 = 0 → wp_X12_divert_59 h x1 x2 x3 (nI 2) s0 S g) ∧ (¬ x4 = 0 → wp_X12_divert_59 h x1 x2 x3 (0 : Int32) s0 S g)
set_option maxRecDepth 100000 in
set_option maxHeartbeats 4000000 in
theorem kp_X12_divert_49 {K : xm_K} (h : Nat) (x1 : Int32) (x2 : Int32) (x3 : Int32) (x4 : Int32) (s0 : Option Nat) (S : xm_S) {g : Int32 → xm_S → Prop} (C : xm_Cx K cX12_divert RX12 7 (some (FieldType.int)) rm_X12_divert) (N : xm_Nx K) (hg : ∀ v S, g v S → xm_q K (some (xm_i v)) S)  (h1 : wp_X12_divert_49 h x1 x2 x3 x4 s0 S g) : xm_W K 0 0 49 [(0, xm_r (some h)), (1, xm_i x1), (2, xm_i x2), (3, xm_i x3), (4, xm_i x4)] [xm_r s0] S := by
  unfold wp_X12_divert_49 at h1
  refine x_iload C 4 dX12_divert_49 rfl ?_
  refine x_if_eq (tgt := 58) C dX12_divert_51 (by decide) (fun z9 => ?_) (fun z9 => ?_)
  · have h1 := h1.1 z9
    refine x_iconst (v := (nI 2)) C dX12_divert_58 (by decide) ?_
    refine x_keep (L' := [(0, xm_r (some h)), (1, xm_i x1), (2, xm_i x2), (3, xm_i x3)]) C [0, 1, 2, 3] rfl ?_
    exact kp_X12_divert_59 h x1 x2 x3 (nI 2) s0 S C N hg  h1
  · have h1 := h1.2 z9
    refine x_iconst (v := (0 : Int32)) C dX12_divert_54 (by decide) ?_
    refine x_goto (tgt := 59) C dX12_divert_55 (by decide) ?_
    refine x_keep (L' := [(0, xm_r (some h)), (1, xm_i x1), (2, xm_i x2), (3, xm_i x3)]) C [0, 1, 2, 3] rfl ?_
    exact kp_X12_divert_59 h x1 x2 x3 (0 : Int32) s0 S C N hg  h1
def wp_X12_divert_30 (h : Nat) (x1 : Int32) (x2 : Int32) (x3 : Int32) (s0 : Int32) (S : xm_S) (g : Int32 → xm_S → Prop) : Prop :=
  (x1 = (-1 : Int32) → wp_X12_divert_49 h x1 x2 x3 s0 (some h) S g) ∧ (¬ x1 = (-1 : Int32) → wp_X12_isPack x1 S (fun r32 S31 => (¬ r32 = 0 → wp_X12_divert_49 h x1 x2 x3 s0 (some h) S31 g) ∧ (r32 = 0 → wp_X12_divert_59 h x1 x2 x3 (1 : Int32) (some h) S31 g)))
set_option maxRecDepth 100000 in
set_option maxHeartbeats 4000000 in
theorem kp_X12_divert_30 {K : xm_K} (h : Nat) (x1 : Int32) (x2 : Int32) (x3 : Int32) (s0 : Int32) (S : xm_S) {g : Int32 → xm_S → Prop} (C : xm_Cx K cX12_divert RX12 7 (some (FieldType.int)) rm_X12_divert) (N : xm_Nx K) (hg : ∀ v S, g v S → xm_q K (some (xm_i v)) S)  (h1 : wp_X12_divert_30 h x1 x2 x3 s0 S g) : xm_W K 0 0 30 [(0, xm_r (some h)), (1, xm_i x1), (2, xm_i x2), (3, xm_i x3)] [xm_i s0] S := by
  unfold wp_X12_divert_30 at h1
  refine x_istore (L' := [(4, xm_i s0), (0, xm_r (some h)), (1, xm_i x1), (2, xm_i x2), (3, xm_i x3)]) C dX12_divert_30 (by decide) rfl ?_
  refine x_aload_n C 1 dX12_divert_32 rfl rfl ?_
  refine x_iload_n C 2 dX12_divert_33 rfl rfl ?_
  refine x_iconst (v := (-1 : Int32)) C dX12_divert_34 (by decide) ?_
  refine x_icmp_eq (tgt := 49) C dX12_divert_35 (by decide) (fun z9 => ?_) (fun z9 => ?_)
  · have h1 := h1.1 z9
    refine x_keep (L' := [(0, xm_r (some h)), (1, xm_i x1), (2, xm_i x2), (3, xm_i x3), (4, xm_i s0)]) C [1, 2, 3, 4, 0] rfl ?_
    exact kp_X12_divert_49 h x1 x2 x3 s0 (some h) S C N hg  h1
  · have h1 := h1.2 z9
    refine x_iload_n C 2 dX12_divert_38 rfl rfl ?_
    refine x_callS (rm' := rm_X12_isPack) C (kp_X12_isPack_met h1) lk_97 gw_583 rfl (Nat.le_of_ble_eq_true rfl) ⟨Nat.le_of_ble_eq_true rfl, Nat.le_of_ble_eq_true rfl, (Nat.le_of_ble_eq_true rfl), (Nat.le_of_ble_eq_true rfl)⟩ dX12_divert_39 xm_kx (xm_ki (fun r32 S31 h1 => ?_))
    refine x_if_ne (tgt := 49) C dX12_divert_42 (by decide) (fun z9 => ?_) (fun z9 => ?_)
    · have h1 := h1.1 z9
      refine x_keep (L' := [(0, xm_r (some h)), (1, xm_i x1), (2, xm_i x2), (3, xm_i x3), (4, xm_i s0)]) C [1, 2, 3, 4, 0] rfl ?_
      exact kp_X12_divert_49 h x1 x2 x3 s0 (some h) S31 C N hg  h1
    · have h1 := h1.2 z9
      refine x_iconst (v := (1 : Int32)) C dX12_divert_45 (by decide) ?_
      refine x_goto (tgt := 59) C dX12_divert_46 (by decide) ?_
      refine x_keep (L' := [(0, xm_r (some h)), (1, xm_i x1), (2, xm_i x2), (3, xm_i x3)]) C [1, 2, 3, 4] rfl ?_
      exact kp_X12_divert_59 h x1 x2 x3 (1 : Int32) (some h) S31 C N hg  h1
def wp_X12_divert_29 (h : Nat) (x1 : Int32) (x2 : Int32) (x3 : Int32) (S : xm_S) (g : Int32 → xm_S → Prop) : Prop :=
  wp_X12_divert_30 h x1 x2 x3 (0 : Int32) S g
set_option maxRecDepth 100000 in
set_option maxHeartbeats 4000000 in
theorem kp_X12_divert_29 {K : xm_K} (h : Nat) (x1 : Int32) (x2 : Int32) (x3 : Int32) (S : xm_S) {g : Int32 → xm_S → Prop} (C : xm_Cx K cX12_divert RX12 7 (some (FieldType.int)) rm_X12_divert) (N : xm_Nx K) (hg : ∀ v S, g v S → xm_q K (some (xm_i v)) S)  (h1 : wp_X12_divert_29 h x1 x2 x3 S g) : xm_W K 0 0 29 [(0, xm_r (some h)), (1, xm_i x1), (2, xm_i x2), (3, xm_i x3)] [] S := by
  unfold wp_X12_divert_29 at h1
  refine x_iconst (v := (0 : Int32)) C dX12_divert_29 (by decide) ?_
  exact kp_X12_divert_30 h x1 x2 x3 (0 : Int32) S C N hg  h1
def wp_X12_divert (h : Nat) (x1 : Int32) (x2 : Int32) (x3 : Int32) (S : xm_S) (g : Int32 → xm_S → Prop) : Prop :=
  wp_X12_in x2 (0 : Int32) (nI 15) S (fun r34 S33 => (r34 = 0 → wp_X12_divert_29 h x1 x2 x3 S33 g) ∧ (¬ r34 = 0 → wp_X12_in x3 (0 : Int32) (nI 15) S33 (fun r36 S35 => (r36 = 0 → wp_X12_divert_29 h x1 x2 x3 S35 g) ∧ (¬ r36 = 0 → (x2 = x3 → wp_X12_divert_29 h x1 x2 x3 S35 g) ∧ (¬ x2 = x3 → wp_X12_divert_30 h x1 x2 x3 (1 : Int32) S35 g)))))
set_option maxRecDepth 100000 in
set_option maxHeartbeats 4000000 in
theorem kp_X12_divert {K : xm_K} (h : Nat) (x1 : Int32) (x2 : Int32) (x3 : Int32) (S : xm_S) {g : Int32 → xm_S → Prop} (C : xm_Cx K cX12_divert RX12 7 (some (FieldType.int)) rm_X12_divert) (N : xm_Nx K) (hg : ∀ v S, g v S → xm_q K (some (xm_i v)) S)  (h1 : wp_X12_divert h x1 x2 x3 S g) : xm_W K 0 0 0 [(0, xm_r (some h)), (1, xm_i x1), (2, xm_i x2), (3, xm_i x3)] [] S := by
  unfold wp_X12_divert at h1
  refine x_iload_n C 2 dX12_divert_0 rfl rfl ?_
  refine x_iconst (v := (0 : Int32)) C dX12_divert_1 (by decide) ?_
  refine x_bipush (v := (nI 15)) C dX12_divert_2 (by decide) ?_
  refine x_callS (rm' := rm_X12_in) C (kp_X12_in_met h1) lk_87 gw_533 rfl (Nat.le_of_ble_eq_true rfl) ⟨Nat.le_of_ble_eq_true rfl, Nat.le_of_ble_eq_true rfl, (Nat.le_of_ble_eq_true rfl), (Nat.le_of_ble_eq_true rfl)⟩ dX12_divert_4 xm_kx (xm_ki (fun r34 S33 h1 => ?_))
  refine x_if_eq (tgt := 29) C dX12_divert_7 (by decide) (fun z9 => ?_) (fun z9 => ?_)
  · have h1 := h1.1 z9
    exact kp_X12_divert_29 h x1 x2 x3 S33 C N hg  h1
  · have h1 := h1.2 z9
    refine x_iload_n C 3 dX12_divert_10 rfl rfl ?_
    refine x_iconst (v := (0 : Int32)) C dX12_divert_11 (by decide) ?_
    refine x_bipush (v := (nI 15)) C dX12_divert_12 (by decide) ?_
    refine x_callS (rm' := rm_X12_in) C (kp_X12_in_met h1) lk_87 gw_533 rfl (Nat.le_of_ble_eq_true rfl) ⟨Nat.le_of_ble_eq_true rfl, Nat.le_of_ble_eq_true rfl, (Nat.le_of_ble_eq_true rfl), (Nat.le_of_ble_eq_true rfl)⟩ dX12_divert_14 xm_kx (xm_ki (fun r36 S35 h1 => ?_))
    refine x_if_eq (tgt := 29) C dX12_divert_17 (by decide) (fun z9 => ?_) (fun z9 => ?_)
    · have h1 := h1.1 z9
      exact kp_X12_divert_29 h x1 x2 x3 S35 C N hg  h1
    · have h1 := h1.2 z9
      refine x_iload_n C 2 dX12_divert_20 rfl rfl ?_
      refine x_iload_n C 3 dX12_divert_21 rfl rfl ?_
      refine x_icmp_eq (tgt := 29) C dX12_divert_22 (by decide) (fun z9 => ?_) (fun z9 => ?_)
      · have h1 := h1.1 z9
        exact kp_X12_divert_29 h x1 x2 x3 S35 C N hg  h1
      · have h1 := h1.2 z9
        refine x_iconst (v := (1 : Int32)) C dX12_divert_25 (by decide) ?_
        refine x_goto (tgt := 30) C dX12_divert_26 (by decide) ?_
        exact kp_X12_divert_30 h x1 x2 x3 (1 : Int32) S35 C N hg  h1
theorem kp_X12_divert_met {h : Nat} {x1 : Int32} {x2 : Int32} {x3 : Int32} {S : xm_S} {g : Int32 → xm_S → Prop}  (h1 : wp_X12_divert h x1 x2 x3 S g) : xm_Met yX12_divert cX12_divert 7 (some (FieldType.int)) rm_X12_divert [xm_r (some h), xm_i x1, xm_i x2, xm_i x3] S (xm_qi g) xm_nox :=
  xm_ofW RX12 (by decide +kernel) rfl (Nat.le_of_ble_eq_true rfl) (fun K C N hq hx hi => kp_X12_divert h x1 x2 x3 S C N (fun v S h => by rw [hq]; exact ⟨v, rfl, h⟩)  h1)
def rm_X12_edit : Room := { frames := 2, cells := 0, slots := 0, locals := 42 }
theorem dX12_edit_0 : decode cX12_edit 0 = .ok (.iload_n 1, 1) := by decide +kernel
theorem dX12_edit_1 : decode cX12_edit 1 = .ok (.iconst 0, 1) := by decide +kernel
theorem dX12_edit_2 : decode cX12_edit 2 = .ok (.bipush 15, 2) := by decide +kernel
theorem dX12_edit_4 : decode cX12_edit 4 = .ok (.invokestatic 172, 3) := by decide +kernel
theorem dX12_edit_7 : decode cX12_edit 7 = .ok (.ifCond .eq 18, 3) := by decide +kernel
theorem dX12_edit_10 : decode cX12_edit 10 = .ok (.iload_n 2, 1) := by decide +kernel
theorem dX12_edit_11 : decode cX12_edit 11 = .ok (.iconst 0, 1) := by decide +kernel
theorem dX12_edit_12 : decode cX12_edit 12 = .ok (.sipush 999, 3) := by decide +kernel
theorem dX12_edit_15 : decode cX12_edit 15 = .ok (.invokestatic 172, 3) := by decide +kernel
theorem dX12_edit_18 : decode cX12_edit 18 = .ok (.ifCond .eq 7, 3) := by decide +kernel
theorem dX12_edit_21 : decode cX12_edit 21 = .ok (.iconst 1, 1) := by decide +kernel
theorem dX12_edit_22 : decode cX12_edit 22 = .ok (.goto 4, 3) := by decide +kernel
theorem dX12_edit_25 : decode cX12_edit 25 = .ok (.iconst 0, 1) := by decide +kernel
theorem dX12_edit_26 : decode cX12_edit 26 = .ok (.istore_n 3, 1) := by decide +kernel
theorem dX12_edit_27 : decode cX12_edit 27 = .ok (.aload_n 0, 1) := by decide +kernel
theorem dX12_edit_28 : decode cX12_edit 28 = .ok (.iload_n 3, 1) := by decide +kernel
theorem dX12_edit_29 : decode cX12_edit 29 = .ok (.ifCond .ne 7, 3) := by decide +kernel
theorem dX12_edit_32 : decode cX12_edit 32 = .ok (.iconst 1, 1) := by decide +kernel
theorem dX12_edit_33 : decode cX12_edit 33 = .ok (.goto 21, 3) := by decide +kernel
theorem dX12_edit_36 : decode cX12_edit 36 = .ok (.aload_n 0, 1) := by decide +kernel
theorem dX12_edit_37 : decode cX12_edit 37 = .ok (.getfield 148, 3) := by decide +kernel
theorem dX12_edit_40 : decode cX12_edit 40 = .ok (.bipush 6, 2) := by decide +kernel
theorem dX12_edit_42 : decode cX12_edit 42 = .ok (.iload_n 1, 1) := by decide +kernel
theorem dX12_edit_43 : decode cX12_edit 43 = .ok (.iadd, 1) := by decide +kernel
theorem dX12_edit_44 : decode cX12_edit 44 = .ok (.iaload, 1) := by decide +kernel
theorem dX12_edit_45 : decode cX12_edit 45 = .ok (.iconst (-1), 1) := by decide +kernel
theorem dX12_edit_46 : decode cX12_edit 46 = .ok (.if_icmp .ne 7, 3) := by decide +kernel
theorem dX12_edit_49 : decode cX12_edit 49 = .ok (.iconst 2, 1) := by decide +kernel
theorem dX12_edit_50 : decode cX12_edit 50 = .ok (.goto 4, 3) := by decide +kernel
theorem dX12_edit_53 : decode cX12_edit 53 = .ok (.iconst 0, 1) := by decide +kernel
theorem dX12_edit_54 : decode cX12_edit 54 = .ok (.invokevirtual 182, 3) := by decide +kernel
theorem dX12_edit_57 : decode cX12_edit 57 = .ok (.ifCond .ne 5, 3) := by decide +kernel
theorem dX12_edit_60 : decode cX12_edit 60 = .ok (.iconst 0, 1) := by decide +kernel
theorem dX12_edit_61 : decode cX12_edit 61 = .ok (.ireturn, 1) := by decide +kernel
theorem dX12_edit_62 : decode cX12_edit 62 = .ok (.aload_n 0, 1) := by decide +kernel
theorem dX12_edit_63 : decode cX12_edit 63 = .ok (.getfield 148, 3) := by decide +kernel
theorem dX12_edit_66 : decode cX12_edit 66 = .ok (.bipush 6, 2) := by decide +kernel
theorem dX12_edit_68 : decode cX12_edit 68 = .ok (.iload_n 1, 1) := by decide +kernel
theorem dX12_edit_69 : decode cX12_edit 69 = .ok (.iadd, 1) := by decide +kernel
theorem dX12_edit_70 : decode cX12_edit 70 = .ok (.iaload, 1) := by decide +kernel
theorem dX12_edit_71 : decode cX12_edit 71 = .ok (.istore 4, 2) := by decide +kernel
theorem dX12_edit_73 : decode cX12_edit 73 = .ok (.aload_n 0, 1) := by decide +kernel
theorem dX12_edit_74 : decode cX12_edit 74 = .ok (.getfield 148, 3) := by decide +kernel
theorem dX12_edit_77 : decode cX12_edit 77 = .ok (.bipush 6, 2) := by decide +kernel
theorem dX12_edit_79 : decode cX12_edit 79 = .ok (.iload_n 1, 1) := by decide +kernel
theorem dX12_edit_80 : decode cX12_edit 80 = .ok (.iadd, 1) := by decide +kernel
theorem dX12_edit_81 : decode cX12_edit 81 = .ok (.iload_n 2, 1) := by decide +kernel
theorem dX12_edit_82 : decode cX12_edit 82 = .ok (.iastore, 1) := by decide +kernel
theorem dX12_edit_83 : decode cX12_edit 83 = .ok (.iload 4, 2) := by decide +kernel
theorem dX12_edit_85 : decode cX12_edit 85 = .ok (.ireturn, 1) := by decide +kernel
def wp_X12_edit_54 (h : Nat) (x1 : Int32) (x2 : Int32) (s0 : Int32) (s1 : Option Nat) (S : xm_S) (g : Int32 → xm_S → Prop) : Prop :=
  ∃ n1, s1 = some n1 ∧ st_t S n1 = some (12, 0) ∧ wp_X12_may n1 s0 S (fun r5 S4 => (¬ r5 = 0 → st_t S4 h = some (12, 0) ∧ ∃ n7, (st_r S4 h 50) = some n7 ∧ ∃ z10, st_t S4 n7 = some (100, z10) ∧ vp_in ((nI 6) + x1) z10 ∧ ∀ y12, y12 = (st_i S4 n7 (((nI 6) + x1)).toNatClampNeg) → ∃ n14, (st_r S4 h 50) = some n14 ∧ ∃ z17, st_t S4 n14 = some (100, z17) ∧ vp_in ((nI 6) + x1) z17 ∧ ∀ S19, S19 = st_pi S4 n14 (((nI 6) + x1)).toNatClampNeg x2 → g y12 S19) ∧ (r5 = 0 → g (0 : Int32) S4))
set_option maxRecDepth 100000 in
set_option maxHeartbeats 4000000 in
theorem kp_X12_edit_54 {K : xm_K} (h : Nat) (x1 : Int32) (x2 : Int32) (s0 : Int32) (s1 : Option Nat) (S : xm_S) {g : Int32 → xm_S → Prop} (C : xm_Cx K cX12_edit RX12 5 (some (FieldType.int)) rm_X12_edit) (N : xm_Nx K) (hg : ∀ v S, g v S → xm_q K (some (xm_i v)) S)  (h1 : wp_X12_edit_54 h x1 x2 s0 s1 S g) : xm_W K 0 0 54 [(0, xm_r (some h)), (1, xm_i x1), (2, xm_i x2)] [xm_i s0, xm_r s1] S := by
  unfold wp_X12_edit_54 at h1
  obtain ⟨n1, hr2, h1⟩ := h1
  obtain ⟨ht3, h1⟩ := h1
  refine x_callV (rm' := rm_X12_may) (n := n1) C (kp_X12_may_met h1) lk_95 gw_572 gw_573 xv_12 rfl hr2 ht3 rfl (Nat.le_of_ble_eq_true rfl) ⟨Nat.le_of_ble_eq_true rfl, Nat.le_of_ble_eq_true rfl, (Nat.le_of_ble_eq_true rfl), (Nat.le_of_ble_eq_true rfl)⟩ dX12_edit_54 xm_kx (xm_ki (fun r5 S4 h1 => ?_))
  refine x_if_ne (tgt := 62) C dX12_edit_57 (by decide) (fun z9 => ?_) (fun z9 => ?_)
  · have h1 := h1.1 z9
    refine x_aload_n C 0 dX12_edit_62 rfl rfl ?_
    obtain ⟨ht6, h1⟩ := h1
    refine x_getf_r (n := h) C rfl ht6 fd_203 (by decide) dX12_edit_63 ?_
    refine x_bipush (v := (nI 6)) C dX12_edit_66 (by decide) ?_
    refine x_iload_n C 1 dX12_edit_68 rfl rfl ?_
    refine x_iadd C dX12_edit_69 ?_
    obtain ⟨n7, hr8, h1⟩ := h1
    obtain ⟨z10, ht9, h1⟩ := h1
    obtain ⟨hi11, h1⟩ := h1
    refine x_iald (n := n7) C hr8 ht9 hi11 dX12_edit_70 ?_
    refine x_topi (fun y12 e13 => ?_)
    have h1 := h1 y12 e13
    refine x_istore (L' := [(4, xm_i y12), (0, xm_r (some h)), (1, xm_i x1), (2, xm_i x2)]) C dX12_edit_71 (by decide) rfl ?_
    refine x_aload_n C 1 dX12_edit_73 rfl rfl ?_
    refine x_getf_r (n := h) C rfl ht6 fd_203 (by decide) dX12_edit_74 ?_
    refine x_bipush (v := (nI 6)) C dX12_edit_77 (by decide) ?_
    refine x_iload_n C 2 dX12_edit_79 rfl rfl ?_
    refine x_iadd C dX12_edit_80 ?_
    refine x_iload_n C 3 dX12_edit_81 rfl rfl ?_
    obtain ⟨n14, hr15, h1⟩ := h1
    obtain ⟨z17, ht16, h1⟩ := h1
    obtain ⟨hi18, h1⟩ := h1
    refine x_iast (n := n14) C hr15 ht16 hi18 dX12_edit_82 ?_
    refine x_topS (fun S19 e20 => ?_)
    have h1 := h1 S19 e20
    refine x_iload C 0 dX12_edit_83 rfl ?_
    exact x_iret C (Nat.le_of_ble_eq_true rfl) (Nat.le_of_ble_eq_true rfl) rfl dX12_edit_85 (hg _ _ h1)
  · have h1 := h1.2 z9
    refine x_iconst (v := (0 : Int32)) C dX12_edit_60 (by decide) ?_
    exact x_iret C (Nat.le_of_ble_eq_true rfl) (Nat.le_of_ble_eq_true rfl) rfl dX12_edit_61 (hg _ _ h1)
def wp_X12_edit_26 (h : Nat) (x1 : Int32) (x2 : Int32) (s0 : Int32) (S : xm_S) (g : Int32 → xm_S → Prop) : Prop :=
  (¬ s0 = 0 → st_t S h = some (12, 0) ∧ ∃ n22, (st_r S h 50) = some n22 ∧ ∃ z25, st_t S n22 = some (100, z25) ∧ vp_in ((nI 6) + x1) z25 ∧ (¬ (st_i S n22 (((nI 6) + x1)).toNatClampNeg) = (-1 : Int32) → wp_X12_edit_54 h x1 x2 (0 : Int32) (some h) S g) ∧ ((st_i S n22 (((nI 6) + x1)).toNatClampNeg) = (-1 : Int32) → wp_X12_edit_54 h x1 x2 (nI 2) (some h) S g)) ∧ (s0 = 0 → wp_X12_edit_54 h x1 x2 (1 : Int32) (some h) S g)
set_option maxRecDepth 100000 in
set_option maxHeartbeats 4000000 in
theorem kp_X12_edit_26 {K : xm_K} (h : Nat) (x1 : Int32) (x2 : Int32) (s0 : Int32) (S : xm_S) {g : Int32 → xm_S → Prop} (C : xm_Cx K cX12_edit RX12 5 (some (FieldType.int)) rm_X12_edit) (N : xm_Nx K) (hg : ∀ v S, g v S → xm_q K (some (xm_i v)) S)  (h1 : wp_X12_edit_26 h x1 x2 s0 S g) : xm_W K 0 0 26 [(0, xm_r (some h)), (1, xm_i x1), (2, xm_i x2)] [xm_i s0] S := by
  unfold wp_X12_edit_26 at h1
  refine x_istore_n (L' := [(3, xm_i s0), (0, xm_r (some h)), (1, xm_i x1), (2, xm_i x2)]) C dX12_edit_26 rfl (by decide) rfl ?_
  refine x_aload_n C 1 dX12_edit_27 rfl rfl ?_
  refine x_iload_n C 0 dX12_edit_28 rfl rfl ?_
  refine x_if_ne (tgt := 36) C dX12_edit_29 (by decide) (fun z9 => ?_) (fun z9 => ?_)
  · have h1 := h1.1 z9
    refine x_aload_n C 1 dX12_edit_36 rfl rfl ?_
    obtain ⟨ht21, h1⟩ := h1
    refine x_getf_r (n := h) C rfl ht21 fd_203 (by decide) dX12_edit_37 ?_
    refine x_bipush (v := (nI 6)) C dX12_edit_40 (by decide) ?_
    refine x_iload_n C 2 dX12_edit_42 rfl rfl ?_
    refine x_iadd C dX12_edit_43 ?_
    obtain ⟨n22, hr23, h1⟩ := h1
    obtain ⟨z25, ht24, h1⟩ := h1
    obtain ⟨hi26, h1⟩ := h1
    refine x_iald (n := n22) C hr23 ht24 hi26 dX12_edit_44 ?_
    refine x_iconst (v := (-1 : Int32)) C dX12_edit_45 (by decide) ?_
    refine x_icmp_ne (tgt := 53) C dX12_edit_46 (by decide) (fun z9 => ?_) (fun z9 => ?_)
    · have h1 := h1.1 z9
      refine x_iconst (v := (0 : Int32)) C dX12_edit_53 (by decide) ?_
      refine x_keep (L' := [(0, xm_r (some h)), (1, xm_i x1), (2, xm_i x2)]) C [1, 2, 3] rfl ?_
      exact kp_X12_edit_54 h x1 x2 (0 : Int32) (some h) S C N hg  h1
    · have h1 := h1.2 z9
      refine x_iconst (v := (nI 2)) C dX12_edit_49 (by decide) ?_
      refine x_goto (tgt := 54) C dX12_edit_50 (by decide) ?_
      refine x_keep (L' := [(0, xm_r (some h)), (1, xm_i x1), (2, xm_i x2)]) C [1, 2, 3] rfl ?_
      exact kp_X12_edit_54 h x1 x2 (nI 2) (some h) S C N hg  h1
  · have h1 := h1.2 z9
    refine x_iconst (v := (1 : Int32)) C dX12_edit_32 (by decide) ?_
    refine x_goto (tgt := 54) C dX12_edit_33 (by decide) ?_
    refine x_keep (L' := [(0, xm_r (some h)), (1, xm_i x1), (2, xm_i x2)]) C [1, 2, 3] rfl ?_
    exact kp_X12_edit_54 h x1 x2 (1 : Int32) (some h) S C N hg  h1
def wp_X12_edit_25 (h : Nat) (x1 : Int32) (x2 : Int32) (S : xm_S) (g : Int32 → xm_S → Prop) : Prop :=
  wp_X12_edit_26 h x1 x2 (0 : Int32) S g
set_option maxRecDepth 100000 in
set_option maxHeartbeats 4000000 in
theorem kp_X12_edit_25 {K : xm_K} (h : Nat) (x1 : Int32) (x2 : Int32) (S : xm_S) {g : Int32 → xm_S → Prop} (C : xm_Cx K cX12_edit RX12 5 (some (FieldType.int)) rm_X12_edit) (N : xm_Nx K) (hg : ∀ v S, g v S → xm_q K (some (xm_i v)) S)  (h1 : wp_X12_edit_25 h x1 x2 S g) : xm_W K 0 0 25 [(0, xm_r (some h)), (1, xm_i x1), (2, xm_i x2)] [] S := by
  unfold wp_X12_edit_25 at h1
  refine x_iconst (v := (0 : Int32)) C dX12_edit_25 (by decide) ?_
  exact kp_X12_edit_26 h x1 x2 (0 : Int32) S C N hg  h1
def wp_X12_edit (h : Nat) (x1 : Int32) (x2 : Int32) (S : xm_S) (g : Int32 → xm_S → Prop) : Prop :=
  wp_X12_in x1 (0 : Int32) (nI 15) S (fun r28 S27 => (r28 = 0 → wp_X12_edit_25 h x1 x2 S27 g) ∧ (¬ r28 = 0 → wp_X12_in x2 (0 : Int32) (nI 999) S27 (fun r30 S29 => (r30 = 0 → wp_X12_edit_25 h x1 x2 S29 g) ∧ (¬ r30 = 0 → wp_X12_edit_26 h x1 x2 (1 : Int32) S29 g))))
set_option maxRecDepth 100000 in
set_option maxHeartbeats 4000000 in
theorem kp_X12_edit {K : xm_K} (h : Nat) (x1 : Int32) (x2 : Int32) (S : xm_S) {g : Int32 → xm_S → Prop} (C : xm_Cx K cX12_edit RX12 5 (some (FieldType.int)) rm_X12_edit) (N : xm_Nx K) (hg : ∀ v S, g v S → xm_q K (some (xm_i v)) S)  (h1 : wp_X12_edit h x1 x2 S g) : xm_W K 0 0 0 [(0, xm_r (some h)), (1, xm_i x1), (2, xm_i x2)] [] S := by
  unfold wp_X12_edit at h1
  refine x_iload_n C 1 dX12_edit_0 rfl rfl ?_
  refine x_iconst (v := (0 : Int32)) C dX12_edit_1 (by decide) ?_
  refine x_bipush (v := (nI 15)) C dX12_edit_2 (by decide) ?_
  refine x_callS (rm' := rm_X12_in) C (kp_X12_in_met h1) lk_87 gw_533 rfl (Nat.le_of_ble_eq_true rfl) ⟨Nat.le_of_ble_eq_true rfl, Nat.le_of_ble_eq_true rfl, (Nat.le_of_ble_eq_true rfl), (Nat.le_of_ble_eq_true rfl)⟩ dX12_edit_4 xm_kx (xm_ki (fun r28 S27 h1 => ?_))
  refine x_if_eq (tgt := 25) C dX12_edit_7 (by decide) (fun z9 => ?_) (fun z9 => ?_)
  · have h1 := h1.1 z9
    exact kp_X12_edit_25 h x1 x2 S27 C N hg  h1
  · have h1 := h1.2 z9
    refine x_iload_n C 2 dX12_edit_10 rfl rfl ?_
    refine x_iconst (v := (0 : Int32)) C dX12_edit_11 (by decide) ?_
    refine x_sipush (v := (nI 999)) C dX12_edit_12 (by decide) ?_
    refine x_callS (rm' := rm_X12_in) C (kp_X12_in_met h1) lk_87 gw_533 rfl (Nat.le_of_ble_eq_true rfl) ⟨Nat.le_of_ble_eq_true rfl, Nat.le_of_ble_eq_true rfl, (Nat.le_of_ble_eq_true rfl), (Nat.le_of_ble_eq_true rfl)⟩ dX12_edit_15 xm_kx (xm_ki (fun r30 S29 h1 => ?_))
    refine x_if_eq (tgt := 25) C dX12_edit_18 (by decide) (fun z9 => ?_) (fun z9 => ?_)
    · have h1 := h1.1 z9
      exact kp_X12_edit_25 h x1 x2 S29 C N hg  h1
    · have h1 := h1.2 z9
      refine x_iconst (v := (1 : Int32)) C dX12_edit_21 (by decide) ?_
      refine x_goto (tgt := 26) C dX12_edit_22 (by decide) ?_
      exact kp_X12_edit_26 h x1 x2 (1 : Int32) S29 C N hg  h1
theorem kp_X12_edit_met {h : Nat} {x1 : Int32} {x2 : Int32} {S : xm_S} {g : Int32 → xm_S → Prop}  (h1 : wp_X12_edit h x1 x2 S g) : xm_Met yX12_edit cX12_edit 5 (some (FieldType.int)) rm_X12_edit [xm_r (some h), xm_i x1, xm_i x2] S (xm_qi g) xm_nox :=
  xm_ofW RX12 (by decide +kernel) rfl (Nat.le_of_ble_eq_true rfl) (fun K C N hq hx hi => kp_X12_edit h x1 x2 S C N (fun v S h => by rw [hq]; exact ⟨v, rfl, h⟩)  h1)
def rm_X12_fault : Room := { frames := 7, cells := 0, slots := 0, locals := 148 }
theorem dX12_fault_0 : decode cX12_fault 0 = .ok (.aload_n 0, 1) := by decide +kernel
theorem dX12_fault_1 : decode cX12_fault 1 = .ok (.iconst 0, 1) := by decide +kernel
theorem dX12_fault_2 : decode cX12_fault 2 = .ok (.putfield 169, 3) := by decide +kernel
theorem dX12_fault_5 : decode cX12_fault 5 = .ok (.aload_n 0, 1) := by decide +kernel
theorem dX12_fault_6 : decode cX12_fault 6 = .ok (.sipush 154, 3) := by decide +kernel
theorem dX12_fault_9 : decode cX12_fault 9 = .ok (.invokevirtual 217, 3) := by decide +kernel
theorem dX12_fault_12 : decode cX12_fault 12 = .ok (.ireturn, 1) := by decide +kernel
def wp_X12_fault (h : Nat)  (S : xm_S) (g : Int32 → xm_S → Prop) : Prop :=
  st_t S h = some (12, 0) ∧ ∀ S2, S2 = st_pi S h 0 (0 : Int32) → wp_X12_faultOf h (nI 154) S2 (fun r5 S4 => g r5 S4)
set_option maxRecDepth 100000 in
set_option maxHeartbeats 4000000 in
theorem kp_X12_fault {K : xm_K} (h : Nat)  (S : xm_S) {g : Int32 → xm_S → Prop} (C : xm_Cx K cX12_fault RX12 1 (some (FieldType.int)) rm_X12_fault) (N : xm_Nx K) (hg : ∀ v S, g v S → xm_q K (some (xm_i v)) S)  (h1 : wp_X12_fault h  S g) : xm_W K 0 0 0 [(0, xm_r (some h))] [] S := by
  unfold wp_X12_fault at h1
  refine x_aload_n C 0 dX12_fault_0 rfl rfl ?_
  refine x_iconst (v := (0 : Int32)) C dX12_fault_1 (by decide) ?_
  obtain ⟨ht1, h1⟩ := h1
  refine x_putf_i (n := h) C rfl ht1 fd_165 xc_12 (by decide) rfl ⟨rfl, rfl⟩ dX12_fault_2 ?_
  refine x_topS (fun S2 e3 => ?_)
  have h1 := h1 S2 e3
  refine x_aload_n C 0 dX12_fault_5 rfl rfl ?_
  refine x_sipush (v := (nI 154)) C dX12_fault_6 (by decide) ?_
  refine x_callV (rm' := rm_X12_faultOf) (n := h) C (kp_X12_faultOf_met h1) lk_94 gw_567 gw_568 xv_12 rfl rfl (tk_p e3 ht1) rfl (Nat.le_of_ble_eq_true rfl) ⟨Nat.le_of_ble_eq_true rfl, Nat.le_of_ble_eq_true rfl, (Nat.le_of_ble_eq_true rfl), (Nat.le_of_ble_eq_true rfl)⟩ dX12_fault_9 xm_kx (xm_ki (fun r5 S4 h1 => ?_))
  exact x_iret C (Nat.le_of_ble_eq_true rfl) (Nat.le_of_ble_eq_true rfl) rfl dX12_fault_12 (hg _ _ h1)
theorem kp_X12_fault_met {h : Nat}  {S : xm_S} {g : Int32 → xm_S → Prop}  (h1 : wp_X12_fault h  S g) : xm_Met yX12_fault cX12_fault 1 (some (FieldType.int)) rm_X12_fault [xm_r (some h)] S (xm_qi g) xm_nox :=
  xm_ofW RX12 (by decide +kernel) rfl (Nat.le_of_ble_eq_true rfl) (fun K C N hq hx hi => kp_X12_fault h  S C N (fun v S h => by rw [hq]; exact ⟨v, rfl, h⟩)  h1)
def rm_X12_gives : Room := { frames := 1, cells := 0, slots := 0, locals := 20 }
theorem dX12_gives_0 : decode cX12_gives 0 = .ok (.aload_n 0, 1) := by decide +kernel
theorem dX12_gives_1 : decode cX12_gives 1 = .ok (.getfield 118, 3) := by decide +kernel
theorem dX12_gives_4 : decode cX12_gives 4 = .ok (.bipush 24, 2) := by decide +kernel
theorem dX12_gives_6 : decode cX12_gives 6 = .ok (.iload_n 1, 1) := by decide +kernel
theorem dX12_gives_7 : decode cX12_gives 7 = .ok (.imul, 1) := by decide +kernel
theorem dX12_gives_8 : decode cX12_gives 8 = .ok (.iload_n 2, 1) := by decide +kernel
theorem dX12_gives_9 : decode cX12_gives 9 = .ok (.iadd, 1) := by decide +kernel
theorem dX12_gives_10 : decode cX12_gives 10 = .ok (.iaload, 1) := by decide +kernel
theorem dX12_gives_11 : decode cX12_gives 11 = .ok (.iconst (-1), 1) := by decide +kernel
theorem dX12_gives_12 : decode cX12_gives 12 = .ok (.if_icmp .ne 12, 3) := by decide +kernel
theorem dX12_gives_15 : decode cX12_gives 15 = .ok (.aload_n 0, 1) := by decide +kernel
theorem dX12_gives_16 : decode cX12_gives 16 = .ok (.getfield 25, 3) := by decide +kernel
theorem dX12_gives_19 : decode cX12_gives 19 = .ok (.iload_n 2, 1) := by decide +kernel
theorem dX12_gives_20 : decode cX12_gives 20 = .ok (.iaload, 1) := by decide +kernel
theorem dX12_gives_21 : decode cX12_gives 21 = .ok (.goto 14, 3) := by decide +kernel
theorem dX12_gives_24 : decode cX12_gives 24 = .ok (.aload_n 0, 1) := by decide +kernel
theorem dX12_gives_25 : decode cX12_gives 25 = .ok (.getfield 118, 3) := by decide +kernel
theorem dX12_gives_28 : decode cX12_gives 28 = .ok (.bipush 24, 2) := by decide +kernel
theorem dX12_gives_30 : decode cX12_gives 30 = .ok (.iload_n 1, 1) := by decide +kernel
theorem dX12_gives_31 : decode cX12_gives 31 = .ok (.imul, 1) := by decide +kernel
theorem dX12_gives_32 : decode cX12_gives 32 = .ok (.iload_n 2, 1) := by decide +kernel
theorem dX12_gives_33 : decode cX12_gives 33 = .ok (.iadd, 1) := by decide +kernel
theorem dX12_gives_34 : decode cX12_gives 34 = .ok (.iaload, 1) := by decide +kernel
theorem dX12_gives_35 : decode cX12_gives 35 = .ok (.ireturn, 1) := by decide +kernel
def wp_X12_gives_35 (h : Nat) (s0 : Int32) (S : xm_S) (g : Int32 → xm_S → Prop) : Prop :=
  g s0 S
set_option maxRecDepth 100000 in
set_option maxHeartbeats 4000000 in
theorem kp_X12_gives_35 {K : xm_K} (h : Nat) (s0 : Int32) (S : xm_S) {g : Int32 → xm_S → Prop} (C : xm_Cx K cX12_gives RX12 3 (some (FieldType.int)) rm_X12_gives) (N : xm_Nx K) (hg : ∀ v S, g v S → xm_q K (some (xm_i v)) S)  (h1 : wp_X12_gives_35 h s0 S g) : xm_W K 0 0 35 [] [xm_i s0] S := by
  unfold wp_X12_gives_35 at h1
  exact x_iret C (Nat.le_of_ble_eq_true rfl) (Nat.le_of_ble_eq_true rfl) rfl dX12_gives_35 (hg _ _ h1)
def wp_X12_gives (h : Nat) (x1 : Int32) (x2 : Int32) (S : xm_S) (g : Int32 → xm_S → Prop) : Prop :=
  st_t S h = some (12, 0) ∧ ∃ n2, (st_r S h 40) = some n2 ∧ ∃ z5, st_t S n2 = some (100, z5) ∧ vp_in (((nI 24) * x1) + x2) z5 ∧ (¬ (st_i S n2 ((((nI 24) * x1) + x2)).toNatClampNeg) = (-1 : Int32) → ∃ n7, (st_r S h 40) = some n7 ∧ ∃ z10, st_t S n7 = some (100, z10) ∧ vp_in (((nI 24) * x1) + x2) z10 ∧ wp_X12_gives_35 h (st_i S n7 ((((nI 24) * x1) + x2)).toNatClampNeg) S g) ∧ ((st_i S n2 ((((nI 24) * x1) + x2)).toNatClampNeg) = (-1 : Int32) → ∃ n12, (st_r S h 6) = some n12 ∧ ∃ z15, st_t S n12 = some (100, z15) ∧ vp_in x2 z15 ∧ wp_X12_gives_35 h (st_i S n12 (x2).toNatClampNeg) S g)
set_option maxRecDepth 100000 in
set_option maxHeartbeats 4000000 in
theorem kp_X12_gives {K : xm_K} (h : Nat) (x1 : Int32) (x2 : Int32) (S : xm_S) {g : Int32 → xm_S → Prop} (C : xm_Cx K cX12_gives RX12 3 (some (FieldType.int)) rm_X12_gives) (N : xm_Nx K) (hg : ∀ v S, g v S → xm_q K (some (xm_i v)) S)  (h1 : wp_X12_gives h x1 x2 S g) : xm_W K 0 0 0 [(0, xm_r (some h)), (1, xm_i x1), (2, xm_i x2)] [] S := by
  unfold wp_X12_gives at h1
  refine x_aload_n C 0 dX12_gives_0 rfl rfl ?_
  obtain ⟨ht1, h1⟩ := h1
  refine x_getf_r (n := h) C rfl ht1 fd_204 (by decide) dX12_gives_1 ?_
  refine x_bipush (v := (nI 24)) C dX12_gives_4 (by decide) ?_
  refine x_iload_n C 1 dX12_gives_6 rfl rfl ?_
  refine x_imul C dX12_gives_7 ?_
  refine x_iload_n C 2 dX12_gives_8 rfl rfl ?_
  refine x_iadd C dX12_gives_9 ?_
  obtain ⟨n2, hr3, h1⟩ := h1
  obtain ⟨z5, ht4, h1⟩ := h1
  obtain ⟨hi6, h1⟩ := h1
  refine x_iald (n := n2) C hr3 ht4 hi6 dX12_gives_10 ?_
  refine x_iconst (v := (-1 : Int32)) C dX12_gives_11 (by decide) ?_
  refine x_icmp_ne (tgt := 24) C dX12_gives_12 (by decide) (fun z9 => ?_) (fun z9 => ?_)
  · have h1 := h1.1 z9
    refine x_aload_n C 0 dX12_gives_24 rfl rfl ?_
    refine x_getf_r (n := h) C rfl ht1 fd_204 (by decide) dX12_gives_25 ?_
    refine x_bipush (v := (nI 24)) C dX12_gives_28 (by decide) ?_
    refine x_iload_n C 1 dX12_gives_30 rfl rfl ?_
    refine x_imul C dX12_gives_31 ?_
    refine x_iload_n C 2 dX12_gives_32 rfl rfl ?_
    refine x_iadd C dX12_gives_33 ?_
    obtain ⟨n7, hr8, h1⟩ := h1
    obtain ⟨z10, ht9, h1⟩ := h1
    obtain ⟨hi11, h1⟩ := h1
    refine x_iald (n := n7) C hr8 ht9 hi11 dX12_gives_34 ?_
    refine x_keep (L' := []) C [] rfl ?_
    exact kp_X12_gives_35 h (st_i S n7 ((((nI 24) * x1) + x2)).toNatClampNeg) S C N hg  h1
  · have h1 := h1.2 z9
    refine x_aload_n C 0 dX12_gives_15 rfl rfl ?_
    refine x_getf_r (n := h) C rfl ht1 fd_205 (by decide) dX12_gives_16 ?_
    refine x_iload_n C 2 dX12_gives_19 rfl rfl ?_
    obtain ⟨n12, hr13, h1⟩ := h1
    obtain ⟨z15, ht14, h1⟩ := h1
    obtain ⟨hi16, h1⟩ := h1
    refine x_iald (n := n12) C hr13 ht14 hi16 dX12_gives_20 ?_
    refine x_goto (tgt := 35) C dX12_gives_21 (by decide) ?_
    refine x_keep (L' := []) C [] rfl ?_
    exact kp_X12_gives_35 h (st_i S n12 (x2).toNatClampNeg) S C N hg  h1
theorem kp_X12_gives_met {h : Nat} {x1 : Int32} {x2 : Int32} {S : xm_S} {g : Int32 → xm_S → Prop}  (h1 : wp_X12_gives h x1 x2 S g) : xm_Met yX12_gives cX12_gives 3 (some (FieldType.int)) rm_X12_gives [xm_r (some h), xm_i x1, xm_i x2] S (xm_qi g) xm_nox :=
  xm_ofW RX12 (by decide +kernel) rfl (Nat.le_of_ble_eq_true rfl) (fun K C N hq hx hi => kp_X12_gives h x1 x2 S C N (fun v S h => by rw [hq]; exact ⟨v, rfl, h⟩)  h1)
def rm_X12_fetch : Room := { frames := 4, cells := 0, slots := 0, locals := 84 }
theorem dX12_fetch_0 : decode cX12_fetch 0 = .ok (.aload_n 0, 1) := by decide +kernel
theorem dX12_fetch_1 : decode cX12_fetch 1 = .ok (.aload_n 0, 1) := by decide +kernel
theorem dX12_fetch_2 : decode cX12_fetch 2 = .ok (.iload_n 1, 1) := by decide +kernel
theorem dX12_fetch_3 : decode cX12_fetch 3 = .ok (.iload_n 2, 1) := by decide +kernel
theorem dX12_fetch_4 : decode cX12_fetch 4 = .ok (.invokevirtual 237, 3) := by decide +kernel
theorem dX12_fetch_7 : decode cX12_fetch 7 = .ok (.ifCond .eq 7, 3) := by decide +kernel
theorem dX12_fetch_10 : decode cX12_fetch 10 = .ok (.iconst 0, 1) := by decide +kernel
theorem dX12_fetch_11 : decode cX12_fetch 11 = .ok (.goto 4, 3) := by decide +kernel
theorem dX12_fetch_14 : decode cX12_fetch 14 = .ok (.iconst 1, 1) := by decide +kernel
theorem dX12_fetch_15 : decode cX12_fetch 15 = .ok (.invokevirtual 182, 3) := by decide +kernel
theorem dX12_fetch_18 : decode cX12_fetch 18 = .ok (.ifCond .ne 5, 3) := by decide +kernel
theorem dX12_fetch_21 : decode cX12_fetch 21 = .ok (.iconst 0, 1) := by decide +kernel
theorem dX12_fetch_22 : decode cX12_fetch 22 = .ok (.ireturn, 1) := by decide +kernel
theorem dX12_fetch_23 : decode cX12_fetch 23 = .ok (.iconst 4, 1) := by decide +kernel
theorem dX12_fetch_24 : decode cX12_fetch 24 = .ok (.iload_n 1, 1) := by decide +kernel
theorem dX12_fetch_25 : decode cX12_fetch 25 = .ok (.imul, 1) := by decide +kernel
theorem dX12_fetch_26 : decode cX12_fetch 26 = .ok (.iload_n 2, 1) := by decide +kernel
theorem dX12_fetch_27 : decode cX12_fetch 27 = .ok (.iadd, 1) := by decide +kernel
theorem dX12_fetch_28 : decode cX12_fetch 28 = .ok (.istore_n 3, 1) := by decide +kernel
theorem dX12_fetch_29 : decode cX12_fetch 29 = .ok (.aload_n 0, 1) := by decide +kernel
theorem dX12_fetch_30 : decode cX12_fetch 30 = .ok (.getfield 124, 3) := by decide +kernel
theorem dX12_fetch_33 : decode cX12_fetch 33 = .ok (.iload_n 3, 1) := by decide +kernel
theorem dX12_fetch_34 : decode cX12_fetch 34 = .ok (.baload, 1) := by decide +kernel
theorem dX12_fetch_35 : decode cX12_fetch 35 = .ok (.ifCond .eq 5, 3) := by decide +kernel
theorem dX12_fetch_38 : decode cX12_fetch 38 = .ok (.iconst 3, 1) := by decide +kernel
theorem dX12_fetch_39 : decode cX12_fetch 39 = .ok (.ireturn, 1) := by decide +kernel
theorem dX12_fetch_40 : decode cX12_fetch 40 = .ok (.iconst 0, 1) := by decide +kernel
theorem dX12_fetch_41 : decode cX12_fetch 41 = .ok (.istore 4, 2) := by decide +kernel
theorem dX12_fetch_43 : decode cX12_fetch 43 = .ok (.iload 4, 2) := by decide +kernel
theorem dX12_fetch_45 : decode cX12_fetch 45 = .ok (.iconst 3, 1) := by decide +kernel
theorem dX12_fetch_46 : decode cX12_fetch 46 = .ok (.if_icmp .ge 56, 3) := by decide +kernel
theorem dX12_fetch_49 : decode cX12_fetch 49 = .ok (.aload_n 0, 1) := by decide +kernel
theorem dX12_fetch_50 : decode cX12_fetch 50 = .ok (.getfield 121, 3) := by decide +kernel
theorem dX12_fetch_53 : decode cX12_fetch 53 = .ok (.iload 4, 2) := by decide +kernel
theorem dX12_fetch_55 : decode cX12_fetch 55 = .ok (.baload, 1) := by decide +kernel
theorem dX12_fetch_56 : decode cX12_fetch 56 = .ok (.ifCond .ne 40, 3) := by decide +kernel
theorem dX12_fetch_59 : decode cX12_fetch 59 = .ok (.aload_n 0, 1) := by decide +kernel
theorem dX12_fetch_60 : decode cX12_fetch 60 = .ok (.iload 4, 2) := by decide +kernel
theorem dX12_fetch_62 : decode cX12_fetch 62 = .ok (.iload_n 3, 1) := by decide +kernel
theorem dX12_fetch_63 : decode cX12_fetch 63 = .ok (.invokevirtual 331, 3) := by decide +kernel
theorem dX12_fetch_66 : decode cX12_fetch 66 = .ok (.aload_n 0, 1) := by decide +kernel
theorem dX12_fetch_67 : decode cX12_fetch 67 = .ok (.getfield 25, 3) := by decide +kernel
theorem dX12_fetch_70 : decode cX12_fetch 70 = .ok (.iload_n 3, 1) := by decide +kernel
theorem dX12_fetch_71 : decode cX12_fetch 71 = .ok (.iaload, 1) := by decide +kernel
theorem dX12_fetch_72 : decode cX12_fetch 72 = .ok (.if_icmp .ne 13, 3) := by decide +kernel
theorem dX12_fetch_75 : decode cX12_fetch 75 = .ok (.aload_n 0, 1) := by decide +kernel
theorem dX12_fetch_76 : decode cX12_fetch 76 = .ok (.getfield 124, 3) := by decide +kernel
theorem dX12_fetch_79 : decode cX12_fetch 79 = .ok (.iload_n 3, 1) := by decide +kernel
theorem dX12_fetch_80 : decode cX12_fetch 80 = .ok (.iconst 1, 1) := by decide +kernel
theorem dX12_fetch_81 : decode cX12_fetch 81 = .ok (.bastore, 1) := by decide +kernel
theorem dX12_fetch_82 : decode cX12_fetch 82 = .ok (.iload 4, 2) := by decide +kernel
theorem dX12_fetch_84 : decode cX12_fetch 84 = .ok (.ireturn, 1) := by decide +kernel
theorem dX12_fetch_85 : decode cX12_fetch 85 = .ok (.aload_n 0, 1) := by decide +kernel
theorem dX12_fetch_86 : decode cX12_fetch 86 = .ok (.getfield 127, 3) := by decide +kernel
theorem dX12_fetch_89 : decode cX12_fetch 89 = .ok (.iload 4, 2) := by decide +kernel
theorem dX12_fetch_91 : decode cX12_fetch 91 = .ok (.dup2, 1) := by decide +kernel
theorem dX12_fetch_92 : decode cX12_fetch 92 = .ok (.iaload, 1) := by decide +kernel
theorem dX12_fetch_93 : decode cX12_fetch 93 = .ok (.iconst 1, 1) := by decide +kernel
theorem dX12_fetch_94 : decode cX12_fetch 94 = .ok (.iadd, 1) := by decide +kernel
theorem dX12_fetch_95 : decode cX12_fetch 95 = .ok (.iastore, 1) := by decide +kernel
theorem dX12_fetch_96 : decode cX12_fetch 96 = .ok (.iinc 4 1, 3) := by decide +kernel
theorem dX12_fetch_99 : decode cX12_fetch 99 = .ok (.goto (-56), 3) := by decide +kernel
theorem dX12_fetch_102 : decode cX12_fetch 102 = .ok (.iconst (-1), 1) := by decide +kernel
theorem dX12_fetch_103 : decode cX12_fetch 103 = .ok (.ireturn, 1) := by decide +kernel
def wp_X12_fetch_96 (h : Nat) (x3 : Int32) (x4 : Int32) (S : xm_S) (g : Int32 → xm_S → Prop) (Z43 : Int32 → Int32 → xm_S → Prop) : Prop :=
  ∀ y1, y1 = (x4 + (1 : Int32)) → Z43 x3 y1 S
set_option maxRecDepth 100000 in
set_option maxHeartbeats 4000000 in
theorem kp_X12_fetch_96 {K : xm_K} (h : Nat) (x3 : Int32) (x4 : Int32) (S : xm_S) {g : Int32 → xm_S → Prop} {Z43 : Int32 → Int32 → xm_S → Prop} (C : xm_Cx K cX12_fetch RX12 5 (some (FieldType.int)) rm_X12_fetch) (N : xm_Nx K) (hg : ∀ v S, g v S → xm_q K (some (xm_i v)) S) (hZ43 : ∀ x3 x4 S, Z43 x3 x4 S → xm_W K 0 0 43 [(0, xm_r (some h)), (3, xm_i x3), (4, xm_i x4)] [] S) (h1 : wp_X12_fetch_96 h x3 x4 S g Z43) : xm_W K 0 0 96 [(0, xm_r (some h)), (3, xm_i x3), (4, xm_i x4)] [] S := by
  unfold wp_X12_fetch_96 at h1
  obtain ⟨y1, e2⟩ : ∃ y1, y1 = (x4 + (1 : Int32)) := ⟨_, rfl⟩
  have h1 := h1 y1 e2
  refine x_iinc (v := y1) (L' := [(4, xm_i y1), (0, xm_r (some h)), (3, xm_i x3)]) C 2 dX12_fetch_96 rfl (by rw [e2]; rfl) (by decide) rfl ?_
  refine x_goto (tgt := 43) C dX12_fetch_99 (by decide) ?_
  refine x_keep (L' := [(0, xm_r (some h)), (3, xm_i x3), (4, xm_i y1)]) C [1, 2, 0] rfl ?_
  exact hZ43 x3 y1 S h1
def wp_X12_fetch_43B (h : Nat) (x3 : Int32) (x4 : Int32) (S : xm_S) (g : Int32 → xm_S → Prop) (Z43 : Int32 → Int32 → xm_S → Prop) : Prop :=
  ((nI 3) ≤ x4 → g (-1 : Int32) S) ∧ (¬ (nI 3) ≤ x4 → st_t S h = some (12, 0) ∧ ∃ n4, (st_r S h 41) = some n4 ∧ ∃ z7, st_t S n4 = some (101, z7) ∧ vp_in x4 z7 ∧ (¬ (st_i S n4 (x4).toNatClampNeg) = 0 → wp_X12_fetch_96 h x3 x4 S g Z43) ∧ ((st_i S n4 (x4).toNatClampNeg) = 0 → wp_X12_gives h x4 x3 S (fun r10 S9 => st_t S9 h = some (12, 0) ∧ ∃ n12, (st_r S9 h 6) = some n12 ∧ ∃ z15, st_t S9 n12 = some (100, z15) ∧ vp_in x3 z15 ∧ (¬ r10 = (st_i S9 n12 (x3).toNatClampNeg) → ∃ n17, (st_r S9 h 43) = some n17 ∧ ∃ z20, st_t S9 n17 = some (100, z20) ∧ vp_in x4 z20 ∧ ∃ n22, (st_r S9 h 43) = some n22 ∧ ∃ z25, st_t S9 n22 = some (100, z25) ∧ vp_in x4 z25 ∧ ∀ S27, S27 = st_pi S9 n22 (x4).toNatClampNeg ((st_i S9 n17 (x4).toNatClampNeg) + (1 : Int32)) → wp_X12_fetch_96 h x3 x4 S27 g Z43) ∧ (r10 = (st_i S9 n12 (x3).toNatClampNeg) → ∃ n29, (st_r S9 h 42) = some n29 ∧ ∃ z32, st_t S9 n29 = some (101, z32) ∧ vp_in x3 z32 ∧ ∀ S34, S34 = st_pi S9 n29 (x3).toNatClampNeg (1 : Int32) → g x4 S34))))
def wp_X12_fetch_43 (h : Nat) (x3 : Int32) (x4 : Int32) (S : xm_S) (g : Int32 → xm_S → Prop) : Prop :=
  ∀ Z43 : Int32 → Int32 → xm_S → Prop, (∀ x3 x4 S, wp_X12_fetch_43B h x3 x4 S g Z43 → Z43 x3 x4 S) → Z43 x3 x4 S
set_option maxRecDepth 100000 in
set_option maxHeartbeats 4000000 in
theorem kp_X12_fetch_43B {K : xm_K} (h : Nat) (x3 : Int32) (x4 : Int32) (S : xm_S) {g : Int32 → xm_S → Prop} {Z43 : Int32 → Int32 → xm_S → Prop} (C : xm_Cx K cX12_fetch RX12 5 (some (FieldType.int)) rm_X12_fetch) (N : xm_Nx K) (hg : ∀ v S, g v S → xm_q K (some (xm_i v)) S) (hZ43 : ∀ x3 x4 S, Z43 x3 x4 S → xm_W K 0 0 43 [(0, xm_r (some h)), (3, xm_i x3), (4, xm_i x4)] [] S) (h1 : wp_X12_fetch_43B h x3 x4 S g Z43) : xm_W K 0 0 43 [(0, xm_r (some h)), (3, xm_i x3), (4, xm_i x4)] [] S := by
  unfold wp_X12_fetch_43B at h1
  refine x_iload C 2 dX12_fetch_43 rfl ?_
  refine x_iconst (v := (nI 3)) C dX12_fetch_45 (by decide) ?_
  refine x_icmp_ge (tgt := 102) C dX12_fetch_46 (by decide) (fun z9 => ?_) (fun z9 => ?_)
  · have h1 := h1.1 z9
    refine x_iconst (v := (-1 : Int32)) C dX12_fetch_102 (by decide) ?_
    exact x_iret C (Nat.le_of_ble_eq_true rfl) (Nat.le_of_ble_eq_true rfl) rfl dX12_fetch_103 (hg _ _ h1)
  · have h1 := h1.2 z9
    refine x_aload_n C 0 dX12_fetch_49 rfl rfl ?_
    obtain ⟨ht3, h1⟩ := h1
    refine x_getf_r (n := h) C rfl ht3 fd_206 (by decide) dX12_fetch_50 ?_
    refine x_iload C 2 dX12_fetch_53 rfl ?_
    obtain ⟨n4, hr5, h1⟩ := h1
    obtain ⟨z7, ht6, h1⟩ := h1
    obtain ⟨hi8, h1⟩ := h1
    refine x_zald (n := n4) C hr5 ht6 hi8 dX12_fetch_55 ?_
    refine x_if_ne (tgt := 96) C dX12_fetch_56 (by decide) (fun z9 => ?_) (fun z9 => ?_)
    · have h1 := h1.1 z9
      exact kp_X12_fetch_96 h x3 x4 S C N hg hZ43 h1
    · have h1 := h1.2 z9
      refine x_aload_n C 0 dX12_fetch_59 rfl rfl ?_
      refine x_iload C 2 dX12_fetch_60 rfl ?_
      refine x_iload_n C 1 dX12_fetch_62 rfl rfl ?_
      refine x_callV (rm' := rm_X12_gives) (n := h) C (kp_X12_gives_met h1) lk_120 gw_709 gw_710 xv_12 rfl rfl ht3 rfl (Nat.le_of_ble_eq_true rfl) ⟨Nat.le_of_ble_eq_true rfl, Nat.le_of_ble_eq_true rfl, (Nat.le_of_ble_eq_true rfl), (Nat.le_of_ble_eq_true rfl)⟩ dX12_fetch_63 xm_kx (xm_ki (fun r10 S9 h1 => ?_))
      refine x_aload_n C 0 dX12_fetch_66 rfl rfl ?_
      obtain ⟨ht11, h1⟩ := h1
      refine x_getf_r (n := h) C rfl ht11 fd_205 (by decide) dX12_fetch_67 ?_
      refine x_iload_n C 1 dX12_fetch_70 rfl rfl ?_
      obtain ⟨n12, hr13, h1⟩ := h1
      obtain ⟨z15, ht14, h1⟩ := h1
      obtain ⟨hi16, h1⟩ := h1
      refine x_iald (n := n12) C hr13 ht14 hi16 dX12_fetch_71 ?_
      refine x_icmp_ne (tgt := 85) C dX12_fetch_72 (by decide) (fun z9 => ?_) (fun z9 => ?_)
      · have h1 := h1.1 z9
        refine x_aload_n C 0 dX12_fetch_85 rfl rfl ?_
        refine x_getf_r (n := h) C rfl ht11 fd_207 (by decide) dX12_fetch_86 ?_
        refine x_iload C 2 dX12_fetch_89 rfl ?_
        refine x_dup2_ir C dX12_fetch_91 ?_
        obtain ⟨n17, hr18, h1⟩ := h1
        obtain ⟨z20, ht19, h1⟩ := h1
        obtain ⟨hi21, h1⟩ := h1
        refine x_iald (n := n17) C hr18 ht19 hi21 dX12_fetch_92 ?_
        refine x_iconst (v := (1 : Int32)) C dX12_fetch_93 (by decide) ?_
        refine x_iadd C dX12_fetch_94 ?_
        obtain ⟨n22, hr23, h1⟩ := h1
        obtain ⟨z25, ht24, h1⟩ := h1
        obtain ⟨hi26, h1⟩ := h1
        refine x_iast (n := n22) C hr23 ht24 hi26 dX12_fetch_95 ?_
        refine x_topS (fun S27 e28 => ?_)
        have h1 := h1 S27 e28
        exact kp_X12_fetch_96 h x3 x4 S27 C N hg hZ43 h1
      · have h1 := h1.2 z9
        refine x_aload_n C 0 dX12_fetch_75 rfl rfl ?_
        refine x_getf_r (n := h) C rfl ht11 fd_208 (by decide) dX12_fetch_76 ?_
        refine x_iload_n C 1 dX12_fetch_79 rfl rfl ?_
        refine x_iconst (v := (1 : Int32)) C dX12_fetch_80 (by decide) ?_
        obtain ⟨n29, hr30, h1⟩ := h1
        obtain ⟨z32, ht31, h1⟩ := h1
        obtain ⟨hi33, h1⟩ := h1
        refine x_zast (n := n29) C hr30 ht31 hi33 (by decide) dX12_fetch_81 ?_
        refine x_topS (fun S34 e35 => ?_)
        have h1 := h1 S34 e35
        refine x_iload C 2 dX12_fetch_82 rfl ?_
        exact x_iret C (Nat.le_of_ble_eq_true rfl) (Nat.le_of_ble_eq_true rfl) rfl dX12_fetch_84 (hg _ _ h1)
theorem kp_X12_fetch_43 {K : xm_K} (h : Nat) (x3 : Int32) (x4 : Int32) (S : xm_S) {g : Int32 → xm_S → Prop} (C : xm_Cx K cX12_fetch RX12 5 (some (FieldType.int)) rm_X12_fetch) (N : xm_Nx K) (hg : ∀ v S, g v S → xm_q K (some (xm_i v)) S)  (h1 : wp_X12_fetch_43 h x3 x4 S g) : xm_W K 0 0 43 [(0, xm_r (some h)), (3, xm_i x3), (4, xm_i x4)] [] S :=
  h1 (fun x3 x4 S => xm_W K 0 0 43 [(0, xm_r (some h)), (3, xm_i x3), (4, xm_i x4)] [] S) (fun x3 x4 S hb => kp_X12_fetch_43B h x3 x4 S C N hg (fun x3 x4 S hz => hz) hb)
def wp_X12_fetch_15 (h : Nat) (x1 : Int32) (x2 : Int32) (s0 : Int32) (s1 : Option Nat) (S : xm_S) (g : Int32 → xm_S → Prop) : Prop :=
  ∃ n36, s1 = some n36 ∧ st_t S n36 = some (12, 0) ∧ wp_X12_may n36 s0 S (fun r40 S39 => (¬ r40 = 0 → ∀ y41, y41 = (((nI 4) * x1) + x2) → st_t S39 h = some (12, 0) ∧ ∃ n44, (st_r S39 h 42) = some n44 ∧ ∃ z47, st_t S39 n44 = some (101, z47) ∧ vp_in y41 z47 ∧ ((st_i S39 n44 (y41).toNatClampNeg) = 0 → wp_X12_fetch_43 h y41 (0 : Int32) S39 g) ∧ (¬ (st_i S39 n44 (y41).toNatClampNeg) = 0 → g (nI 3) S39)) ∧ (r40 = 0 → g (0 : Int32) S39))
set_option maxRecDepth 100000 in
set_option maxHeartbeats 4000000 in
theorem kp_X12_fetch_15 {K : xm_K} (h : Nat) (x1 : Int32) (x2 : Int32) (s0 : Int32) (s1 : Option Nat) (S : xm_S) {g : Int32 → xm_S → Prop} (C : xm_Cx K cX12_fetch RX12 5 (some (FieldType.int)) rm_X12_fetch) (N : xm_Nx K) (hg : ∀ v S, g v S → xm_q K (some (xm_i v)) S)  (h1 : wp_X12_fetch_15 h x1 x2 s0 s1 S g) : xm_W K 0 0 15 [(0, xm_r (some h)), (1, xm_i x1), (2, xm_i x2)] [xm_i s0, xm_r s1] S := by
  unfold wp_X12_fetch_15 at h1
  obtain ⟨n36, hr37, h1⟩ := h1
  obtain ⟨ht38, h1⟩ := h1
  refine x_callV (rm' := rm_X12_may) (n := n36) C (kp_X12_may_met h1) lk_95 gw_572 gw_573 xv_12 rfl hr37 ht38 rfl (Nat.le_of_ble_eq_true rfl) ⟨Nat.le_of_ble_eq_true rfl, Nat.le_of_ble_eq_true rfl, (Nat.le_of_ble_eq_true rfl), (Nat.le_of_ble_eq_true rfl)⟩ dX12_fetch_15 xm_kx (xm_ki (fun r40 S39 h1 => ?_))
  refine x_if_ne (tgt := 23) C dX12_fetch_18 (by decide) (fun z9 => ?_) (fun z9 => ?_)
  · have h1 := h1.1 z9
    refine x_iconst (v := (nI 4)) C dX12_fetch_23 (by decide) ?_
    refine x_iload_n C 1 dX12_fetch_24 rfl rfl ?_
    refine x_imul C dX12_fetch_25 ?_
    refine x_iload_n C 2 dX12_fetch_26 rfl rfl ?_
    refine x_iadd C dX12_fetch_27 ?_
    refine x_topi (fun y41 e42 => ?_)
    have h1 := h1 y41 e42
    refine x_istore_n (L' := [(3, xm_i y41), (0, xm_r (some h)), (1, xm_i x1), (2, xm_i x2)]) C dX12_fetch_28 rfl (by decide) rfl ?_
    refine x_aload_n C 1 dX12_fetch_29 rfl rfl ?_
    obtain ⟨ht43, h1⟩ := h1
    refine x_getf_r (n := h) C rfl ht43 fd_208 (by decide) dX12_fetch_30 ?_
    refine x_iload_n C 0 dX12_fetch_33 rfl rfl ?_
    obtain ⟨n44, hr45, h1⟩ := h1
    obtain ⟨z47, ht46, h1⟩ := h1
    obtain ⟨hi48, h1⟩ := h1
    refine x_zald (n := n44) C hr45 ht46 hi48 dX12_fetch_34 ?_
    refine x_if_eq (tgt := 40) C dX12_fetch_35 (by decide) (fun z9 => ?_) (fun z9 => ?_)
    · have h1 := h1.1 z9
      refine x_iconst (v := (0 : Int32)) C dX12_fetch_40 (by decide) ?_
      refine x_istore (L' := [(4, xm_i (0 : Int32)), (3, xm_i y41), (0, xm_r (some h)), (1, xm_i x1), (2, xm_i x2)]) C dX12_fetch_41 (by decide) rfl ?_
      refine x_keep (L' := [(0, xm_r (some h)), (3, xm_i y41), (4, xm_i (0 : Int32))]) C [2, 1, 0] rfl ?_
      exact kp_X12_fetch_43 h y41 (0 : Int32) S39 C N hg  h1
    · have h1 := h1.2 z9
      refine x_iconst (v := (nI 3)) C dX12_fetch_38 (by decide) ?_
      exact x_iret C (Nat.le_of_ble_eq_true rfl) (Nat.le_of_ble_eq_true rfl) rfl dX12_fetch_39 (hg _ _ h1)
  · have h1 := h1.2 z9
    refine x_iconst (v := (0 : Int32)) C dX12_fetch_21 (by decide) ?_
    exact x_iret C (Nat.le_of_ble_eq_true rfl) (Nat.le_of_ble_eq_true rfl) rfl dX12_fetch_22 (hg _ _ h1)
def wp_X12_fetch (h : Nat) (x1 : Int32) (x2 : Int32) (S : xm_S) (g : Int32 → xm_S → Prop) : Prop :=
  st_t S h = some (12, 0) ∧ wp_X12_isVersion h x1 x2 S (fun r51 S50 => (r51 = 0 → wp_X12_fetch_15 h x1 x2 (1 : Int32) (some h) S50 g) ∧ (¬ r51 = 0 → wp_X12_fetch_15 h x1 x2 (0 : Int32) (some h) S50 g))
set_option maxRecDepth 100000 in
set_option maxHeartbeats 4000000 in
theorem kp_X12_fetch {K : xm_K} (h : Nat) (x1 : Int32) (x2 : Int32) (S : xm_S) {g : Int32 → xm_S → Prop} (C : xm_Cx K cX12_fetch RX12 5 (some (FieldType.int)) rm_X12_fetch) (N : xm_Nx K) (hg : ∀ v S, g v S → xm_q K (some (xm_i v)) S)  (h1 : wp_X12_fetch h x1 x2 S g) : xm_W K 0 0 0 [(0, xm_r (some h)), (1, xm_i x1), (2, xm_i x2)] [] S := by
  unfold wp_X12_fetch at h1
  refine x_aload_n C 0 dX12_fetch_0 rfl rfl ?_
  refine x_aload_n C 0 dX12_fetch_1 rfl rfl ?_
  refine x_iload_n C 1 dX12_fetch_2 rfl rfl ?_
  refine x_iload_n C 2 dX12_fetch_3 rfl rfl ?_
  obtain ⟨ht49, h1⟩ := h1
  refine x_callV (rm' := rm_X12_isVersion) (n := h) C (kp_X12_isVersion_met h1) lk_119 gw_699 gw_700 xv_12 rfl rfl ht49 rfl (Nat.le_of_ble_eq_true rfl) ⟨Nat.le_of_ble_eq_true rfl, Nat.le_of_ble_eq_true rfl, (Nat.le_of_ble_eq_true rfl), (Nat.le_of_ble_eq_true rfl)⟩ dX12_fetch_4 xm_kx (xm_ki (fun r51 S50 h1 => ?_))
  refine x_if_eq (tgt := 14) C dX12_fetch_7 (by decide) (fun z9 => ?_) (fun z9 => ?_)
  · have h1 := h1.1 z9
    refine x_iconst (v := (1 : Int32)) C dX12_fetch_14 (by decide) ?_
    exact kp_X12_fetch_15 h x1 x2 (1 : Int32) (some h) S50 C N hg  h1
  · have h1 := h1.2 z9
    refine x_iconst (v := (0 : Int32)) C dX12_fetch_10 (by decide) ?_
    refine x_goto (tgt := 15) C dX12_fetch_11 (by decide) ?_
    exact kp_X12_fetch_15 h x1 x2 (0 : Int32) (some h) S50 C N hg  h1
theorem kp_X12_fetch_met {h : Nat} {x1 : Int32} {x2 : Int32} {S : xm_S} {g : Int32 → xm_S → Prop}  (h1 : wp_X12_fetch h x1 x2 S g) : xm_Met yX12_fetch cX12_fetch 5 (some (FieldType.int)) rm_X12_fetch [xm_r (some h), xm_i x1, xm_i x2] S (xm_qi g) xm_nox :=
  xm_ofW RX12 (by decide +kernel) rfl (Nat.le_of_ble_eq_true rfl) (fun K C N hq hx hi => kp_X12_fetch h x1 x2 S C N (fun v S h => by rw [hq]; exact ⟨v, rfl, h⟩)  h1)
def rm_X12_hasFile : Room := { frames := 1, cells := 0, slots := 0, locals := 20 }
theorem dX12_hasFile_0 : decode cX12_hasFile 0 = .ok (.iconst 0, 1) := by decide +kernel
theorem dX12_hasFile_1 : decode cX12_hasFile 1 = .ok (.istore_n 3, 1) := by decide +kernel
theorem dX12_hasFile_2 : decode cX12_hasFile 2 = .ok (.iconst 3, 1) := by decide +kernel
theorem dX12_hasFile_3 : decode cX12_hasFile 3 = .ok (.iload_n 1, 1) := by decide +kernel
theorem dX12_hasFile_4 : decode cX12_hasFile 4 = .ok (.imul, 1) := by decide +kernel
theorem dX12_hasFile_5 : decode cX12_hasFile 5 = .ok (.istore 4, 2) := by decide +kernel
theorem dX12_hasFile_7 : decode cX12_hasFile 7 = .ok (.iload 4, 2) := by decide +kernel
theorem dX12_hasFile_9 : decode cX12_hasFile 9 = .ok (.iconst 3, 1) := by decide +kernel
theorem dX12_hasFile_10 : decode cX12_hasFile 10 = .ok (.iload_n 1, 1) := by decide +kernel
theorem dX12_hasFile_11 : decode cX12_hasFile 11 = .ok (.imul, 1) := by decide +kernel
theorem dX12_hasFile_12 : decode cX12_hasFile 12 = .ok (.aload_n 0, 1) := by decide +kernel
theorem dX12_hasFile_13 : decode cX12_hasFile 13 = .ok (.getfield 130, 3) := by decide +kernel
theorem dX12_hasFile_16 : decode cX12_hasFile 16 = .ok (.iload_n 1, 1) := by decide +kernel
theorem dX12_hasFile_17 : decode cX12_hasFile 17 = .ok (.iaload, 1) := by decide +kernel
theorem dX12_hasFile_18 : decode cX12_hasFile 18 = .ok (.iadd, 1) := by decide +kernel
theorem dX12_hasFile_19 : decode cX12_hasFile 19 = .ok (.if_icmp .ge 30, 3) := by decide +kernel
theorem dX12_hasFile_22 : decode cX12_hasFile 22 = .ok (.iload_n 3, 1) := by decide +kernel
theorem dX12_hasFile_23 : decode cX12_hasFile 23 = .ok (.ifCond .ne 14, 3) := by decide +kernel
theorem dX12_hasFile_26 : decode cX12_hasFile 26 = .ok (.aload_n 0, 1) := by decide +kernel
theorem dX12_hasFile_27 : decode cX12_hasFile 27 = .ok (.getfield 133, 3) := by decide +kernel
theorem dX12_hasFile_30 : decode cX12_hasFile 30 = .ok (.iload 4, 2) := by decide +kernel
theorem dX12_hasFile_32 : decode cX12_hasFile 32 = .ok (.iaload, 1) := by decide +kernel
theorem dX12_hasFile_33 : decode cX12_hasFile 33 = .ok (.iload_n 2, 1) := by decide +kernel
theorem dX12_hasFile_34 : decode cX12_hasFile 34 = .ok (.if_icmp .ne 7, 3) := by decide +kernel
theorem dX12_hasFile_37 : decode cX12_hasFile 37 = .ok (.iconst 1, 1) := by decide +kernel
theorem dX12_hasFile_38 : decode cX12_hasFile 38 = .ok (.goto 4, 3) := by decide +kernel
theorem dX12_hasFile_41 : decode cX12_hasFile 41 = .ok (.iconst 0, 1) := by decide +kernel
theorem dX12_hasFile_42 : decode cX12_hasFile 42 = .ok (.istore_n 3, 1) := by decide +kernel
theorem dX12_hasFile_43 : decode cX12_hasFile 43 = .ok (.iinc 4 1, 3) := by decide +kernel
theorem dX12_hasFile_46 : decode cX12_hasFile 46 = .ok (.goto (-39), 3) := by decide +kernel
theorem dX12_hasFile_49 : decode cX12_hasFile 49 = .ok (.iload_n 3, 1) := by decide +kernel
theorem dX12_hasFile_50 : decode cX12_hasFile 50 = .ok (.ireturn, 1) := by decide +kernel
def wp_X12_hasFile_42 (h : Nat) (x1 : Int32) (x2 : Int32) (x4 : Int32) (s0 : Int32) (S : xm_S) (g : Int32 → xm_S → Prop) (Z7 : Int32 → Int32 → Int32 → Int32 → xm_S → Prop) : Prop :=
  ∀ y1, y1 = (x4 + (1 : Int32)) → Z7 x1 x2 s0 y1 S
set_option maxRecDepth 100000 in
set_option maxHeartbeats 4000000 in
theorem kp_X12_hasFile_42 {K : xm_K} (h : Nat) (x1 : Int32) (x2 : Int32) (x4 : Int32) (s0 : Int32) (S : xm_S) {g : Int32 → xm_S → Prop} {Z7 : Int32 → Int32 → Int32 → Int32 → xm_S → Prop} (C : xm_Cx K cX12_hasFile RX12 5 (some (FieldType.boolean)) rm_X12_hasFile) (N : xm_Nx K) (hg : ∀ v S, g v S → xm_q K (some (xm_i v)) S) (hZ7 : ∀ x1 x2 x3 x4 S, Z7 x1 x2 x3 x4 S → xm_W K 0 0 7 [(0, xm_r (some h)), (1, xm_i x1), (2, xm_i x2), (3, xm_i x3), (4, xm_i x4)] [] S) (h1 : wp_X12_hasFile_42 h x1 x2 x4 s0 S g Z7) : xm_W K 0 0 42 [(0, xm_r (some h)), (1, xm_i x1), (2, xm_i x2), (4, xm_i x4)] [xm_i s0] S := by
  unfold wp_X12_hasFile_42 at h1
  refine x_istore_n (L' := [(3, xm_i s0), (0, xm_r (some h)), (1, xm_i x1), (2, xm_i x2), (4, xm_i x4)]) C dX12_hasFile_42 rfl (by decide) rfl ?_
  obtain ⟨y1, e2⟩ : ∃ y1, y1 = (x4 + (1 : Int32)) := ⟨_, rfl⟩
  have h1 := h1 y1 e2
  refine x_iinc (v := y1) (L' := [(4, xm_i y1), (3, xm_i s0), (0, xm_r (some h)), (1, xm_i x1), (2, xm_i x2)]) C 4 dX12_hasFile_43 rfl (by rw [e2]; rfl) (by decide) rfl ?_
  refine x_goto (tgt := 7) C dX12_hasFile_46 (by decide) ?_
  refine x_keep (L' := [(0, xm_r (some h)), (1, xm_i x1), (2, xm_i x2), (3, xm_i s0), (4, xm_i y1)]) C [2, 3, 4, 1, 0] rfl ?_
  exact hZ7 x1 x2 s0 y1 S h1
def wp_X12_hasFile_37 (h : Nat) (x1 : Int32) (x2 : Int32) (x4 : Int32) (S : xm_S) (g : Int32 → xm_S → Prop) (Z7 : Int32 → Int32 → Int32 → Int32 → xm_S → Prop) : Prop :=
  wp_X12_hasFile_42 h x1 x2 x4 (1 : Int32) S g Z7
set_option maxRecDepth 100000 in
set_option maxHeartbeats 4000000 in
theorem kp_X12_hasFile_37 {K : xm_K} (h : Nat) (x1 : Int32) (x2 : Int32) (x4 : Int32) (S : xm_S) {g : Int32 → xm_S → Prop} {Z7 : Int32 → Int32 → Int32 → Int32 → xm_S → Prop} (C : xm_Cx K cX12_hasFile RX12 5 (some (FieldType.boolean)) rm_X12_hasFile) (N : xm_Nx K) (hg : ∀ v S, g v S → xm_q K (some (xm_i v)) S) (hZ7 : ∀ x1 x2 x3 x4 S, Z7 x1 x2 x3 x4 S → xm_W K 0 0 7 [(0, xm_r (some h)), (1, xm_i x1), (2, xm_i x2), (3, xm_i x3), (4, xm_i x4)] [] S) (h1 : wp_X12_hasFile_37 h x1 x2 x4 S g Z7) : xm_W K 0 0 37 [(0, xm_r (some h)), (1, xm_i x1), (2, xm_i x2), (4, xm_i x4)] [] S := by
  unfold wp_X12_hasFile_37 at h1
  refine x_iconst (v := (1 : Int32)) C dX12_hasFile_37 (by decide) ?_
  refine x_goto (tgt := 42) C dX12_hasFile_38 (by decide) ?_
  exact kp_X12_hasFile_42 h x1 x2 x4 (1 : Int32) S C N hg hZ7 h1
def wp_X12_hasFile_7B (h : Nat) (x1 : Int32) (x2 : Int32) (x3 : Int32) (x4 : Int32) (S : xm_S) (g : Int32 → xm_S → Prop) (Z7 : Int32 → Int32 → Int32 → Int32 → xm_S → Prop) : Prop :=
  st_t S h = some (12, 0) ∧ ∃ n4, (st_r S h 44) = some n4 ∧ ∃ z7, st_t S n4 = some (100, z7) ∧ vp_in x1 z7 ∧ ((((nI 3) * x1) + (st_i S n4 (x1).toNatClampNeg)) ≤ x4 → (x3 = 0 ∨ x3 = 1) ∧ g x3 S) ∧ (¬ (((nI 3) * x1) + (st_i S n4 (x1).toNatClampNeg)) ≤ x4 → (¬ x3 = 0 → wp_X12_hasFile_37 h x1 x2 x4 S g Z7) ∧ (x3 = 0 → ∃ n9, (st_r S h 45) = some n9 ∧ ∃ z12, st_t S n9 = some (100, z12) ∧ vp_in x4 z12 ∧ (¬ (st_i S n9 (x4).toNatClampNeg) = x2 → wp_X12_hasFile_42 h x1 x2 x4 (0 : Int32) S g Z7) ∧ ((st_i S n9 (x4).toNatClampNeg) = x2 → wp_X12_hasFile_37 h x1 x2 x4 S g Z7)))
def wp_X12_hasFile_7 (h : Nat) (x1 : Int32) (x2 : Int32) (x3 : Int32) (x4 : Int32) (S : xm_S) (g : Int32 → xm_S → Prop) : Prop :=
  ∀ Z7 : Int32 → Int32 → Int32 → Int32 → xm_S → Prop, (∀ x1 x2 x3 x4 S, wp_X12_hasFile_7B h x1 x2 x3 x4 S g Z7 → Z7 x1 x2 x3 x4 S) → Z7 x1 x2 x3 x4 S
set_option maxRecDepth 100000 in
set_option maxHeartbeats 4000000 in
theorem kp_X12_hasFile_7B {K : xm_K} (h : Nat) (x1 : Int32) (x2 : Int32) (x3 : Int32) (x4 : Int32) (S : xm_S) {g : Int32 → xm_S → Prop} {Z7 : Int32 → Int32 → Int32 → Int32 → xm_S → Prop} (C : xm_Cx K cX12_hasFile RX12 5 (some (FieldType.boolean)) rm_X12_hasFile) (N : xm_Nx K) (hg : ∀ v S, g v S → xm_q K (some (xm_i v)) S) (hZ7 : ∀ x1 x2 x3 x4 S, Z7 x1 x2 x3 x4 S → xm_W K 0 0 7 [(0, xm_r (some h)), (1, xm_i x1), (2, xm_i x2), (3, xm_i x3), (4, xm_i x4)] [] S) (h1 : wp_X12_hasFile_7B h x1 x2 x3 x4 S g Z7) : xm_W K 0 0 7 [(0, xm_r (some h)), (1, xm_i x1), (2, xm_i x2), (3, xm_i x3), (4, xm_i x4)] [] S := by
  unfold wp_X12_hasFile_7B at h1
  refine x_iload C 4 dX12_hasFile_7 rfl ?_
  refine x_iconst (v := (nI 3)) C dX12_hasFile_9 (by decide) ?_
  refine x_iload_n C 1 dX12_hasFile_10 rfl rfl ?_
  refine x_imul C dX12_hasFile_11 ?_
  refine x_aload_n C 0 dX12_hasFile_12 rfl rfl ?_
  obtain ⟨ht3, h1⟩ := h1
  refine x_getf_r (n := h) C rfl ht3 fd_209 (by decide) dX12_hasFile_13 ?_
  refine x_iload_n C 1 dX12_hasFile_16 rfl rfl ?_
  obtain ⟨n4, hr5, h1⟩ := h1
  obtain ⟨z7, ht6, h1⟩ := h1
  obtain ⟨hi8, h1⟩ := h1
  refine x_iald (n := n4) C hr5 ht6 hi8 dX12_hasFile_17 ?_
  refine x_iadd C dX12_hasFile_18 ?_
  refine x_icmp_ge (tgt := 49) C dX12_hasFile_19 (by decide) (fun z9 => ?_) (fun z9 => ?_)
  · have h1 := h1.1 z9
    refine x_iload_n C 3 dX12_hasFile_49 rfl rfl ?_
    exact x_zret C (Nat.le_of_ble_eq_true rfl) (Nat.le_of_ble_eq_true rfl) rfl h1.1 dX12_hasFile_50 (hg _ _ h1.2)
  · have h1 := h1.2 z9
    refine x_iload_n C 3 dX12_hasFile_22 rfl rfl ?_
    refine x_if_ne (tgt := 37) C dX12_hasFile_23 (by decide) (fun z9 => ?_) (fun z9 => ?_)
    · have h1 := h1.1 z9
      refine x_keep (L' := [(0, xm_r (some h)), (1, xm_i x1), (2, xm_i x2), (4, xm_i x4)]) C [0, 1, 2, 4] rfl ?_
      exact kp_X12_hasFile_37 h x1 x2 x4 S C N hg hZ7 h1
    · have h1 := h1.2 z9
      refine x_aload_n C 0 dX12_hasFile_26 rfl rfl ?_
      refine x_getf_r (n := h) C rfl ht3 fd_210 (by decide) dX12_hasFile_27 ?_
      refine x_iload C 4 dX12_hasFile_30 rfl ?_
      obtain ⟨n9, hr10, h1⟩ := h1
      obtain ⟨z12, ht11, h1⟩ := h1
      obtain ⟨hi13, h1⟩ := h1
      refine x_iald (n := n9) C hr10 ht11 hi13 dX12_hasFile_32 ?_
      refine x_iload_n C 2 dX12_hasFile_33 rfl rfl ?_
      refine x_icmp_ne (tgt := 41) C dX12_hasFile_34 (by decide) (fun z9 => ?_) (fun z9 => ?_)
      · have h1 := h1.1 z9
        refine x_iconst (v := (0 : Int32)) C dX12_hasFile_41 (by decide) ?_
        refine x_keep (L' := [(0, xm_r (some h)), (1, xm_i x1), (2, xm_i x2), (4, xm_i x4)]) C [0, 1, 2, 4] rfl ?_
        exact kp_X12_hasFile_42 h x1 x2 x4 (0 : Int32) S C N hg hZ7 h1
      · have h1 := h1.2 z9
        refine x_keep (L' := [(0, xm_r (some h)), (1, xm_i x1), (2, xm_i x2), (4, xm_i x4)]) C [0, 1, 2, 4] rfl ?_
        exact kp_X12_hasFile_37 h x1 x2 x4 S C N hg hZ7 h1
theorem kp_X12_hasFile_7 {K : xm_K} (h : Nat) (x1 : Int32) (x2 : Int32) (x3 : Int32) (x4 : Int32) (S : xm_S) {g : Int32 → xm_S → Prop} (C : xm_Cx K cX12_hasFile RX12 5 (some (FieldType.boolean)) rm_X12_hasFile) (N : xm_Nx K) (hg : ∀ v S, g v S → xm_q K (some (xm_i v)) S)  (h1 : wp_X12_hasFile_7 h x1 x2 x3 x4 S g) : xm_W K 0 0 7 [(0, xm_r (some h)), (1, xm_i x1), (2, xm_i x2), (3, xm_i x3), (4, xm_i x4)] [] S :=
  h1 (fun x1 x2 x3 x4 S => xm_W K 0 0 7 [(0, xm_r (some h)), (1, xm_i x1), (2, xm_i x2), (3, xm_i x3), (4, xm_i x4)] [] S) (fun x1 x2 x3 x4 S hb => kp_X12_hasFile_7B h x1 x2 x3 x4 S C N hg (fun x1 x2 x3 x4 S hz => hz) hb)
def wp_X12_hasFile (h : Nat) (x1 : Int32) (x2 : Int32) (S : xm_S) (g : Int32 → xm_S → Prop) : Prop :=
  ∀ y14, y14 = ((nI 3) * x1) → wp_X12_hasFile_7 h x1 x2 (0 : Int32) y14 S g
set_option maxRecDepth 100000 in
set_option maxHeartbeats 4000000 in
theorem kp_X12_hasFile {K : xm_K} (h : Nat) (x1 : Int32) (x2 : Int32) (S : xm_S) {g : Int32 → xm_S → Prop} (C : xm_Cx K cX12_hasFile RX12 5 (some (FieldType.boolean)) rm_X12_hasFile) (N : xm_Nx K) (hg : ∀ v S, g v S → xm_q K (some (xm_i v)) S)  (h1 : wp_X12_hasFile h x1 x2 S g) : xm_W K 0 0 0 [(0, xm_r (some h)), (1, xm_i x1), (2, xm_i x2)] [] S := by
  unfold wp_X12_hasFile at h1
  refine x_iconst (v := (0 : Int32)) C dX12_hasFile_0 (by decide) ?_
  refine x_istore_n (L' := [(3, xm_i (0 : Int32)), (0, xm_r (some h)), (1, xm_i x1), (2, xm_i x2)]) C dX12_hasFile_1 rfl (by decide) rfl ?_
  refine x_iconst (v := (nI 3)) C dX12_hasFile_2 (by decide) ?_
  refine x_iload_n C 2 dX12_hasFile_3 rfl rfl ?_
  refine x_imul C dX12_hasFile_4 ?_
  refine x_topi (fun y14 e15 => ?_)
  have h1 := h1 y14 e15
  refine x_istore (L' := [(4, xm_i y14), (3, xm_i (0 : Int32)), (0, xm_r (some h)), (1, xm_i x1), (2, xm_i x2)]) C dX12_hasFile_5 (by decide) rfl ?_
  refine x_keep (L' := [(0, xm_r (some h)), (1, xm_i x1), (2, xm_i x2), (3, xm_i (0 : Int32)), (4, xm_i y14)]) C [2, 3, 4, 1, 0] rfl ?_
  exact kp_X12_hasFile_7 h x1 x2 (0 : Int32) y14 S C N hg  h1
theorem kp_X12_hasFile_met {h : Nat} {x1 : Int32} {x2 : Int32} {S : xm_S} {g : Int32 → xm_S → Prop}  (h1 : wp_X12_hasFile h x1 x2 S g) : xm_Met yX12_hasFile cX12_hasFile 5 (some (FieldType.boolean)) rm_X12_hasFile [xm_r (some h), xm_i x1, xm_i x2] S (xm_qi g) xm_nox :=
  xm_ofW RX12 (by decide +kernel) rfl (Nat.le_of_ble_eq_true rfl) (fun K C N hq hx hi => kp_X12_hasFile h x1 x2 S C N (fun v S h => by rw [hq]; exact ⟨v, rfl, h⟩)  h1)
