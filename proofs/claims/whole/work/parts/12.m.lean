def rm_X7_part : Room := { frames := 2, cells := 0, slots := 0, locals := 41 }
theorem dX7_part_0 : decode cX7_part 0 = .ok (.aload_n 0, 1) := by decide +kernel
theorem dX7_part_1 : decode cX7_part 1 = .ok (.getfield 26, 3) := by decide +kernel
theorem dX7_part_4 : decode cX7_part 4 = .ok (.iload_n 1, 1) := by decide +kernel
theorem dX7_part_5 : decode cX7_part 5 = .ok (.iconst 4, 1) := by decide +kernel
theorem dX7_part_6 : decode cX7_part 6 = .ok (.imul, 1) := by decide +kernel
theorem dX7_part_7 : decode cX7_part 7 = .ok (.iload_n 2, 1) := by decide +kernel
theorem dX7_part_8 : decode cX7_part 8 = .ok (.iadd, 1) := by decide +kernel
theorem dX7_part_9 : decode cX7_part 9 = .ok (.dup2, 1) := by decide +kernel
theorem dX7_part_10 : decode cX7_part 10 = .ok (.iaload, 1) := by decide +kernel
theorem dX7_part_11 : decode cX7_part 11 = .ok (.iload_n 3, 1) := by decide +kernel
theorem dX7_part_12 : decode cX7_part 12 = .ok (.ior, 1) := by decide +kernel
theorem dX7_part_13 : decode cX7_part 13 = .ok (.iastore, 1) := by decide +kernel
theorem dX7_part_14 : decode cX7_part 14 = .ok (.iconst 0, 1) := by decide +kernel
theorem dX7_part_15 : decode cX7_part 15 = .ok (.istore 4, 2) := by decide +kernel
theorem dX7_part_17 : decode cX7_part 17 = .ok (.iload 4, 2) := by decide +kernel
theorem dX7_part_19 : decode cX7_part 19 = .ok (.bipush 24, 2) := by decide +kernel
theorem dX7_part_21 : decode cX7_part 21 = .ok (.if_icmp .ge 33, 3) := by decide +kernel
theorem dX7_part_24 : decode cX7_part 24 = .ok (.iload_n 3, 1) := by decide +kernel
theorem dX7_part_25 : decode cX7_part 25 = .ok (.iload 4, 2) := by decide +kernel
theorem dX7_part_27 : decode cX7_part 27 = .ok (.ishr, 1) := by decide +kernel
theorem dX7_part_28 : decode cX7_part 28 = .ok (.iconst 1, 1) := by decide +kernel
theorem dX7_part_29 : decode cX7_part 29 = .ok (.iand, 1) := by decide +kernel
theorem dX7_part_30 : decode cX7_part 30 = .ok (.ifCond .eq 18, 3) := by decide +kernel
theorem dX7_part_33 : decode cX7_part 33 = .ok (.aload_n 0, 1) := by decide +kernel
theorem dX7_part_34 : decode cX7_part 34 = .ok (.getfield 26, 3) := by decide +kernel
theorem dX7_part_37 : decode cX7_part 37 = .ok (.iload 4, 2) := by decide +kernel
theorem dX7_part_39 : decode cX7_part 39 = .ok (.dup2, 1) := by decide +kernel
theorem dX7_part_40 : decode cX7_part 40 = .ok (.iaload, 1) := by decide +kernel
theorem dX7_part_41 : decode cX7_part 41 = .ok (.iload_n 1, 1) := by decide +kernel
theorem dX7_part_42 : decode cX7_part 42 = .ok (.iload_n 2, 1) := by decide +kernel
theorem dX7_part_43 : decode cX7_part 43 = .ok (.invokestatic 109, 3) := by decide +kernel
theorem dX7_part_46 : decode cX7_part 46 = .ok (.ior, 1) := by decide +kernel
theorem dX7_part_47 : decode cX7_part 47 = .ok (.iastore, 1) := by decide +kernel
theorem dX7_part_48 : decode cX7_part 48 = .ok (.iinc 4 1, 3) := by decide +kernel
theorem dX7_part_51 : decode cX7_part 51 = .ok (.goto (-34), 3) := by decide +kernel
theorem dX7_part_54 : decode cX7_part 54 = .ok (.return_, 1) := by decide +kernel
def wp_X7_part_48 (h : Nat) (x1 : Int32) (x2 : Int32) (x3 : Int32) (x4 : Int32) (S : xm_S) (g : xm_S → Prop) (Z17 : Int32 → Int32 → Int32 → Int32 → xm_S → Prop) : Prop :=
  ∀ y1, y1 = (x4 + (1 : Int32)) → Z17 x1 x2 x3 y1 S
set_option maxRecDepth 100000 in
set_option maxHeartbeats 4000000 in
theorem kp_X7_part_48 {K : xm_K} (h : Nat) (x1 : Int32) (x2 : Int32) (x3 : Int32) (x4 : Int32) (S : xm_S) {g : xm_S → Prop} {Z17 : Int32 → Int32 → Int32 → Int32 → xm_S → Prop} (C : xm_Cx K cX7_part RX7 5 none rm_X7_part) (N : xm_Nx K) (hg : ∀ S, g S → xm_q K none S) (hZ17 : ∀ x1 x2 x3 x4 S, Z17 x1 x2 x3 x4 S → xm_W K 0 0 17 [(0, xm_r (some h)), (1, xm_i x1), (2, xm_i x2), (3, xm_i x3), (4, xm_i x4)] [] S) (h1 : wp_X7_part_48 h x1 x2 x3 x4 S g Z17) : xm_W K 0 0 48 [(0, xm_r (some h)), (1, xm_i x1), (2, xm_i x2), (3, xm_i x3), (4, xm_i x4)] [] S := by
  unfold wp_X7_part_48 at h1
  obtain ⟨y1, e2⟩ : ∃ y1, y1 = (x4 + (1 : Int32)) := ⟨_, rfl⟩
  have h1 := h1 y1 e2
  refine x_iinc (v := y1) (L' := [(4, xm_i y1), (0, xm_r (some h)), (1, xm_i x1), (2, xm_i x2), (3, xm_i x3)]) C 4 dX7_part_48 rfl (by rw [e2]; rfl) (by decide) rfl ?_
  refine x_goto (tgt := 17) C dX7_part_51 (by decide) ?_
  refine x_keep (L' := [(0, xm_r (some h)), (1, xm_i x1), (2, xm_i x2), (3, xm_i x3), (4, xm_i y1)]) C [1, 2, 3, 4, 0] rfl ?_
  exact hZ17 x1 x2 x3 y1 S h1
def wp_X7_part_17B (h : Nat) (x1 : Int32) (x2 : Int32) (x3 : Int32) (x4 : Int32) (S : xm_S) (g : xm_S → Prop) (Z17 : Int32 → Int32 → Int32 → Int32 → xm_S → Prop) : Prop :=
  ((nI 24) ≤ x4 → g S) ∧ (¬ (nI 24) ≤ x4 → (((x3 >>> (x4 &&& 31)) &&& (1 : Int32)) = 0 → wp_X7_part_48 h x1 x2 x3 x4 S g Z17) ∧ (¬ ((x3 >>> (x4 &&& 31)) &&& (1 : Int32)) = 0 → st_t S h = some (7, 0) ∧ ∃ n4, (st_r S h 4) = some n4 ∧ ∃ z7, st_t S n4 = some (100, z7) ∧ vp_in x4 z7 ∧ wp_X7_bitOf x1 x2 S (fun r10 S9 => ∃ n11, (st_r S h 4) = some n11 ∧ ∃ z14, st_t S9 n11 = some (100, z14) ∧ vp_in x4 z14 ∧ ∀ S16, S16 = st_pi S9 n11 (x4).toNatClampNeg ((st_i S n4 (x4).toNatClampNeg) ||| r10) → wp_X7_part_48 h x1 x2 x3 x4 S16 g Z17)))
def wp_X7_part_17 (h : Nat) (x1 : Int32) (x2 : Int32) (x3 : Int32) (x4 : Int32) (S : xm_S) (g : xm_S → Prop) : Prop :=
  ∀ Z17 : Int32 → Int32 → Int32 → Int32 → xm_S → Prop, (∀ x1 x2 x3 x4 S, wp_X7_part_17B h x1 x2 x3 x4 S g Z17 → Z17 x1 x2 x3 x4 S) → Z17 x1 x2 x3 x4 S
set_option maxRecDepth 100000 in
set_option maxHeartbeats 4000000 in
theorem kp_X7_part_17B {K : xm_K} (h : Nat) (x1 : Int32) (x2 : Int32) (x3 : Int32) (x4 : Int32) (S : xm_S) {g : xm_S → Prop} {Z17 : Int32 → Int32 → Int32 → Int32 → xm_S → Prop} (C : xm_Cx K cX7_part RX7 5 none rm_X7_part) (N : xm_Nx K) (hg : ∀ S, g S → xm_q K none S) (hZ17 : ∀ x1 x2 x3 x4 S, Z17 x1 x2 x3 x4 S → xm_W K 0 0 17 [(0, xm_r (some h)), (1, xm_i x1), (2, xm_i x2), (3, xm_i x3), (4, xm_i x4)] [] S) (h1 : wp_X7_part_17B h x1 x2 x3 x4 S g Z17) : xm_W K 0 0 17 [(0, xm_r (some h)), (1, xm_i x1), (2, xm_i x2), (3, xm_i x3), (4, xm_i x4)] [] S := by
  unfold wp_X7_part_17B at h1
  refine x_iload C 4 dX7_part_17 rfl ?_
  refine x_bipush (v := (nI 24)) C dX7_part_19 (by decide) ?_
  refine x_icmp_ge (tgt := 54) C dX7_part_21 (by decide) (fun z9 => ?_) (fun z9 => ?_)
  · have h1 := h1.1 z9
    exact x_vret C (Nat.le_of_ble_eq_true rfl) (Nat.le_of_ble_eq_true rfl) rfl dX7_part_54 (hg _ h1)
  · have h1 := h1.2 z9
    refine x_iload_n C 3 dX7_part_24 rfl rfl ?_
    refine x_iload C 4 dX7_part_25 rfl ?_
    refine x_ishr C dX7_part_27 ?_
    refine x_iconst (v := (1 : Int32)) C dX7_part_28 (by decide) ?_
    refine x_iand C dX7_part_29 ?_
    refine x_if_eq (tgt := 48) C dX7_part_30 (by decide) (fun z9 => ?_) (fun z9 => ?_)
    · have h1 := h1.1 z9
      exact kp_X7_part_48 h x1 x2 x3 x4 S C N hg hZ17 h1
    · have h1 := h1.2 z9
      refine x_aload_n C 0 dX7_part_33 rfl rfl ?_
      obtain ⟨ht3, h1⟩ := h1
      refine x_getf_r (n := h) C rfl ht3 fd_68 (by decide) dX7_part_34 ?_
      refine x_iload C 4 dX7_part_37 rfl ?_
      refine x_dup2_ir C dX7_part_39 ?_
      obtain ⟨n4, hr5, h1⟩ := h1
      obtain ⟨z7, ht6, h1⟩ := h1
      obtain ⟨hi8, h1⟩ := h1
      refine x_iald (n := n4) C hr5 ht6 hi8 dX7_part_40 ?_
      refine x_iload_n C 1 dX7_part_41 rfl rfl ?_
      refine x_iload_n C 2 dX7_part_42 rfl rfl ?_
      refine x_callS (rm' := rm_X7_bitOf) C (kp_X7_bitOf_met h1) lk_14 gw_129 rfl (Nat.le_of_ble_eq_true rfl) ⟨Nat.le_of_ble_eq_true rfl, Nat.le_of_ble_eq_true rfl, (Nat.le_of_ble_eq_true rfl), (Nat.le_of_ble_eq_true rfl)⟩ dX7_part_43 xm_kx (xm_ki (fun r10 S9 h1 => ?_))
      refine x_ior C dX7_part_46 ?_
      obtain ⟨n11, hr12, h1⟩ := h1
      obtain ⟨z14, ht13, h1⟩ := h1
      obtain ⟨hi15, h1⟩ := h1
      refine x_iast (n := n11) C hr12 ht13 hi15 dX7_part_47 ?_
      refine x_topS (fun S16 e17 => ?_)
      have h1 := h1 S16 e17
      exact kp_X7_part_48 h x1 x2 x3 x4 S16 C N hg hZ17 h1
theorem kp_X7_part_17 {K : xm_K} (h : Nat) (x1 : Int32) (x2 : Int32) (x3 : Int32) (x4 : Int32) (S : xm_S) {g : xm_S → Prop} (C : xm_Cx K cX7_part RX7 5 none rm_X7_part) (N : xm_Nx K) (hg : ∀ S, g S → xm_q K none S)  (h1 : wp_X7_part_17 h x1 x2 x3 x4 S g) : xm_W K 0 0 17 [(0, xm_r (some h)), (1, xm_i x1), (2, xm_i x2), (3, xm_i x3), (4, xm_i x4)] [] S :=
  h1 (fun x1 x2 x3 x4 S => xm_W K 0 0 17 [(0, xm_r (some h)), (1, xm_i x1), (2, xm_i x2), (3, xm_i x3), (4, xm_i x4)] [] S) (fun x1 x2 x3 x4 S hb => kp_X7_part_17B h x1 x2 x3 x4 S C N hg (fun x1 x2 x3 x4 S hz => hz) hb)
def wp_X7_part (h : Nat) (x1 : Int32) (x2 : Int32) (x3 : Int32) (S : xm_S) (g : xm_S → Prop) : Prop :=
  st_t S h = some (7, 0) ∧ ∃ n19, (st_r S h 4) = some n19 ∧ ∃ z22, st_t S n19 = some (100, z22) ∧ vp_in ((x1 * (nI 4)) + x2) z22 ∧ ∃ n24, (st_r S h 4) = some n24 ∧ ∃ z27, st_t S n24 = some (100, z27) ∧ vp_in ((x1 * (nI 4)) + x2) z27 ∧ ∀ S29, S29 = st_pi S n24 (((x1 * (nI 4)) + x2)).toNatClampNeg ((st_i S n19 (((x1 * (nI 4)) + x2)).toNatClampNeg) ||| x3) → wp_X7_part_17 h x1 x2 x3 (0 : Int32) S29 g
set_option maxRecDepth 100000 in
set_option maxHeartbeats 4000000 in
theorem kp_X7_part {K : xm_K} (h : Nat) (x1 : Int32) (x2 : Int32) (x3 : Int32) (S : xm_S) {g : xm_S → Prop} (C : xm_Cx K cX7_part RX7 5 none rm_X7_part) (N : xm_Nx K) (hg : ∀ S, g S → xm_q K none S)  (h1 : wp_X7_part h x1 x2 x3 S g) : xm_W K 0 0 0 [(0, xm_r (some h)), (1, xm_i x1), (2, xm_i x2), (3, xm_i x3)] [] S := by
  unfold wp_X7_part at h1
  refine x_aload_n C 0 dX7_part_0 rfl rfl ?_
  obtain ⟨ht18, h1⟩ := h1
  refine x_getf_r (n := h) C rfl ht18 fd_68 (by decide) dX7_part_1 ?_
  refine x_iload_n C 1 dX7_part_4 rfl rfl ?_
  refine x_iconst (v := (nI 4)) C dX7_part_5 (by decide) ?_
  refine x_imul C dX7_part_6 ?_
  refine x_iload_n C 2 dX7_part_7 rfl rfl ?_
  refine x_iadd C dX7_part_8 ?_
  refine x_dup2_ir C dX7_part_9 ?_
  obtain ⟨n19, hr20, h1⟩ := h1
  obtain ⟨z22, ht21, h1⟩ := h1
  obtain ⟨hi23, h1⟩ := h1
  refine x_iald (n := n19) C hr20 ht21 hi23 dX7_part_10 ?_
  refine x_iload_n C 3 dX7_part_11 rfl rfl ?_
  refine x_ior C dX7_part_12 ?_
  obtain ⟨n24, hr25, h1⟩ := h1
  obtain ⟨z27, ht26, h1⟩ := h1
  obtain ⟨hi28, h1⟩ := h1
  refine x_iast (n := n24) C hr25 ht26 hi28 dX7_part_13 ?_
  refine x_topS (fun S29 e30 => ?_)
  have h1 := h1 S29 e30
  refine x_iconst (v := (0 : Int32)) C dX7_part_14 (by decide) ?_
  refine x_istore (L' := [(4, xm_i (0 : Int32)), (0, xm_r (some h)), (1, xm_i x1), (2, xm_i x2), (3, xm_i x3)]) C dX7_part_15 (by decide) rfl ?_
  refine x_keep (L' := [(0, xm_r (some h)), (1, xm_i x1), (2, xm_i x2), (3, xm_i x3), (4, xm_i (0 : Int32))]) C [1, 2, 3, 4, 0] rfl ?_
  exact kp_X7_part_17 h x1 x2 x3 (0 : Int32) S29 C N hg  h1
theorem kp_X7_part_met {h : Nat} {x1 : Int32} {x2 : Int32} {x3 : Int32} {S : xm_S} {g : xm_S → Prop}  (h1 : wp_X7_part h x1 x2 x3 S g) : xm_Met yX7_part cX7_part 5 none rm_X7_part [xm_r (some h), xm_i x1, xm_i x2, xm_i x3] S (xm_qv g) xm_nox :=
  xm_ofW RX7 (by decide +kernel) rfl (Nat.le_of_ble_eq_true rfl) (fun K C N hq hx hi => kp_X7_part h x1 x2 x3 S C N (fun S h => by rw [hq]; exact ⟨rfl, h⟩)  h1)
def rm_X7_permit : Room := { frames := 2, cells := 0, slots := 0, locals := 41 }
theorem dX7_permit_0 : decode cX7_permit 0 = .ok (.aload_n 0, 1) := by decide +kernel
theorem dX7_permit_1 : decode cX7_permit 1 = .ok (.iconst 0, 1) := by decide +kernel
theorem dX7_permit_2 : decode cX7_permit 2 = .ok (.putfield 33, 3) := by decide +kernel
theorem dX7_permit_5 : decode cX7_permit 5 = .ok (.iconst 0, 1) := by decide +kernel
theorem dX7_permit_6 : decode cX7_permit 6 = .ok (.istore 4, 2) := by decide +kernel
theorem dX7_permit_8 : decode cX7_permit 8 = .ok (.iload 4, 2) := by decide +kernel
theorem dX7_permit_10 : decode cX7_permit 10 = .ok (.bipush 6, 2) := by decide +kernel
theorem dX7_permit_12 : decode cX7_permit 12 = .ok (.if_icmp .ge 132, 3) := by decide +kernel
theorem dX7_permit_15 : decode cX7_permit 15 = .ok (.aload_n 0, 1) := by decide +kernel
theorem dX7_permit_16 : decode cX7_permit 16 = .ok (.getfield 30, 3) := by decide +kernel
theorem dX7_permit_19 : decode cX7_permit 19 = .ok (.iload 4, 2) := by decide +kernel
theorem dX7_permit_21 : decode cX7_permit 21 = .ok (.iload_n 3, 1) := by decide +kernel
theorem dX7_permit_22 : decode cX7_permit 22 = .ok (.iload 4, 2) := by decide +kernel
theorem dX7_permit_24 : decode cX7_permit 24 = .ok (.ishr, 1) := by decide +kernel
theorem dX7_permit_25 : decode cX7_permit 25 = .ok (.iconst 1, 1) := by decide +kernel
theorem dX7_permit_26 : decode cX7_permit 26 = .ok (.iand, 1) := by decide +kernel
theorem dX7_permit_27 : decode cX7_permit 27 = .ok (.ifCond .eq 7, 3) := by decide +kernel
theorem dX7_permit_30 : decode cX7_permit 30 = .ok (.iconst (-1), 1) := by decide +kernel
theorem dX7_permit_31 : decode cX7_permit 31 = .ok (.goto 7, 3) := by decide +kernel
theorem dX7_permit_34 : decode cX7_permit 34 = .ok (.aload_n 2, 1) := by decide +kernel
theorem dX7_permit_35 : decode cX7_permit 35 = .ok (.iload 4, 2) := by decide +kernel
theorem dX7_permit_37 : decode cX7_permit 37 = .ok (.iaload, 1) := by decide +kernel
theorem dX7_permit_38 : decode cX7_permit 38 = .ok (.iastore, 1) := by decide +kernel
theorem dX7_permit_39 : decode cX7_permit 39 = .ok (.iconst 0, 1) := by decide +kernel
theorem dX7_permit_40 : decode cX7_permit 40 = .ok (.istore 5, 2) := by decide +kernel
theorem dX7_permit_42 : decode cX7_permit 42 = .ok (.iload 5, 2) := by decide +kernel
theorem dX7_permit_44 : decode cX7_permit 44 = .ok (.aload_n 0, 1) := by decide +kernel
theorem dX7_permit_45 : decode cX7_permit 45 = .ok (.getfield 9, 3) := by decide +kernel
theorem dX7_permit_48 : decode cX7_permit 48 = .ok (.iload 4, 2) := by decide +kernel
theorem dX7_permit_50 : decode cX7_permit 50 = .ok (.aaload, 1) := by decide +kernel
theorem dX7_permit_51 : decode cX7_permit 51 = .ok (.getfield 78, 3) := by decide +kernel
theorem dX7_permit_54 : decode cX7_permit 54 = .ok (.if_icmp .ge 84, 3) := by decide +kernel
theorem dX7_permit_57 : decode cX7_permit 57 = .ok (.aload_n 0, 1) := by decide +kernel
theorem dX7_permit_58 : decode cX7_permit 58 = .ok (.getfield 9, 3) := by decide +kernel
theorem dX7_permit_61 : decode cX7_permit 61 = .ok (.iload 4, 2) := by decide +kernel
theorem dX7_permit_63 : decode cX7_permit 63 = .ok (.aaload, 1) := by decide +kernel
theorem dX7_permit_64 : decode cX7_permit 64 = .ok (.getfield 83, 3) := by decide +kernel
theorem dX7_permit_67 : decode cX7_permit 67 = .ok (.iload 5, 2) := by decide +kernel
theorem dX7_permit_69 : decode cX7_permit 69 = .ok (.aaload, 1) := by decide +kernel
theorem dX7_permit_70 : decode cX7_permit 70 = .ok (.astore 6, 2) := by decide +kernel
theorem dX7_permit_72 : decode cX7_permit 72 = .ok (.iload_n 1, 1) := by decide +kernel
theorem dX7_permit_73 : decode cX7_permit 73 = .ok (.aload 6, 2) := by decide +kernel
theorem dX7_permit_75 : decode cX7_permit 75 = .ok (.getfield 140, 3) := by decide +kernel
theorem dX7_permit_78 : decode cX7_permit 78 = .ok (.ishr, 1) := by decide +kernel
theorem dX7_permit_79 : decode cX7_permit 79 = .ok (.iconst 1, 1) := by decide +kernel
theorem dX7_permit_80 : decode cX7_permit 80 = .ok (.iand, 1) := by decide +kernel
theorem dX7_permit_81 : decode cX7_permit 81 = .ok (.ifCond .eq 7, 3) := by decide +kernel
theorem dX7_permit_84 : decode cX7_permit 84 = .ok (.iconst 1, 1) := by decide +kernel
theorem dX7_permit_85 : decode cX7_permit 85 = .ok (.goto 4, 3) := by decide +kernel
theorem dX7_permit_88 : decode cX7_permit 88 = .ok (.iconst 0, 1) := by decide +kernel
theorem dX7_permit_89 : decode cX7_permit 89 = .ok (.istore 7, 2) := by decide +kernel
theorem dX7_permit_91 : decode cX7_permit 91 = .ok (.iload 7, 2) := by decide +kernel
theorem dX7_permit_93 : decode cX7_permit 93 = .ok (.ifCond .eq 39, 3) := by decide +kernel
theorem dX7_permit_96 : decode cX7_permit 96 = .ok (.aload 6, 2) := by decide +kernel
theorem dX7_permit_98 : decode cX7_permit 98 = .ok (.getfield 143, 3) := by decide +kernel
theorem dX7_permit_101 : decode cX7_permit 101 = .ok (.ifCond .eq 15, 3) := by decide +kernel
theorem dX7_permit_104 : decode cX7_permit 104 = .ok (.aload_n 0, 1) := by decide +kernel
theorem dX7_permit_105 : decode cX7_permit 105 = .ok (.getfield 30, 3) := by decide +kernel
theorem dX7_permit_108 : decode cX7_permit 108 = .ok (.iload 4, 2) := by decide +kernel
theorem dX7_permit_110 : decode cX7_permit 110 = .ok (.iaload, 1) := by decide +kernel
theorem dX7_permit_111 : decode cX7_permit 111 = .ok (.iload 5, 2) := by decide +kernel
theorem dX7_permit_113 : decode cX7_permit 113 = .ok (.if_icmp .ne 19, 3) := by decide +kernel
theorem dX7_permit_116 : decode cX7_permit 116 = .ok (.aload_n 0, 1) := by decide +kernel
theorem dX7_permit_117 : decode cX7_permit 117 = .ok (.dup, 1) := by decide +kernel
theorem dX7_permit_118 : decode cX7_permit 118 = .ok (.getfield 33, 3) := by decide +kernel
theorem dX7_permit_121 : decode cX7_permit 121 = .ok (.iload 4, 2) := by decide +kernel
theorem dX7_permit_123 : decode cX7_permit 123 = .ok (.iload 5, 2) := by decide +kernel
theorem dX7_permit_125 : decode cX7_permit 125 = .ok (.invokestatic 109, 3) := by decide +kernel
theorem dX7_permit_128 : decode cX7_permit 128 = .ok (.ior, 1) := by decide +kernel
theorem dX7_permit_129 : decode cX7_permit 129 = .ok (.putfield 33, 3) := by decide +kernel
theorem dX7_permit_132 : decode cX7_permit 132 = .ok (.iinc 5 1, 3) := by decide +kernel
theorem dX7_permit_135 : decode cX7_permit 135 = .ok (.goto (-93), 3) := by decide +kernel
theorem dX7_permit_138 : decode cX7_permit 138 = .ok (.iinc 4 1, 3) := by decide +kernel
theorem dX7_permit_141 : decode cX7_permit 141 = .ok (.goto (-133), 3) := by decide +kernel
theorem dX7_permit_144 : decode cX7_permit 144 = .ok (.return_, 1) := by decide +kernel
def wp_X7_permit_132 (h : Nat) (x1 : Int32) (x2 : Option Nat) (x3 : Int32) (x4 : Int32) (x5 : Int32) (S : xm_S) (g : xm_S → Prop) (Z8 : Int32 → Option Nat → Int32 → Int32 → xm_S → Prop) (Z42 : Int32 → Option Nat → Int32 → Int32 → Int32 → xm_S → Prop) : Prop :=
  ∀ y1, y1 = (x5 + (1 : Int32)) → Z42 x1 x2 x3 x4 y1 S
set_option maxRecDepth 100000 in
set_option maxHeartbeats 4000000 in
theorem kp_X7_permit_132 {K : xm_K} (h : Nat) (x1 : Int32) (x2 : Option Nat) (x3 : Int32) (x4 : Int32) (x5 : Int32) (S : xm_S) {g : xm_S → Prop} {Z8 : Int32 → Option Nat → Int32 → Int32 → xm_S → Prop} {Z42 : Int32 → Option Nat → Int32 → Int32 → Int32 → xm_S → Prop} (C : xm_Cx K cX7_permit RX7 8 none rm_X7_permit) (N : xm_Nx K) (hg : ∀ S, g S → xm_q K none S) (hZ8 : ∀ x1 x2 x3 x4 S, Z8 x1 x2 x3 x4 S → xm_W K 0 0 8 [(0, xm_r (some h)), (1, xm_i x1), (2, xm_r x2), (3, xm_i x3), (4, xm_i x4)] [] S) (hZ42 : ∀ x1 x2 x3 x4 x5 S, Z42 x1 x2 x3 x4 x5 S → xm_W K 0 0 42 [(0, xm_r (some h)), (1, xm_i x1), (2, xm_r x2), (3, xm_i x3), (4, xm_i x4), (5, xm_i x5)] [] S) (h1 : wp_X7_permit_132 h x1 x2 x3 x4 x5 S g Z8 Z42) : xm_W K 0 0 132 [(0, xm_r (some h)), (1, xm_i x1), (2, xm_r x2), (3, xm_i x3), (4, xm_i x4), (5, xm_i x5)] [] S := by
  unfold wp_X7_permit_132 at h1
  obtain ⟨y1, e2⟩ : ∃ y1, y1 = (x5 + (1 : Int32)) := ⟨_, rfl⟩
  have h1 := h1 y1 e2
  refine x_iinc (v := y1) (L' := [(5, xm_i y1), (0, xm_r (some h)), (1, xm_i x1), (2, xm_r x2), (3, xm_i x3), (4, xm_i x4)]) C 5 dX7_permit_132 rfl (by rw [e2]; rfl) (by decide) rfl ?_
  refine x_goto (tgt := 42) C dX7_permit_135 (by decide) ?_
  refine x_keep (L' := [(0, xm_r (some h)), (1, xm_i x1), (2, xm_r x2), (3, xm_i x3), (4, xm_i x4), (5, xm_i y1)]) C [1, 2, 3, 4, 5, 0] rfl ?_
  exact hZ42 x1 x2 x3 x4 y1 S h1
def wp_X7_permit_116 (h : Nat) (x1 : Int32) (x2 : Option Nat) (x3 : Int32) (x4 : Int32) (x5 : Int32) (S : xm_S) (g : xm_S → Prop) (Z8 : Int32 → Option Nat → Int32 → Int32 → xm_S → Prop) (Z42 : Int32 → Option Nat → Int32 → Int32 → Int32 → xm_S → Prop) : Prop :=
  st_t S h = some (7, 0) ∧ wp_X7_bitOf x4 x5 S (fun r5 S4 => st_t S4 h = some (7, 0) ∧ ∀ S7, S7 = st_pi S4 h 6 ((st_i S h 6) ||| r5) → wp_X7_permit_132 h x1 x2 x3 x4 x5 S7 g Z8 Z42)
set_option maxRecDepth 100000 in
set_option maxHeartbeats 4000000 in
theorem kp_X7_permit_116 {K : xm_K} (h : Nat) (x1 : Int32) (x2 : Option Nat) (x3 : Int32) (x4 : Int32) (x5 : Int32) (S : xm_S) {g : xm_S → Prop} {Z8 : Int32 → Option Nat → Int32 → Int32 → xm_S → Prop} {Z42 : Int32 → Option Nat → Int32 → Int32 → Int32 → xm_S → Prop} (C : xm_Cx K cX7_permit RX7 8 none rm_X7_permit) (N : xm_Nx K) (hg : ∀ S, g S → xm_q K none S) (hZ8 : ∀ x1 x2 x3 x4 S, Z8 x1 x2 x3 x4 S → xm_W K 0 0 8 [(0, xm_r (some h)), (1, xm_i x1), (2, xm_r x2), (3, xm_i x3), (4, xm_i x4)] [] S) (hZ42 : ∀ x1 x2 x3 x4 x5 S, Z42 x1 x2 x3 x4 x5 S → xm_W K 0 0 42 [(0, xm_r (some h)), (1, xm_i x1), (2, xm_r x2), (3, xm_i x3), (4, xm_i x4), (5, xm_i x5)] [] S) (h1 : wp_X7_permit_116 h x1 x2 x3 x4 x5 S g Z8 Z42) : xm_W K 0 0 116 [(0, xm_r (some h)), (1, xm_i x1), (2, xm_r x2), (3, xm_i x3), (4, xm_i x4), (5, xm_i x5)] [] S := by
  unfold wp_X7_permit_116 at h1
  refine x_aload_n C 0 dX7_permit_116 rfl rfl ?_
  refine x_dup_r C dX7_permit_117 ?_
  obtain ⟨ht3, h1⟩ := h1
  refine x_getf_i (n := h) C rfl ht3 fd_70 (by decide) dX7_permit_118 ?_
  refine x_iload C 4 dX7_permit_121 rfl ?_
  refine x_iload C 5 dX7_permit_123 rfl ?_
  refine x_callS (rm' := rm_X7_bitOf) C (kp_X7_bitOf_met h1) lk_14 gw_129 rfl (Nat.le_of_ble_eq_true rfl) ⟨Nat.le_of_ble_eq_true rfl, Nat.le_of_ble_eq_true rfl, (Nat.le_of_ble_eq_true rfl), (Nat.le_of_ble_eq_true rfl)⟩ dX7_permit_125 xm_kx (xm_ki (fun r5 S4 h1 => ?_))
  refine x_ior C dX7_permit_128 ?_
  obtain ⟨ht6, h1⟩ := h1
  refine x_putf_i (n := h) C rfl ht6 fd_70 xc_7 (by decide) rfl ⟨rfl, rfl⟩ dX7_permit_129 ?_
  refine x_topS (fun S7 e8 => ?_)
  have h1 := h1 S7 e8
  exact kp_X7_permit_132 h x1 x2 x3 x4 x5 S7 C N hg hZ8 hZ42 h1
def wp_X7_permit_89 (h : Nat) (x1 : Int32) (x2 : Option Nat) (x3 : Int32) (x4 : Int32) (x5 : Int32) (x6 : Option Nat) (s0 : Int32) (S : xm_S) (g : xm_S → Prop) (Z8 : Int32 → Option Nat → Int32 → Int32 → xm_S → Prop) (Z42 : Int32 → Option Nat → Int32 → Int32 → Int32 → xm_S → Prop) : Prop :=
  (s0 = 0 → wp_X7_permit_132 h x1 x2 x3 x4 x5 S g Z8 Z42) ∧ (¬ s0 = 0 → ∃ n9, x6 = some n9 ∧ st_t S n9 = some (10, 0) ∧ ((st_i S n9 4) = 0 → wp_X7_permit_116 h x1 x2 x3 x4 x5 S g Z8 Z42) ∧ (¬ (st_i S n9 4) = 0 → st_t S h = some (7, 0) ∧ ∃ n13, (st_r S h 5) = some n13 ∧ ∃ z16, st_t S n13 = some (100, z16) ∧ vp_in x4 z16 ∧ (¬ (st_i S n13 (x4).toNatClampNeg) = x5 → wp_X7_permit_132 h x1 x2 x3 x4 x5 S g Z8 Z42) ∧ ((st_i S n13 (x4).toNatClampNeg) = x5 → wp_X7_permit_116 h x1 x2 x3 x4 x5 S g Z8 Z42)))
set_option maxRecDepth 100000 in
set_option maxHeartbeats 4000000 in
theorem kp_X7_permit_89 {K : xm_K} (h : Nat) (x1 : Int32) (x2 : Option Nat) (x3 : Int32) (x4 : Int32) (x5 : Int32) (x6 : Option Nat) (s0 : Int32) (S : xm_S) {g : xm_S → Prop} {Z8 : Int32 → Option Nat → Int32 → Int32 → xm_S → Prop} {Z42 : Int32 → Option Nat → Int32 → Int32 → Int32 → xm_S → Prop} (C : xm_Cx K cX7_permit RX7 8 none rm_X7_permit) (N : xm_Nx K) (hg : ∀ S, g S → xm_q K none S) (hZ8 : ∀ x1 x2 x3 x4 S, Z8 x1 x2 x3 x4 S → xm_W K 0 0 8 [(0, xm_r (some h)), (1, xm_i x1), (2, xm_r x2), (3, xm_i x3), (4, xm_i x4)] [] S) (hZ42 : ∀ x1 x2 x3 x4 x5 S, Z42 x1 x2 x3 x4 x5 S → xm_W K 0 0 42 [(0, xm_r (some h)), (1, xm_i x1), (2, xm_r x2), (3, xm_i x3), (4, xm_i x4), (5, xm_i x5)] [] S) (h1 : wp_X7_permit_89 h x1 x2 x3 x4 x5 x6 s0 S g Z8 Z42) : xm_W K 0 0 89 [(0, xm_r (some h)), (1, xm_i x1), (2, xm_r x2), (3, xm_i x3), (4, xm_i x4), (5, xm_i x5), (6, xm_r x6)] [xm_i s0] S := by
  unfold wp_X7_permit_89 at h1
  refine x_istore (L' := [(7, xm_i s0), (0, xm_r (some h)), (1, xm_i x1), (2, xm_r x2), (3, xm_i x3), (4, xm_i x4), (5, xm_i x5), (6, xm_r x6)]) C dX7_permit_89 (by decide) rfl ?_
  refine x_iload C 0 dX7_permit_91 rfl ?_
  refine x_if_eq (tgt := 132) C dX7_permit_93 (by decide) (fun z9 => ?_) (fun z9 => ?_)
  · have h1 := h1.1 z9
    refine x_keep (L' := [(0, xm_r (some h)), (1, xm_i x1), (2, xm_r x2), (3, xm_i x3), (4, xm_i x4), (5, xm_i x5)]) C [1, 2, 3, 4, 5, 6] rfl ?_
    exact kp_X7_permit_132 h x1 x2 x3 x4 x5 S C N hg hZ8 hZ42 h1
  · have h1 := h1.2 z9
    refine x_aload C 7 dX7_permit_96 rfl ?_
    obtain ⟨n9, hr10, h1⟩ := h1
    obtain ⟨ht11, h1⟩ := h1
    refine x_getf_i (n := n9) C hr10 ht11 fd_80 (by decide) dX7_permit_98 ?_
    refine x_if_eq (tgt := 116) C dX7_permit_101 (by decide) (fun z9 => ?_) (fun z9 => ?_)
    · have h1 := h1.1 z9
      refine x_keep (L' := [(0, xm_r (some h)), (1, xm_i x1), (2, xm_r x2), (3, xm_i x3), (4, xm_i x4), (5, xm_i x5)]) C [1, 2, 3, 4, 5, 6] rfl ?_
      exact kp_X7_permit_116 h x1 x2 x3 x4 x5 S C N hg hZ8 hZ42 h1
    · have h1 := h1.2 z9
      refine x_aload_n C 1 dX7_permit_104 rfl rfl ?_
      obtain ⟨ht12, h1⟩ := h1
      refine x_getf_r (n := h) C rfl ht12 fd_69 (by decide) dX7_permit_105 ?_
      refine x_iload C 5 dX7_permit_108 rfl ?_
      obtain ⟨n13, hr14, h1⟩ := h1
      obtain ⟨z16, ht15, h1⟩ := h1
      obtain ⟨hi17, h1⟩ := h1
      refine x_iald (n := n13) C hr14 ht15 hi17 dX7_permit_110 ?_
      refine x_iload C 6 dX7_permit_111 rfl ?_
      refine x_icmp_ne (tgt := 132) C dX7_permit_113 (by decide) (fun z9 => ?_) (fun z9 => ?_)
      · have h1 := h1.1 z9
        refine x_keep (L' := [(0, xm_r (some h)), (1, xm_i x1), (2, xm_r x2), (3, xm_i x3), (4, xm_i x4), (5, xm_i x5)]) C [1, 2, 3, 4, 5, 6] rfl ?_
        exact kp_X7_permit_132 h x1 x2 x3 x4 x5 S C N hg hZ8 hZ42 h1
      · have h1 := h1.2 z9
        refine x_keep (L' := [(0, xm_r (some h)), (1, xm_i x1), (2, xm_r x2), (3, xm_i x3), (4, xm_i x4), (5, xm_i x5)]) C [1, 2, 3, 4, 5, 6] rfl ?_
        exact kp_X7_permit_116 h x1 x2 x3 x4 x5 S C N hg hZ8 hZ42 h1
def wp_X7_permit_42B (h : Nat) (x1 : Int32) (x2 : Option Nat) (x3 : Int32) (x4 : Int32) (x5 : Int32) (S : xm_S) (g : xm_S → Prop) (Z8 : Int32 → Option Nat → Int32 → Int32 → xm_S → Prop) (Z42 : Int32 → Option Nat → Int32 → Int32 → Int32 → xm_S → Prop) : Prop :=
  st_t S h = some (7, 0) ∧ ∃ n19, (st_r S h 0) = some n19 ∧ ∃ z22, st_t S n19 = some (115, z22) ∧ vp_in x4 z22 ∧ ∃ n24, (st_r S n19 (x4).toNatClampNeg) = some n24 ∧ st_t S n24 = some (5, 0) ∧ ((st_i S n24 2) ≤ x5 → ∀ y27, y27 = (x4 + (1 : Int32)) → Z8 x1 x2 x3 y27 S) ∧ (¬ (st_i S n24 2) ≤ x5 → ∃ n29, (st_r S h 0) = some n29 ∧ ∃ z32, st_t S n29 = some (115, z32) ∧ vp_in x4 z32 ∧ ∃ n34, (st_r S n29 (x4).toNatClampNeg) = some n34 ∧ st_t S n34 = some (5, 0) ∧ ∃ n37, (st_r S n34 1) = some n37 ∧ ∃ z40, st_t S n37 = some (120, z40) ∧ vp_in x5 z40 ∧ ∃ n42, (st_r S n37 (x5).toNatClampNeg) = some n42 ∧ st_t S n42 = some (10, 0) ∧ (((x1 >>> ((st_i S n42 2) &&& 31)) &&& (1 : Int32)) = 0 → wp_X7_permit_89 h x1 x2 x3 x4 x5 (st_r S n37 (x5).toNatClampNeg) (0 : Int32) S g Z8 Z42) ∧ (¬ ((x1 >>> ((st_i S n42 2) &&& 31)) &&& (1 : Int32)) = 0 → wp_X7_permit_89 h x1 x2 x3 x4 x5 (st_r S n37 (x5).toNatClampNeg) (1 : Int32) S g Z8 Z42))
def wp_X7_permit_42 (h : Nat) (x1 : Int32) (x2 : Option Nat) (x3 : Int32) (x4 : Int32) (x5 : Int32) (S : xm_S) (g : xm_S → Prop) (Z8 : Int32 → Option Nat → Int32 → Int32 → xm_S → Prop) : Prop :=
  ∀ Z42 : Int32 → Option Nat → Int32 → Int32 → Int32 → xm_S → Prop, (∀ x1 x2 x3 x4 x5 S, wp_X7_permit_42B h x1 x2 x3 x4 x5 S g Z8 Z42 → Z42 x1 x2 x3 x4 x5 S) → Z42 x1 x2 x3 x4 x5 S
set_option maxRecDepth 100000 in
set_option maxHeartbeats 4000000 in
theorem kp_X7_permit_42B {K : xm_K} (h : Nat) (x1 : Int32) (x2 : Option Nat) (x3 : Int32) (x4 : Int32) (x5 : Int32) (S : xm_S) {g : xm_S → Prop} {Z8 : Int32 → Option Nat → Int32 → Int32 → xm_S → Prop} {Z42 : Int32 → Option Nat → Int32 → Int32 → Int32 → xm_S → Prop} (C : xm_Cx K cX7_permit RX7 8 none rm_X7_permit) (N : xm_Nx K) (hg : ∀ S, g S → xm_q K none S) (hZ8 : ∀ x1 x2 x3 x4 S, Z8 x1 x2 x3 x4 S → xm_W K 0 0 8 [(0, xm_r (some h)), (1, xm_i x1), (2, xm_r x2), (3, xm_i x3), (4, xm_i x4)] [] S) (hZ42 : ∀ x1 x2 x3 x4 x5 S, Z42 x1 x2 x3 x4 x5 S → xm_W K 0 0 42 [(0, xm_r (some h)), (1, xm_i x1), (2, xm_r x2), (3, xm_i x3), (4, xm_i x4), (5, xm_i x5)] [] S) (h1 : wp_X7_permit_42B h x1 x2 x3 x4 x5 S g Z8 Z42) : xm_W K 0 0 42 [(0, xm_r (some h)), (1, xm_i x1), (2, xm_r x2), (3, xm_i x3), (4, xm_i x4), (5, xm_i x5)] [] S := by
  unfold wp_X7_permit_42B at h1
  refine x_iload C 5 dX7_permit_42 rfl ?_
  refine x_aload_n C 0 dX7_permit_44 rfl rfl ?_
  obtain ⟨ht18, h1⟩ := h1
  refine x_getf_r (n := h) C rfl ht18 fd_56 (by decide) dX7_permit_45 ?_
  refine x_iload C 4 dX7_permit_48 rfl ?_
  obtain ⟨n19, hr20, h1⟩ := h1
  obtain ⟨z22, ht21, h1⟩ := h1
  obtain ⟨hi23, h1⟩ := h1
  refine x_aald (n := n19) C hr20 (by decide) rfl ht21 hi23 dX7_permit_50 ?_
  obtain ⟨n24, hr25, h1⟩ := h1
  obtain ⟨ht26, h1⟩ := h1
  refine x_getf_i (n := n24) C hr25 ht26 fd_62 (by decide) dX7_permit_51 ?_
  refine x_icmp_ge (tgt := 138) C dX7_permit_54 (by decide) (fun z9 => ?_) (fun z9 => ?_)
  · have h1 := h1.1 z9
    obtain ⟨y27, e28⟩ : ∃ y27, y27 = (x4 + (1 : Int32)) := ⟨_, rfl⟩
    have h1 := h1 y27 e28
    refine x_iinc (v := y27) (L' := [(4, xm_i y27), (0, xm_r (some h)), (1, xm_i x1), (2, xm_r x2), (3, xm_i x3), (5, xm_i x5)]) C 4 dX7_permit_138 rfl (by rw [e28]; rfl) (by decide) rfl ?_
    refine x_goto (tgt := 8) C dX7_permit_141 (by decide) ?_
    refine x_keep (L' := [(0, xm_r (some h)), (1, xm_i x1), (2, xm_r x2), (3, xm_i x3), (4, xm_i y27)]) C [1, 2, 3, 4, 0] rfl ?_
    exact hZ8 x1 x2 x3 y27 S h1
  · have h1 := h1.2 z9
    refine x_aload_n C 0 dX7_permit_57 rfl rfl ?_
    refine x_getf_r (n := h) C rfl ht18 fd_56 (by decide) dX7_permit_58 ?_
    refine x_iload C 4 dX7_permit_61 rfl ?_
    obtain ⟨n29, hr30, h1⟩ := h1
    obtain ⟨z32, ht31, h1⟩ := h1
    obtain ⟨hi33, h1⟩ := h1
    refine x_aald (n := n29) C hr30 (by decide) rfl ht31 hi33 dX7_permit_63 ?_
    obtain ⟨n34, hr35, h1⟩ := h1
    obtain ⟨ht36, h1⟩ := h1
    refine x_getf_r (n := n34) C hr35 ht36 fd_57 (by decide) dX7_permit_64 ?_
    refine x_iload C 5 dX7_permit_67 rfl ?_
    obtain ⟨n37, hr38, h1⟩ := h1
    obtain ⟨z40, ht39, h1⟩ := h1
    obtain ⟨hi41, h1⟩ := h1
    refine x_aald (n := n37) C hr38 (by decide) rfl ht39 hi41 dX7_permit_69 ?_
    refine x_astore (L' := [(6, xm_r (st_r S n37 (x5).toNatClampNeg)), (0, xm_r (some h)), (1, xm_i x1), (2, xm_r x2), (3, xm_i x3), (4, xm_i x4), (5, xm_i x5)]) C dX7_permit_70 (by decide) rfl ?_
    refine x_iload_n C 2 dX7_permit_72 rfl rfl ?_
    refine x_aload C 0 dX7_permit_73 rfl ?_
    obtain ⟨n42, hr43, h1⟩ := h1
    obtain ⟨ht44, h1⟩ := h1
    refine x_getf_i (n := n42) C hr43 ht44 fd_81 (by decide) dX7_permit_75 ?_
    refine x_ishr C dX7_permit_78 ?_
    refine x_iconst (v := (1 : Int32)) C dX7_permit_79 (by decide) ?_
    refine x_iand C dX7_permit_80 ?_
    refine x_if_eq (tgt := 88) C dX7_permit_81 (by decide) (fun z9 => ?_) (fun z9 => ?_)
    · have h1 := h1.1 z9
      refine x_iconst (v := (0 : Int32)) C dX7_permit_88 (by decide) ?_
      refine x_keep (L' := [(0, xm_r (some h)), (1, xm_i x1), (2, xm_r x2), (3, xm_i x3), (4, xm_i x4), (5, xm_i x5), (6, xm_r (st_r S n37 (x5).toNatClampNeg))]) C [1, 2, 3, 4, 5, 6, 0] rfl ?_
      exact kp_X7_permit_89 h x1 x2 x3 x4 x5 (st_r S n37 (x5).toNatClampNeg) (0 : Int32) S C N hg hZ8 hZ42 h1
    · have h1 := h1.2 z9
      refine x_iconst (v := (1 : Int32)) C dX7_permit_84 (by decide) ?_
      refine x_goto (tgt := 89) C dX7_permit_85 (by decide) ?_
      refine x_keep (L' := [(0, xm_r (some h)), (1, xm_i x1), (2, xm_r x2), (3, xm_i x3), (4, xm_i x4), (5, xm_i x5), (6, xm_r (st_r S n37 (x5).toNatClampNeg))]) C [1, 2, 3, 4, 5, 6, 0] rfl ?_
      exact kp_X7_permit_89 h x1 x2 x3 x4 x5 (st_r S n37 (x5).toNatClampNeg) (1 : Int32) S C N hg hZ8 hZ42 h1
theorem kp_X7_permit_42 {K : xm_K} (h : Nat) (x1 : Int32) (x2 : Option Nat) (x3 : Int32) (x4 : Int32) (x5 : Int32) (S : xm_S) {g : xm_S → Prop} {Z8 : Int32 → Option Nat → Int32 → Int32 → xm_S → Prop} (C : xm_Cx K cX7_permit RX7 8 none rm_X7_permit) (N : xm_Nx K) (hg : ∀ S, g S → xm_q K none S) (hZ8 : ∀ x1 x2 x3 x4 S, Z8 x1 x2 x3 x4 S → xm_W K 0 0 8 [(0, xm_r (some h)), (1, xm_i x1), (2, xm_r x2), (3, xm_i x3), (4, xm_i x4)] [] S) (h1 : wp_X7_permit_42 h x1 x2 x3 x4 x5 S g Z8) : xm_W K 0 0 42 [(0, xm_r (some h)), (1, xm_i x1), (2, xm_r x2), (3, xm_i x3), (4, xm_i x4), (5, xm_i x5)] [] S :=
  h1 (fun x1 x2 x3 x4 x5 S => xm_W K 0 0 42 [(0, xm_r (some h)), (1, xm_i x1), (2, xm_r x2), (3, xm_i x3), (4, xm_i x4), (5, xm_i x5)] [] S) (fun x1 x2 x3 x4 x5 S hb => kp_X7_permit_42B h x1 x2 x3 x4 x5 S C N hg hZ8 (fun x1 x2 x3 x4 x5 S hz => hz) hb)
def wp_X7_permit_38 (h : Nat) (x1 : Int32) (x2 : Option Nat) (x3 : Int32) (x4 : Int32) (s0 : Int32) (s1 : Int32) (s2 : Option Nat) (S : xm_S) (g : xm_S → Prop) (Z8 : Int32 → Option Nat → Int32 → Int32 → xm_S → Prop) : Prop :=
  ∃ n45, s2 = some n45 ∧ ∃ z48, st_t S n45 = some (100, z48) ∧ vp_in s1 z48 ∧ ∀ S50, S50 = st_pi S n45 (s1).toNatClampNeg s0 → wp_X7_permit_42 h x1 x2 x3 x4 (0 : Int32) S50 g Z8
set_option maxRecDepth 100000 in
set_option maxHeartbeats 4000000 in
theorem kp_X7_permit_38 {K : xm_K} (h : Nat) (x1 : Int32) (x2 : Option Nat) (x3 : Int32) (x4 : Int32) (s0 : Int32) (s1 : Int32) (s2 : Option Nat) (S : xm_S) {g : xm_S → Prop} {Z8 : Int32 → Option Nat → Int32 → Int32 → xm_S → Prop} (C : xm_Cx K cX7_permit RX7 8 none rm_X7_permit) (N : xm_Nx K) (hg : ∀ S, g S → xm_q K none S) (hZ8 : ∀ x1 x2 x3 x4 S, Z8 x1 x2 x3 x4 S → xm_W K 0 0 8 [(0, xm_r (some h)), (1, xm_i x1), (2, xm_r x2), (3, xm_i x3), (4, xm_i x4)] [] S) (h1 : wp_X7_permit_38 h x1 x2 x3 x4 s0 s1 s2 S g Z8) : xm_W K 0 0 38 [(0, xm_r (some h)), (1, xm_i x1), (2, xm_r x2), (3, xm_i x3), (4, xm_i x4)] [xm_i s0, xm_i s1, xm_r s2] S := by
  unfold wp_X7_permit_38 at h1
  obtain ⟨n45, hr46, h1⟩ := h1
  obtain ⟨z48, ht47, h1⟩ := h1
  obtain ⟨hi49, h1⟩ := h1
  refine x_iast (n := n45) C hr46 ht47 hi49 dX7_permit_38 ?_
  refine x_topS (fun S50 e51 => ?_)
  have h1 := h1 S50 e51
  refine x_iconst (v := (0 : Int32)) C dX7_permit_39 (by decide) ?_
  refine x_istore (L' := [(5, xm_i (0 : Int32)), (0, xm_r (some h)), (1, xm_i x1), (2, xm_r x2), (3, xm_i x3), (4, xm_i x4)]) C dX7_permit_40 (by decide) rfl ?_
  refine x_keep (L' := [(0, xm_r (some h)), (1, xm_i x1), (2, xm_r x2), (3, xm_i x3), (4, xm_i x4), (5, xm_i (0 : Int32))]) C [1, 2, 3, 4, 5, 0] rfl ?_
  exact kp_X7_permit_42 h x1 x2 x3 x4 (0 : Int32) S50 C N hg hZ8 h1
def wp_X7_permit_8B (h : Nat) (x1 : Int32) (x2 : Option Nat) (x3 : Int32) (x4 : Int32) (S : xm_S) (g : xm_S → Prop) (Z8 : Int32 → Option Nat → Int32 → Int32 → xm_S → Prop) : Prop :=
  ((nI 6) ≤ x4 → g S) ∧ (¬ (nI 6) ≤ x4 → st_t S h = some (7, 0) ∧ (((x3 >>> (x4 &&& 31)) &&& (1 : Int32)) = 0 → ∃ n53, x2 = some n53 ∧ ∃ z56, st_t S n53 = some (100, z56) ∧ vp_in x4 z56 ∧ wp_X7_permit_38 h x1 x2 x3 x4 (st_i S n53 (x4).toNatClampNeg) x4 (st_r S h 5) S g Z8) ∧ (¬ ((x3 >>> (x4 &&& 31)) &&& (1 : Int32)) = 0 → wp_X7_permit_38 h x1 x2 x3 x4 (-1 : Int32) x4 (st_r S h 5) S g Z8))
def wp_X7_permit_8 (h : Nat) (x1 : Int32) (x2 : Option Nat) (x3 : Int32) (x4 : Int32) (S : xm_S) (g : xm_S → Prop) : Prop :=
  ∀ Z8 : Int32 → Option Nat → Int32 → Int32 → xm_S → Prop, (∀ x1 x2 x3 x4 S, wp_X7_permit_8B h x1 x2 x3 x4 S g Z8 → Z8 x1 x2 x3 x4 S) → Z8 x1 x2 x3 x4 S
set_option maxRecDepth 100000 in
set_option maxHeartbeats 4000000 in
theorem kp_X7_permit_8B {K : xm_K} (h : Nat) (x1 : Int32) (x2 : Option Nat) (x3 : Int32) (x4 : Int32) (S : xm_S) {g : xm_S → Prop} {Z8 : Int32 → Option Nat → Int32 → Int32 → xm_S → Prop} (C : xm_Cx K cX7_permit RX7 8 none rm_X7_permit) (N : xm_Nx K) (hg : ∀ S, g S → xm_q K none S) (hZ8 : ∀ x1 x2 x3 x4 S, Z8 x1 x2 x3 x4 S → xm_W K 0 0 8 [(0, xm_r (some h)), (1, xm_i x1), (2, xm_r x2), (3, xm_i x3), (4, xm_i x4)] [] S) (h1 : wp_X7_permit_8B h x1 x2 x3 x4 S g Z8) : xm_W K 0 0 8 [(0, xm_r (some h)), (1, xm_i x1), (2, xm_r x2), (3, xm_i x3), (4, xm_i x4)] [] S := by
  unfold wp_X7_permit_8B at h1
  refine x_iload C 4 dX7_permit_8 rfl ?_
  refine x_bipush (v := (nI 6)) C dX7_permit_10 (by decide) ?_
  refine x_icmp_ge (tgt := 144) C dX7_permit_12 (by decide) (fun z9 => ?_) (fun z9 => ?_)
  · have h1 := h1.1 z9
    exact x_vret C (Nat.le_of_ble_eq_true rfl) (Nat.le_of_ble_eq_true rfl) rfl dX7_permit_144 (hg _ h1)
  · have h1 := h1.2 z9
    refine x_aload_n C 0 dX7_permit_15 rfl rfl ?_
    obtain ⟨ht52, h1⟩ := h1
    refine x_getf_r (n := h) C rfl ht52 fd_69 (by decide) dX7_permit_16 ?_
    refine x_iload C 4 dX7_permit_19 rfl ?_
    refine x_iload_n C 3 dX7_permit_21 rfl rfl ?_
    refine x_iload C 4 dX7_permit_22 rfl ?_
    refine x_ishr C dX7_permit_24 ?_
    refine x_iconst (v := (1 : Int32)) C dX7_permit_25 (by decide) ?_
    refine x_iand C dX7_permit_26 ?_
    refine x_if_eq (tgt := 34) C dX7_permit_27 (by decide) (fun z9 => ?_) (fun z9 => ?_)
    · have h1 := h1.1 z9
      refine x_aload_n C 2 dX7_permit_34 rfl rfl ?_
      refine x_iload C 4 dX7_permit_35 rfl ?_
      obtain ⟨n53, hr54, h1⟩ := h1
      obtain ⟨z56, ht55, h1⟩ := h1
      obtain ⟨hi57, h1⟩ := h1
      refine x_iald (n := n53) C hr54 ht55 hi57 dX7_permit_37 ?_
      exact kp_X7_permit_38 h x1 x2 x3 x4 (st_i S n53 (x4).toNatClampNeg) x4 (st_r S h 5) S C N hg hZ8 h1
    · have h1 := h1.2 z9
      refine x_iconst (v := (-1 : Int32)) C dX7_permit_30 (by decide) ?_
      refine x_goto (tgt := 38) C dX7_permit_31 (by decide) ?_
      exact kp_X7_permit_38 h x1 x2 x3 x4 (-1 : Int32) x4 (st_r S h 5) S C N hg hZ8 h1
theorem kp_X7_permit_8 {K : xm_K} (h : Nat) (x1 : Int32) (x2 : Option Nat) (x3 : Int32) (x4 : Int32) (S : xm_S) {g : xm_S → Prop} (C : xm_Cx K cX7_permit RX7 8 none rm_X7_permit) (N : xm_Nx K) (hg : ∀ S, g S → xm_q K none S)  (h1 : wp_X7_permit_8 h x1 x2 x3 x4 S g) : xm_W K 0 0 8 [(0, xm_r (some h)), (1, xm_i x1), (2, xm_r x2), (3, xm_i x3), (4, xm_i x4)] [] S :=
  h1 (fun x1 x2 x3 x4 S => xm_W K 0 0 8 [(0, xm_r (some h)), (1, xm_i x1), (2, xm_r x2), (3, xm_i x3), (4, xm_i x4)] [] S) (fun x1 x2 x3 x4 S hb => kp_X7_permit_8B h x1 x2 x3 x4 S C N hg (fun x1 x2 x3 x4 S hz => hz) hb)
def wp_X7_permit (h : Nat) (x1 : Int32) (x2 : Option Nat) (x3 : Int32) (S : xm_S) (g : xm_S → Prop) : Prop :=
  st_t S h = some (7, 0) ∧ ∀ S59, S59 = st_pi S h 6 (0 : Int32) → wp_X7_permit_8 h x1 x2 x3 (0 : Int32) S59 g
set_option maxRecDepth 100000 in
set_option maxHeartbeats 4000000 in
theorem kp_X7_permit {K : xm_K} (h : Nat) (x1 : Int32) (x2 : Option Nat) (x3 : Int32) (S : xm_S) {g : xm_S → Prop} (C : xm_Cx K cX7_permit RX7 8 none rm_X7_permit) (N : xm_Nx K) (hg : ∀ S, g S → xm_q K none S)  (h1 : wp_X7_permit h x1 x2 x3 S g) : xm_W K 0 0 0 [(0, xm_r (some h)), (1, xm_i x1), (2, xm_r x2), (3, xm_i x3)] [] S := by
  unfold wp_X7_permit at h1
  refine x_aload_n C 0 dX7_permit_0 rfl rfl ?_
  refine x_iconst (v := (0 : Int32)) C dX7_permit_1 (by decide) ?_
  obtain ⟨ht58, h1⟩ := h1
  refine x_putf_i (n := h) C rfl ht58 fd_70 xc_7 (by decide) rfl ⟨rfl, rfl⟩ dX7_permit_2 ?_
  refine x_topS (fun S59 e60 => ?_)
  have h1 := h1 S59 e60
  refine x_iconst (v := (0 : Int32)) C dX7_permit_5 (by decide) ?_
  refine x_istore (L' := [(4, xm_i (0 : Int32)), (0, xm_r (some h)), (1, xm_i x1), (2, xm_r x2), (3, xm_i x3)]) C dX7_permit_6 (by decide) rfl ?_
  refine x_keep (L' := [(0, xm_r (some h)), (1, xm_i x1), (2, xm_r x2), (3, xm_i x3), (4, xm_i (0 : Int32))]) C [1, 2, 3, 4, 0] rfl ?_
  exact kp_X7_permit_8 h x1 x2 x3 (0 : Int32) S59 C N hg  h1
theorem kp_X7_permit_met {h : Nat} {x1 : Int32} {x2 : Option Nat} {x3 : Int32} {S : xm_S} {g : xm_S → Prop}  (h1 : wp_X7_permit h x1 x2 x3 S g) : xm_Met yX7_permit cX7_permit 8 none rm_X7_permit [xm_r (some h), xm_i x1, xm_r x2, xm_i x3] S (xm_qv g) xm_nox :=
  xm_ofW RX7 (by decide +kernel) rfl (Nat.le_of_ble_eq_true rfl) (fun K C N hq hx hi => kp_X7_permit h x1 x2 x3 S C N (fun S h => by rw [hq]; exact ⟨rfl, h⟩)  h1)
def rm_X7_withinReach : Room := { frames := 2, cells := 0, slots := 0, locals := 43 }
theorem dX7_withinReach_0 : decode cX7_withinReach 0 = .ok (.iconst 0, 1) := by decide +kernel
theorem dX7_withinReach_1 : decode cX7_withinReach 1 = .ok (.istore_n 1, 1) := by decide +kernel
theorem dX7_withinReach_2 : decode cX7_withinReach 2 = .ok (.iconst 0, 1) := by decide +kernel
theorem dX7_withinReach_3 : decode cX7_withinReach 3 = .ok (.istore_n 2, 1) := by decide +kernel
theorem dX7_withinReach_4 : decode cX7_withinReach 4 = .ok (.iload_n 2, 1) := by decide +kernel
theorem dX7_withinReach_5 : decode cX7_withinReach 5 = .ok (.aload_n 0, 1) := by decide +kernel
theorem dX7_withinReach_6 : decode cX7_withinReach 6 = .ok (.getfield 19, 3) := by decide +kernel
theorem dX7_withinReach_9 : decode cX7_withinReach 9 = .ok (.if_icmp .ge 37, 3) := by decide +kernel
theorem dX7_withinReach_12 : decode cX7_withinReach 12 = .ok (.aload_n 0, 1) := by decide +kernel
theorem dX7_withinReach_13 : decode cX7_withinReach 13 = .ok (.getfield 36, 3) := by decide +kernel
theorem dX7_withinReach_16 : decode cX7_withinReach 16 = .ok (.iload_n 2, 1) := by decide +kernel
theorem dX7_withinReach_17 : decode cX7_withinReach 17 = .ok (.ishr, 1) := by decide +kernel
theorem dX7_withinReach_18 : decode cX7_withinReach 18 = .ok (.iconst 1, 1) := by decide +kernel
theorem dX7_withinReach_19 : decode cX7_withinReach 19 = .ok (.iand, 1) := by decide +kernel
theorem dX7_withinReach_20 : decode cX7_withinReach 20 = .ok (.ifCond .eq 20, 3) := by decide +kernel
theorem dX7_withinReach_23 : decode cX7_withinReach 23 = .ok (.iload_n 1, 1) := by decide +kernel
theorem dX7_withinReach_24 : decode cX7_withinReach 24 = .ok (.aload_n 0, 1) := by decide +kernel
theorem dX7_withinReach_25 : decode cX7_withinReach 25 = .ok (.getfield 15, 3) := by decide +kernel
theorem dX7_withinReach_28 : decode cX7_withinReach 28 = .ok (.iload_n 2, 1) := by decide +kernel
theorem dX7_withinReach_29 : decode cX7_withinReach 29 = .ok (.aaload, 1) := by decide +kernel
theorem dX7_withinReach_30 : decode cX7_withinReach 30 = .ok (.getfield 73, 3) := by decide +kernel
theorem dX7_withinReach_33 : decode cX7_withinReach 33 = .ok (.aload_n 0, 1) := by decide +kernel
theorem dX7_withinReach_34 : decode cX7_withinReach 34 = .ok (.getfield 33, 3) := by decide +kernel
theorem dX7_withinReach_37 : decode cX7_withinReach 37 = .ok (.iand, 1) := by decide +kernel
theorem dX7_withinReach_38 : decode cX7_withinReach 38 = .ok (.ior, 1) := by decide +kernel
theorem dX7_withinReach_39 : decode cX7_withinReach 39 = .ok (.istore_n 1, 1) := by decide +kernel
theorem dX7_withinReach_40 : decode cX7_withinReach 40 = .ok (.iinc 2 1, 3) := by decide +kernel
theorem dX7_withinReach_43 : decode cX7_withinReach 43 = .ok (.goto (-39), 3) := by decide +kernel
theorem dX7_withinReach_46 : decode cX7_withinReach 46 = .ok (.iconst 0, 1) := by decide +kernel
theorem dX7_withinReach_47 : decode cX7_withinReach 47 = .ok (.istore_n 2, 1) := by decide +kernel
theorem dX7_withinReach_48 : decode cX7_withinReach 48 = .ok (.iload_n 2, 1) := by decide +kernel
theorem dX7_withinReach_49 : decode cX7_withinReach 49 = .ok (.bipush 64, 2) := by decide +kernel
theorem dX7_withinReach_51 : decode cX7_withinReach 51 = .ok (.if_icmp .ge 73, 3) := by decide +kernel
theorem dX7_withinReach_54 : decode cX7_withinReach 54 = .ok (.iload_n 1, 1) := by decide +kernel
theorem dX7_withinReach_55 : decode cX7_withinReach 55 = .ok (.istore_n 3, 1) := by decide +kernel
theorem dX7_withinReach_56 : decode cX7_withinReach 56 = .ok (.iconst 0, 1) := by decide +kernel
theorem dX7_withinReach_57 : decode cX7_withinReach 57 = .ok (.istore 4, 2) := by decide +kernel
theorem dX7_withinReach_59 : decode cX7_withinReach 59 = .ok (.iload 4, 2) := by decide +kernel
theorem dX7_withinReach_61 : decode cX7_withinReach 61 = .ok (.bipush 24, 2) := by decide +kernel
theorem dX7_withinReach_63 : decode cX7_withinReach 63 = .ok (.if_icmp .ge 47, 3) := by decide +kernel
theorem dX7_withinReach_66 : decode cX7_withinReach 66 = .ok (.iload_n 1, 1) := by decide +kernel
theorem dX7_withinReach_67 : decode cX7_withinReach 67 = .ok (.iload 4, 2) := by decide +kernel
theorem dX7_withinReach_69 : decode cX7_withinReach 69 = .ok (.ishr, 1) := by decide +kernel
theorem dX7_withinReach_70 : decode cX7_withinReach 70 = .ok (.iconst 1, 1) := by decide +kernel
theorem dX7_withinReach_71 : decode cX7_withinReach 71 = .ok (.iand, 1) := by decide +kernel
theorem dX7_withinReach_72 : decode cX7_withinReach 72 = .ok (.ifCond .eq 32, 3) := by decide +kernel
theorem dX7_withinReach_75 : decode cX7_withinReach 75 = .ok (.iload_n 1, 1) := by decide +kernel
theorem dX7_withinReach_76 : decode cX7_withinReach 76 = .ok (.aload_n 0, 1) := by decide +kernel
theorem dX7_withinReach_77 : decode cX7_withinReach 77 = .ok (.aload_n 0, 1) := by decide +kernel
theorem dX7_withinReach_78 : decode cX7_withinReach 78 = .ok (.getfield 9, 3) := by decide +kernel
theorem dX7_withinReach_81 : decode cX7_withinReach 81 = .ok (.iload 4, 2) := by decide +kernel
theorem dX7_withinReach_83 : decode cX7_withinReach 83 = .ok (.iconst 4, 1) := by decide +kernel
theorem dX7_withinReach_84 : decode cX7_withinReach 84 = .ok (.idiv, 1) := by decide +kernel
theorem dX7_withinReach_85 : decode cX7_withinReach 85 = .ok (.aaload, 1) := by decide +kernel
theorem dX7_withinReach_86 : decode cX7_withinReach 86 = .ok (.getfield 83, 3) := by decide +kernel
theorem dX7_withinReach_89 : decode cX7_withinReach 89 = .ok (.iload 4, 2) := by decide +kernel
theorem dX7_withinReach_91 : decode cX7_withinReach 91 = .ok (.iconst 4, 1) := by decide +kernel
theorem dX7_withinReach_92 : decode cX7_withinReach 92 = .ok (.irem, 1) := by decide +kernel
theorem dX7_withinReach_93 : decode cX7_withinReach 93 = .ok (.aaload, 1) := by decide +kernel
theorem dX7_withinReach_94 : decode cX7_withinReach 94 = .ok (.invokevirtual 157, 3) := by decide +kernel
theorem dX7_withinReach_97 : decode cX7_withinReach 97 = .ok (.aload_n 0, 1) := by decide +kernel
theorem dX7_withinReach_98 : decode cX7_withinReach 98 = .ok (.getfield 33, 3) := by decide +kernel
theorem dX7_withinReach_101 : decode cX7_withinReach 101 = .ok (.iand, 1) := by decide +kernel
theorem dX7_withinReach_102 : decode cX7_withinReach 102 = .ok (.ior, 1) := by decide +kernel
theorem dX7_withinReach_103 : decode cX7_withinReach 103 = .ok (.istore_n 1, 1) := by decide +kernel
theorem dX7_withinReach_104 : decode cX7_withinReach 104 = .ok (.iinc 4 1, 3) := by decide +kernel
theorem dX7_withinReach_107 : decode cX7_withinReach 107 = .ok (.goto (-48), 3) := by decide +kernel
theorem dX7_withinReach_110 : decode cX7_withinReach 110 = .ok (.iload_n 1, 1) := by decide +kernel
theorem dX7_withinReach_111 : decode cX7_withinReach 111 = .ok (.iload_n 3, 1) := by decide +kernel
theorem dX7_withinReach_112 : decode cX7_withinReach 112 = .ok (.if_icmp .ne 6, 3) := by decide +kernel
theorem dX7_withinReach_115 : decode cX7_withinReach 115 = .ok (.goto 9, 3) := by decide +kernel
theorem dX7_withinReach_118 : decode cX7_withinReach 118 = .ok (.iinc 2 1, 3) := by decide +kernel
theorem dX7_withinReach_121 : decode cX7_withinReach 121 = .ok (.goto (-73), 3) := by decide +kernel
theorem dX7_withinReach_124 : decode cX7_withinReach 124 = .ok (.iload_n 1, 1) := by decide +kernel
theorem dX7_withinReach_125 : decode cX7_withinReach 125 = .ok (.ireturn, 1) := by decide +kernel
def wp_X7_withinReach_40 (h : Nat) (x1 : Int32) (x2 : Int32) (S : xm_S) (g : Int32 → xm_S → Prop) (Z4 : Int32 → Int32 → xm_S → Prop) : Prop :=
  ∀ y1, y1 = (x2 + (1 : Int32)) → Z4 x1 y1 S
set_option maxRecDepth 100000 in
set_option maxHeartbeats 4000000 in
theorem kp_X7_withinReach_40 {K : xm_K} (h : Nat) (x1 : Int32) (x2 : Int32) (S : xm_S) {g : Int32 → xm_S → Prop} {Z4 : Int32 → Int32 → xm_S → Prop} (C : xm_Cx K cX7_withinReach RX7 5 (some (FieldType.int)) rm_X7_withinReach) (N : xm_Nx K) (hg : ∀ v S, g v S → xm_q K (some (xm_i v)) S) (hZ4 : ∀ x1 x2 S, Z4 x1 x2 S → xm_W K 0 0 4 [(0, xm_r (some h)), (1, xm_i x1), (2, xm_i x2)] [] S) (h1 : wp_X7_withinReach_40 h x1 x2 S g Z4) : xm_W K 0 0 40 [(0, xm_r (some h)), (1, xm_i x1), (2, xm_i x2)] [] S := by
  unfold wp_X7_withinReach_40 at h1
  obtain ⟨y1, e2⟩ : ∃ y1, y1 = (x2 + (1 : Int32)) := ⟨_, rfl⟩
  have h1 := h1 y1 e2
  refine x_iinc (v := y1) (L' := [(2, xm_i y1), (0, xm_r (some h)), (1, xm_i x1)]) C 2 dX7_withinReach_40 rfl (by rw [e2]; rfl) (by decide) rfl ?_
  refine x_goto (tgt := 4) C dX7_withinReach_43 (by decide) ?_
  refine x_keep (L' := [(0, xm_r (some h)), (1, xm_i x1), (2, xm_i y1)]) C [1, 2, 0] rfl ?_
  exact hZ4 x1 y1 S h1
def wp_X7_withinReach_124 (h : Nat) (x1 : Int32) (S : xm_S) (g : Int32 → xm_S → Prop) : Prop :=
  g x1 S
set_option maxRecDepth 100000 in
set_option maxHeartbeats 4000000 in
theorem kp_X7_withinReach_124 {K : xm_K} (h : Nat) (x1 : Int32) (S : xm_S) {g : Int32 → xm_S → Prop} (C : xm_Cx K cX7_withinReach RX7 5 (some (FieldType.int)) rm_X7_withinReach) (N : xm_Nx K) (hg : ∀ v S, g v S → xm_q K (some (xm_i v)) S)  (h1 : wp_X7_withinReach_124 h x1 S g) : xm_W K 0 0 124 [(1, xm_i x1)] [] S := by
  unfold wp_X7_withinReach_124 at h1
  refine x_iload_n C 0 dX7_withinReach_124 rfl rfl ?_
  exact x_iret C (Nat.le_of_ble_eq_true rfl) (Nat.le_of_ble_eq_true rfl) rfl dX7_withinReach_125 (hg _ _ h1)
def wp_X7_withinReach_104 (h : Nat) (x1 : Int32) (x2 : Int32) (x3 : Int32) (x4 : Int32) (S : xm_S) (g : Int32 → xm_S → Prop) (Z48 : Int32 → Int32 → xm_S → Prop) (Z59 : Int32 → Int32 → Int32 → Int32 → xm_S → Prop) : Prop :=
  ∀ y3, y3 = (x4 + (1 : Int32)) → Z59 x1 x2 x3 y3 S
set_option maxRecDepth 100000 in
set_option maxHeartbeats 4000000 in
theorem kp_X7_withinReach_104 {K : xm_K} (h : Nat) (x1 : Int32) (x2 : Int32) (x3 : Int32) (x4 : Int32) (S : xm_S) {g : Int32 → xm_S → Prop} {Z48 : Int32 → Int32 → xm_S → Prop} {Z59 : Int32 → Int32 → Int32 → Int32 → xm_S → Prop} (C : xm_Cx K cX7_withinReach RX7 5 (some (FieldType.int)) rm_X7_withinReach) (N : xm_Nx K) (hg : ∀ v S, g v S → xm_q K (some (xm_i v)) S) (hZ48 : ∀ x1 x2 S, Z48 x1 x2 S → xm_W K 0 0 48 [(0, xm_r (some h)), (1, xm_i x1), (2, xm_i x2)] [] S) (hZ59 : ∀ x1 x2 x3 x4 S, Z59 x1 x2 x3 x4 S → xm_W K 0 0 59 [(0, xm_r (some h)), (1, xm_i x1), (2, xm_i x2), (3, xm_i x3), (4, xm_i x4)] [] S) (h1 : wp_X7_withinReach_104 h x1 x2 x3 x4 S g Z48 Z59) : xm_W K 0 0 104 [(0, xm_r (some h)), (1, xm_i x1), (2, xm_i x2), (3, xm_i x3), (4, xm_i x4)] [] S := by
  unfold wp_X7_withinReach_104 at h1
  obtain ⟨y3, e4⟩ : ∃ y3, y3 = (x4 + (1 : Int32)) := ⟨_, rfl⟩
  have h1 := h1 y3 e4
  refine x_iinc (v := y3) (L' := [(4, xm_i y3), (0, xm_r (some h)), (1, xm_i x1), (2, xm_i x2), (3, xm_i x3)]) C 4 dX7_withinReach_104 rfl (by rw [e4]; rfl) (by decide) rfl ?_
  refine x_goto (tgt := 59) C dX7_withinReach_107 (by decide) ?_
  refine x_keep (L' := [(0, xm_r (some h)), (1, xm_i x1), (2, xm_i x2), (3, xm_i x3), (4, xm_i y3)]) C [1, 2, 3, 4, 0] rfl ?_
  exact hZ59 x1 x2 x3 y3 S h1
def wp_X7_withinReach_59B (h : Nat) (x1 : Int32) (x2 : Int32) (x3 : Int32) (x4 : Int32) (S : xm_S) (g : Int32 → xm_S → Prop) (Z48 : Int32 → Int32 → xm_S → Prop) (Z59 : Int32 → Int32 → Int32 → Int32 → xm_S → Prop) : Prop :=
  ((nI 24) ≤ x4 → (¬ x1 = x3 → ∀ y5, y5 = (x2 + (1 : Int32)) → Z48 x1 y5 S) ∧ (x1 = x3 → wp_X7_withinReach_124 h x1 S g)) ∧ (¬ (nI 24) ≤ x4 → (((x1 >>> (x4 &&& 31)) &&& (1 : Int32)) = 0 → wp_X7_withinReach_104 h x1 x2 x3 x4 S g Z48 Z59) ∧ (¬ ((x1 >>> (x4 &&& 31)) &&& (1 : Int32)) = 0 → st_t S h = some (7, 0) ∧ ∃ n8, (st_r S h 0) = some n8 ∧ ∃ z11, st_t S n8 = some (115, z11) ∧ vp_in (x4 / (nI 4)) z11 ∧ ∃ n13, (st_r S n8 ((x4 / (nI 4))).toNatClampNeg) = some n13 ∧ st_t S n13 = some (5, 0) ∧ ∃ n16, (st_r S n13 1) = some n16 ∧ ∃ z19, st_t S n16 = some (120, z19) ∧ vp_in (x4 - x4 / (nI 4) * (nI 4)) z19 ∧ wp_X7_leadingTo h (st_r S n16 ((x4 - x4 / (nI 4) * (nI 4))).toNatClampNeg) S (fun r22 S21 => st_t S21 h = some (7, 0) ∧ ∀ y24, y24 = (x1 ||| (r22 &&& (st_i S21 h 6))) → wp_X7_withinReach_104 h y24 x2 x3 x4 S21 g Z48 Z59)))
def wp_X7_withinReach_59 (h : Nat) (x1 : Int32) (x2 : Int32) (x3 : Int32) (x4 : Int32) (S : xm_S) (g : Int32 → xm_S → Prop) (Z48 : Int32 → Int32 → xm_S → Prop) : Prop :=
  ∀ Z59 : Int32 → Int32 → Int32 → Int32 → xm_S → Prop, (∀ x1 x2 x3 x4 S, wp_X7_withinReach_59B h x1 x2 x3 x4 S g Z48 Z59 → Z59 x1 x2 x3 x4 S) → Z59 x1 x2 x3 x4 S
set_option maxRecDepth 100000 in
set_option maxHeartbeats 4000000 in
theorem kp_X7_withinReach_59B {K : xm_K} (h : Nat) (x1 : Int32) (x2 : Int32) (x3 : Int32) (x4 : Int32) (S : xm_S) {g : Int32 → xm_S → Prop} {Z48 : Int32 → Int32 → xm_S → Prop} {Z59 : Int32 → Int32 → Int32 → Int32 → xm_S → Prop} (C : xm_Cx K cX7_withinReach RX7 5 (some (FieldType.int)) rm_X7_withinReach) (N : xm_Nx K) (hg : ∀ v S, g v S → xm_q K (some (xm_i v)) S) (hZ48 : ∀ x1 x2 S, Z48 x1 x2 S → xm_W K 0 0 48 [(0, xm_r (some h)), (1, xm_i x1), (2, xm_i x2)] [] S) (hZ59 : ∀ x1 x2 x3 x4 S, Z59 x1 x2 x3 x4 S → xm_W K 0 0 59 [(0, xm_r (some h)), (1, xm_i x1), (2, xm_i x2), (3, xm_i x3), (4, xm_i x4)] [] S) (h1 : wp_X7_withinReach_59B h x1 x2 x3 x4 S g Z48 Z59) : xm_W K 0 0 59 [(0, xm_r (some h)), (1, xm_i x1), (2, xm_i x2), (3, xm_i x3), (4, xm_i x4)] [] S := by
  unfold wp_X7_withinReach_59B at h1
  refine x_iload C 4 dX7_withinReach_59 rfl ?_
  refine x_bipush (v := (nI 24)) C dX7_withinReach_61 (by decide) ?_
  refine x_icmp_ge (tgt := 110) C dX7_withinReach_63 (by decide) (fun z9 => ?_) (fun z9 => ?_)
  · have h1 := h1.1 z9
    refine x_iload_n C 1 dX7_withinReach_110 rfl rfl ?_
    refine x_iload_n C 3 dX7_withinReach_111 rfl rfl ?_
    refine x_icmp_ne (tgt := 118) C dX7_withinReach_112 (by decide) (fun z9 => ?_) (fun z9 => ?_)
    · have h1 := h1.1 z9
      obtain ⟨y5, e6⟩ : ∃ y5, y5 = (x2 + (1 : Int32)) := ⟨_, rfl⟩
      have h1 := h1 y5 e6
      refine x_iinc (v := y5) (L' := [(2, xm_i y5), (0, xm_r (some h)), (1, xm_i x1), (3, xm_i x3), (4, xm_i x4)]) C 2 dX7_withinReach_118 rfl (by rw [e6]; rfl) (by decide) rfl ?_
      refine x_goto (tgt := 48) C dX7_withinReach_121 (by decide) ?_
      refine x_keep (L' := [(0, xm_r (some h)), (1, xm_i x1), (2, xm_i y5)]) C [1, 2, 0] rfl ?_
      exact hZ48 x1 y5 S h1
    · have h1 := h1.2 z9
      refine x_goto (tgt := 124) C dX7_withinReach_115 (by decide) ?_
      refine x_keep (L' := [(1, xm_i x1)]) C [1] rfl ?_
      exact kp_X7_withinReach_124 h x1 S C N hg  h1
  · have h1 := h1.2 z9
    refine x_iload_n C 1 dX7_withinReach_66 rfl rfl ?_
    refine x_iload C 4 dX7_withinReach_67 rfl ?_
    refine x_ishr C dX7_withinReach_69 ?_
    refine x_iconst (v := (1 : Int32)) C dX7_withinReach_70 (by decide) ?_
    refine x_iand C dX7_withinReach_71 ?_
    refine x_if_eq (tgt := 104) C dX7_withinReach_72 (by decide) (fun z9 => ?_) (fun z9 => ?_)
    · have h1 := h1.1 z9
      exact kp_X7_withinReach_104 h x1 x2 x3 x4 S C N hg hZ48 hZ59 h1
    · have h1 := h1.2 z9
      refine x_iload_n C 1 dX7_withinReach_75 rfl rfl ?_
      refine x_aload_n C 0 dX7_withinReach_76 rfl rfl ?_
      refine x_aload_n C 0 dX7_withinReach_77 rfl rfl ?_
      obtain ⟨ht7, h1⟩ := h1
      refine x_getf_r (n := h) C rfl ht7 fd_56 (by decide) dX7_withinReach_78 ?_
      refine x_iload C 4 dX7_withinReach_81 rfl ?_
      refine x_iconst (v := (nI 4)) C dX7_withinReach_83 (by decide) ?_
      refine x_idiv C dX7_withinReach_84 (by decide) ?_
      obtain ⟨n8, hr9, h1⟩ := h1
      obtain ⟨z11, ht10, h1⟩ := h1
      obtain ⟨hi12, h1⟩ := h1
      refine x_aald (n := n8) C hr9 (by decide) rfl ht10 hi12 dX7_withinReach_85 ?_
      obtain ⟨n13, hr14, h1⟩ := h1
      obtain ⟨ht15, h1⟩ := h1
      refine x_getf_r (n := n13) C hr14 ht15 fd_57 (by decide) dX7_withinReach_86 ?_
      refine x_iload C 4 dX7_withinReach_89 rfl ?_
      refine x_iconst (v := (nI 4)) C dX7_withinReach_91 (by decide) ?_
      refine x_irem C dX7_withinReach_92 (by decide) ?_
      obtain ⟨n16, hr17, h1⟩ := h1
      obtain ⟨z19, ht18, h1⟩ := h1
      obtain ⟨hi20, h1⟩ := h1
      refine x_aald (n := n16) C hr17 (by decide) rfl ht18 hi20 dX7_withinReach_93 ?_
      refine x_callV (rm' := rm_X7_leadingTo) (n := h) C (kp_X7_leadingTo_met h1) lk_22 gw_184 gw_185 xv_7 rfl rfl ht7 rfl (Nat.le_of_ble_eq_true rfl) ⟨Nat.le_of_ble_eq_true rfl, Nat.le_of_ble_eq_true rfl, (Nat.le_of_ble_eq_true rfl), (Nat.le_of_ble_eq_true rfl)⟩ dX7_withinReach_94 xm_kx (xm_ki (fun r22 S21 h1 => ?_))
      refine x_aload_n C 0 dX7_withinReach_97 rfl rfl ?_
      obtain ⟨ht23, h1⟩ := h1
      refine x_getf_i (n := h) C rfl ht23 fd_70 (by decide) dX7_withinReach_98 ?_
      refine x_iand C dX7_withinReach_101 ?_
      refine x_ior C dX7_withinReach_102 ?_
      refine x_topi (fun y24 e25 => ?_)
      have h1 := h1 y24 e25
      refine x_istore_n (L' := [(1, xm_i y24), (0, xm_r (some h)), (2, xm_i x2), (3, xm_i x3), (4, xm_i x4)]) C dX7_withinReach_103 rfl (by decide) rfl ?_
      refine x_keep (L' := [(0, xm_r (some h)), (1, xm_i y24), (2, xm_i x2), (3, xm_i x3), (4, xm_i x4)]) C [1, 0, 2, 3, 4] rfl ?_
      exact kp_X7_withinReach_104 h y24 x2 x3 x4 S21 C N hg hZ48 hZ59 h1
theorem kp_X7_withinReach_59 {K : xm_K} (h : Nat) (x1 : Int32) (x2 : Int32) (x3 : Int32) (x4 : Int32) (S : xm_S) {g : Int32 → xm_S → Prop} {Z48 : Int32 → Int32 → xm_S → Prop} (C : xm_Cx K cX7_withinReach RX7 5 (some (FieldType.int)) rm_X7_withinReach) (N : xm_Nx K) (hg : ∀ v S, g v S → xm_q K (some (xm_i v)) S) (hZ48 : ∀ x1 x2 S, Z48 x1 x2 S → xm_W K 0 0 48 [(0, xm_r (some h)), (1, xm_i x1), (2, xm_i x2)] [] S) (h1 : wp_X7_withinReach_59 h x1 x2 x3 x4 S g Z48) : xm_W K 0 0 59 [(0, xm_r (some h)), (1, xm_i x1), (2, xm_i x2), (3, xm_i x3), (4, xm_i x4)] [] S :=
  h1 (fun x1 x2 x3 x4 S => xm_W K 0 0 59 [(0, xm_r (some h)), (1, xm_i x1), (2, xm_i x2), (3, xm_i x3), (4, xm_i x4)] [] S) (fun x1 x2 x3 x4 S hb => kp_X7_withinReach_59B h x1 x2 x3 x4 S C N hg hZ48 (fun x1 x2 x3 x4 S hz => hz) hb)
def wp_X7_withinReach_48B (h : Nat) (x1 : Int32) (x2 : Int32) (S : xm_S) (g : Int32 → xm_S → Prop) (Z48 : Int32 → Int32 → xm_S → Prop) : Prop :=
  ((nI 64) ≤ x2 → wp_X7_withinReach_124 h x1 S g) ∧ (¬ (nI 64) ≤ x2 → wp_X7_withinReach_59 h x1 x2 x1 (0 : Int32) S g Z48)
def wp_X7_withinReach_48 (h : Nat) (x1 : Int32) (x2 : Int32) (S : xm_S) (g : Int32 → xm_S → Prop) : Prop :=
  ∀ Z48 : Int32 → Int32 → xm_S → Prop, (∀ x1 x2 S, wp_X7_withinReach_48B h x1 x2 S g Z48 → Z48 x1 x2 S) → Z48 x1 x2 S
set_option maxRecDepth 100000 in
set_option maxHeartbeats 4000000 in
theorem kp_X7_withinReach_48B {K : xm_K} (h : Nat) (x1 : Int32) (x2 : Int32) (S : xm_S) {g : Int32 → xm_S → Prop} {Z48 : Int32 → Int32 → xm_S → Prop} (C : xm_Cx K cX7_withinReach RX7 5 (some (FieldType.int)) rm_X7_withinReach) (N : xm_Nx K) (hg : ∀ v S, g v S → xm_q K (some (xm_i v)) S) (hZ48 : ∀ x1 x2 S, Z48 x1 x2 S → xm_W K 0 0 48 [(0, xm_r (some h)), (1, xm_i x1), (2, xm_i x2)] [] S) (h1 : wp_X7_withinReach_48B h x1 x2 S g Z48) : xm_W K 0 0 48 [(0, xm_r (some h)), (1, xm_i x1), (2, xm_i x2)] [] S := by
  unfold wp_X7_withinReach_48B at h1
  refine x_iload_n C 2 dX7_withinReach_48 rfl rfl ?_
  refine x_bipush (v := (nI 64)) C dX7_withinReach_49 (by decide) ?_
  refine x_icmp_ge (tgt := 124) C dX7_withinReach_51 (by decide) (fun z9 => ?_) (fun z9 => ?_)
  · have h1 := h1.1 z9
    refine x_keep (L' := [(1, xm_i x1)]) C [1] rfl ?_
    exact kp_X7_withinReach_124 h x1 S C N hg  h1
  · have h1 := h1.2 z9
    refine x_iload_n C 1 dX7_withinReach_54 rfl rfl ?_
    refine x_istore_n (L' := [(3, xm_i x1), (0, xm_r (some h)), (1, xm_i x1), (2, xm_i x2)]) C dX7_withinReach_55 rfl (by decide) rfl ?_
    refine x_iconst (v := (0 : Int32)) C dX7_withinReach_56 (by decide) ?_
    refine x_istore (L' := [(4, xm_i (0 : Int32)), (3, xm_i x1), (0, xm_r (some h)), (1, xm_i x1), (2, xm_i x2)]) C dX7_withinReach_57 (by decide) rfl ?_
    refine x_keep (L' := [(0, xm_r (some h)), (1, xm_i x1), (2, xm_i x2), (3, xm_i x1), (4, xm_i (0 : Int32))]) C [2, 3, 4, 1, 0] rfl ?_
    exact kp_X7_withinReach_59 h x1 x2 x1 (0 : Int32) S C N hg hZ48 h1
theorem kp_X7_withinReach_48 {K : xm_K} (h : Nat) (x1 : Int32) (x2 : Int32) (S : xm_S) {g : Int32 → xm_S → Prop} (C : xm_Cx K cX7_withinReach RX7 5 (some (FieldType.int)) rm_X7_withinReach) (N : xm_Nx K) (hg : ∀ v S, g v S → xm_q K (some (xm_i v)) S)  (h1 : wp_X7_withinReach_48 h x1 x2 S g) : xm_W K 0 0 48 [(0, xm_r (some h)), (1, xm_i x1), (2, xm_i x2)] [] S :=
  h1 (fun x1 x2 S => xm_W K 0 0 48 [(0, xm_r (some h)), (1, xm_i x1), (2, xm_i x2)] [] S) (fun x1 x2 S hb => kp_X7_withinReach_48B h x1 x2 S C N hg (fun x1 x2 S hz => hz) hb)
def wp_X7_withinReach_4B (h : Nat) (x1 : Int32) (x2 : Int32) (S : xm_S) (g : Int32 → xm_S → Prop) (Z4 : Int32 → Int32 → xm_S → Prop) : Prop :=
  st_t S h = some (7, 0) ∧ ((st_i S h 2) ≤ x2 → wp_X7_withinReach_48 h x1 (0 : Int32) S g) ∧ (¬ (st_i S h 2) ≤ x2 → ((((st_i S h 7) >>> (x2 &&& 31)) &&& (1 : Int32)) = 0 → wp_X7_withinReach_40 h x1 x2 S g Z4) ∧ (¬ (((st_i S h 7) >>> (x2 &&& 31)) &&& (1 : Int32)) = 0 → ∃ n27, (st_r S h 1) = some n27 ∧ ∃ z30, st_t S n27 = some (114, z30) ∧ vp_in x2 z30 ∧ ∃ n32, (st_r S n27 (x2).toNatClampNeg) = some n32 ∧ st_t S n32 = some (4, 0) ∧ ∀ y35, y35 = (x1 ||| ((st_i S n32 5) &&& (st_i S h 6))) → wp_X7_withinReach_40 h y35 x2 S g Z4))
def wp_X7_withinReach_4 (h : Nat) (x1 : Int32) (x2 : Int32) (S : xm_S) (g : Int32 → xm_S → Prop) : Prop :=
  ∀ Z4 : Int32 → Int32 → xm_S → Prop, (∀ x1 x2 S, wp_X7_withinReach_4B h x1 x2 S g Z4 → Z4 x1 x2 S) → Z4 x1 x2 S
set_option maxRecDepth 100000 in
set_option maxHeartbeats 4000000 in
theorem kp_X7_withinReach_4B {K : xm_K} (h : Nat) (x1 : Int32) (x2 : Int32) (S : xm_S) {g : Int32 → xm_S → Prop} {Z4 : Int32 → Int32 → xm_S → Prop} (C : xm_Cx K cX7_withinReach RX7 5 (some (FieldType.int)) rm_X7_withinReach) (N : xm_Nx K) (hg : ∀ v S, g v S → xm_q K (some (xm_i v)) S) (hZ4 : ∀ x1 x2 S, Z4 x1 x2 S → xm_W K 0 0 4 [(0, xm_r (some h)), (1, xm_i x1), (2, xm_i x2)] [] S) (h1 : wp_X7_withinReach_4B h x1 x2 S g Z4) : xm_W K 0 0 4 [(0, xm_r (some h)), (1, xm_i x1), (2, xm_i x2)] [] S := by
  unfold wp_X7_withinReach_4B at h1
  refine x_iload_n C 2 dX7_withinReach_4 rfl rfl ?_
  refine x_aload_n C 0 dX7_withinReach_5 rfl rfl ?_
  obtain ⟨ht26, h1⟩ := h1
  refine x_getf_i (n := h) C rfl ht26 fd_59 (by decide) dX7_withinReach_6 ?_
  refine x_icmp_ge (tgt := 46) C dX7_withinReach_9 (by decide) (fun z9 => ?_) (fun z9 => ?_)
  · have h1 := h1.1 z9
    refine x_iconst (v := (0 : Int32)) C dX7_withinReach_46 (by decide) ?_
    refine x_istore_n (L' := [(2, xm_i (0 : Int32)), (0, xm_r (some h)), (1, xm_i x1)]) C dX7_withinReach_47 rfl (by decide) rfl ?_
    refine x_keep (L' := [(0, xm_r (some h)), (1, xm_i x1), (2, xm_i (0 : Int32))]) C [1, 2, 0] rfl ?_
    exact kp_X7_withinReach_48 h x1 (0 : Int32) S C N hg  h1
  · have h1 := h1.2 z9
    refine x_aload_n C 0 dX7_withinReach_12 rfl rfl ?_
    refine x_getf_i (n := h) C rfl ht26 fd_60 (by decide) dX7_withinReach_13 ?_
    refine x_iload_n C 2 dX7_withinReach_16 rfl rfl ?_
    refine x_ishr C dX7_withinReach_17 ?_
    refine x_iconst (v := (1 : Int32)) C dX7_withinReach_18 (by decide) ?_
    refine x_iand C dX7_withinReach_19 ?_
    refine x_if_eq (tgt := 40) C dX7_withinReach_20 (by decide) (fun z9 => ?_) (fun z9 => ?_)
    · have h1 := h1.1 z9
      exact kp_X7_withinReach_40 h x1 x2 S C N hg hZ4 h1
    · have h1 := h1.2 z9
      refine x_iload_n C 1 dX7_withinReach_23 rfl rfl ?_
      refine x_aload_n C 0 dX7_withinReach_24 rfl rfl ?_
      refine x_getf_r (n := h) C rfl ht26 fd_61 (by decide) dX7_withinReach_25 ?_
      refine x_iload_n C 2 dX7_withinReach_28 rfl rfl ?_
      obtain ⟨n27, hr28, h1⟩ := h1
      obtain ⟨z30, ht29, h1⟩ := h1
      obtain ⟨hi31, h1⟩ := h1
      refine x_aald (n := n27) C hr28 (by decide) rfl ht29 hi31 dX7_withinReach_29 ?_
      obtain ⟨n32, hr33, h1⟩ := h1
      obtain ⟨ht34, h1⟩ := h1
      refine x_getf_i (n := n32) C hr33 ht34 fd_46 (by decide) dX7_withinReach_30 ?_
      refine x_aload_n C 0 dX7_withinReach_33 rfl rfl ?_
      refine x_getf_i (n := h) C rfl ht26 fd_70 (by decide) dX7_withinReach_34 ?_
      refine x_iand C dX7_withinReach_37 ?_
      refine x_ior C dX7_withinReach_38 ?_
      refine x_topi (fun y35 e36 => ?_)
      have h1 := h1 y35 e36
      refine x_istore_n (L' := [(1, xm_i y35), (0, xm_r (some h)), (2, xm_i x2)]) C dX7_withinReach_39 rfl (by decide) rfl ?_
      refine x_keep (L' := [(0, xm_r (some h)), (1, xm_i y35), (2, xm_i x2)]) C [1, 0, 2] rfl ?_
      exact kp_X7_withinReach_40 h y35 x2 S C N hg hZ4 h1
theorem kp_X7_withinReach_4 {K : xm_K} (h : Nat) (x1 : Int32) (x2 : Int32) (S : xm_S) {g : Int32 → xm_S → Prop} (C : xm_Cx K cX7_withinReach RX7 5 (some (FieldType.int)) rm_X7_withinReach) (N : xm_Nx K) (hg : ∀ v S, g v S → xm_q K (some (xm_i v)) S)  (h1 : wp_X7_withinReach_4 h x1 x2 S g) : xm_W K 0 0 4 [(0, xm_r (some h)), (1, xm_i x1), (2, xm_i x2)] [] S :=
  h1 (fun x1 x2 S => xm_W K 0 0 4 [(0, xm_r (some h)), (1, xm_i x1), (2, xm_i x2)] [] S) (fun x1 x2 S hb => kp_X7_withinReach_4B h x1 x2 S C N hg (fun x1 x2 S hz => hz) hb)
def wp_X7_withinReach (h : Nat)  (S : xm_S) (g : Int32 → xm_S → Prop) : Prop :=
  wp_X7_withinReach_4 h (0 : Int32) (0 : Int32) S g
set_option maxRecDepth 100000 in
set_option maxHeartbeats 4000000 in
theorem kp_X7_withinReach {K : xm_K} (h : Nat)  (S : xm_S) {g : Int32 → xm_S → Prop} (C : xm_Cx K cX7_withinReach RX7 5 (some (FieldType.int)) rm_X7_withinReach) (N : xm_Nx K) (hg : ∀ v S, g v S → xm_q K (some (xm_i v)) S)  (h1 : wp_X7_withinReach h  S g) : xm_W K 0 0 0 [(0, xm_r (some h))] [] S := by
  unfold wp_X7_withinReach at h1
  refine x_iconst (v := (0 : Int32)) C dX7_withinReach_0 (by decide) ?_
  refine x_istore_n (L' := [(1, xm_i (0 : Int32)), (0, xm_r (some h))]) C dX7_withinReach_1 rfl (by decide) rfl ?_
  refine x_iconst (v := (0 : Int32)) C dX7_withinReach_2 (by decide) ?_
  refine x_istore_n (L' := [(2, xm_i (0 : Int32)), (1, xm_i (0 : Int32)), (0, xm_r (some h))]) C dX7_withinReach_3 rfl (by decide) rfl ?_
  refine x_keep (L' := [(0, xm_r (some h)), (1, xm_i (0 : Int32)), (2, xm_i (0 : Int32))]) C [2, 1, 0] rfl ?_
  exact kp_X7_withinReach_4 h (0 : Int32) (0 : Int32) S C N hg  h1
theorem kp_X7_withinReach_met {h : Nat}  {S : xm_S} {g : Int32 → xm_S → Prop}  (h1 : wp_X7_withinReach h  S g) : xm_Met yX7_withinReach cX7_withinReach 5 (some (FieldType.int)) rm_X7_withinReach [xm_r (some h)] S (xm_qi g) xm_nox :=
  xm_ofW RX7 (by decide +kernel) rfl (Nat.le_of_ble_eq_true rfl) (fun K C N hq hx hi => kp_X7_withinReach h  S C N (fun v S h => by rw [hq]; exact ⟨v, rfl, h⟩)  h1)
def rm_X7_study : Room := { frames := 5, cells := 0, slots := 0, locals := 120 }
theorem dX7_study_0 : decode cX7_study 0 = .ok (.aload_n 0, 1) := by decide +kernel
theorem dX7_study_1 : decode cX7_study 1 = .ok (.aload_n 1, 1) := by decide +kernel
theorem dX7_study_2 : decode cX7_study 2 = .ok (.putfield 9, 3) := by decide +kernel
theorem dX7_study_5 : decode cX7_study 5 = .ok (.aload_n 0, 1) := by decide +kernel
theorem dX7_study_6 : decode cX7_study 6 = .ok (.aload_n 2, 1) := by decide +kernel
theorem dX7_study_7 : decode cX7_study 7 = .ok (.putfield 15, 3) := by decide +kernel
theorem dX7_study_10 : decode cX7_study 10 = .ok (.aload_n 0, 1) := by decide +kernel
theorem dX7_study_11 : decode cX7_study 11 = .ok (.iload_n 3, 1) := by decide +kernel
theorem dX7_study_12 : decode cX7_study 12 = .ok (.putfield 19, 3) := by decide +kernel
theorem dX7_study_15 : decode cX7_study 15 = .ok (.aload_n 0, 1) := by decide +kernel
theorem dX7_study_16 : decode cX7_study 16 = .ok (.iconst 1, 1) := by decide +kernel
theorem dX7_study_17 : decode cX7_study 17 = .ok (.iload 4, 2) := by decide +kernel
theorem dX7_study_19 : decode cX7_study 19 = .ok (.ishl, 1) := by decide +kernel
theorem dX7_study_20 : decode cX7_study 20 = .ok (.putfield 23, 3) := by decide +kernel
theorem dX7_study_23 : decode cX7_study 23 = .ok (.iconst 0, 1) := by decide +kernel
theorem dX7_study_24 : decode cX7_study 24 = .ok (.istore 5, 2) := by decide +kernel
theorem dX7_study_26 : decode cX7_study 26 = .ok (.iload 5, 2) := by decide +kernel
theorem dX7_study_28 : decode cX7_study 28 = .ok (.bipush 24, 2) := by decide +kernel
theorem dX7_study_30 : decode cX7_study 30 = .ok (.if_icmp .ge 17, 3) := by decide +kernel
theorem dX7_study_33 : decode cX7_study 33 = .ok (.aload_n 0, 1) := by decide +kernel
theorem dX7_study_34 : decode cX7_study 34 = .ok (.getfield 26, 3) := by decide +kernel
theorem dX7_study_37 : decode cX7_study 37 = .ok (.iload 5, 2) := by decide +kernel
theorem dX7_study_39 : decode cX7_study 39 = .ok (.iconst 0, 1) := by decide +kernel
theorem dX7_study_40 : decode cX7_study 40 = .ok (.iastore, 1) := by decide +kernel
theorem dX7_study_41 : decode cX7_study 41 = .ok (.iinc 5 1, 3) := by decide +kernel
theorem dX7_study_44 : decode cX7_study 44 = .ok (.goto (-18), 3) := by decide +kernel
theorem dX7_study_47 : decode cX7_study 47 = .ok (.iconst 0, 1) := by decide +kernel
theorem dX7_study_48 : decode cX7_study 48 = .ok (.istore 5, 2) := by decide +kernel
theorem dX7_study_50 : decode cX7_study 50 = .ok (.iload 5, 2) := by decide +kernel
theorem dX7_study_52 : decode cX7_study 52 = .ok (.iload_n 3, 1) := by decide +kernel
theorem dX7_study_53 : decode cX7_study 53 = .ok (.if_icmp .ge 24, 3) := by decide +kernel
theorem dX7_study_56 : decode cX7_study 56 = .ok (.aload_n 2, 1) := by decide +kernel
theorem dX7_study_57 : decode cX7_study 57 = .ok (.iload 5, 2) := by decide +kernel
theorem dX7_study_59 : decode cX7_study 59 = .ok (.aaload, 1) := by decide +kernel
theorem dX7_study_60 : decode cX7_study 60 = .ok (.aload_n 0, 1) := by decide +kernel
theorem dX7_study_61 : decode cX7_study 61 = .ok (.aload_n 2, 1) := by decide +kernel
theorem dX7_study_62 : decode cX7_study 62 = .ok (.iload 5, 2) := by decide +kernel
theorem dX7_study_64 : decode cX7_study 64 = .ok (.aaload, 1) := by decide +kernel
theorem dX7_study_65 : decode cX7_study 65 = .ok (.invokevirtual 69, 3) := by decide +kernel
theorem dX7_study_68 : decode cX7_study 68 = .ok (.putfield 73, 3) := by decide +kernel
theorem dX7_study_71 : decode cX7_study 71 = .ok (.iinc 5 1, 3) := by decide +kernel
theorem dX7_study_74 : decode cX7_study 74 = .ok (.goto (-24), 3) := by decide +kernel
theorem dX7_study_77 : decode cX7_study 77 = .ok (.iconst 0, 1) := by decide +kernel
theorem dX7_study_78 : decode cX7_study 78 = .ok (.istore 5, 2) := by decide +kernel
theorem dX7_study_80 : decode cX7_study 80 = .ok (.iload 5, 2) := by decide +kernel
theorem dX7_study_82 : decode cX7_study 82 = .ok (.bipush 6, 2) := by decide +kernel
theorem dX7_study_84 : decode cX7_study 84 = .ok (.if_icmp .ge 131, 3) := by decide +kernel
theorem dX7_study_87 : decode cX7_study 87 = .ok (.iconst 0, 1) := by decide +kernel
theorem dX7_study_88 : decode cX7_study 88 = .ok (.istore 6, 2) := by decide +kernel
theorem dX7_study_90 : decode cX7_study 90 = .ok (.iload 6, 2) := by decide +kernel
theorem dX7_study_92 : decode cX7_study 92 = .ok (.aload_n 1, 1) := by decide +kernel
theorem dX7_study_93 : decode cX7_study 93 = .ok (.iload 5, 2) := by decide +kernel
theorem dX7_study_95 : decode cX7_study 95 = .ok (.aaload, 1) := by decide +kernel
theorem dX7_study_96 : decode cX7_study 96 = .ok (.getfield 78, 3) := by decide +kernel
theorem dX7_study_99 : decode cX7_study 99 = .ok (.if_icmp .ge 110, 3) := by decide +kernel
theorem dX7_study_102 : decode cX7_study 102 = .ok (.aload_n 1, 1) := by decide +kernel
theorem dX7_study_103 : decode cX7_study 103 = .ok (.iload 5, 2) := by decide +kernel
theorem dX7_study_105 : decode cX7_study 105 = .ok (.aaload, 1) := by decide +kernel
theorem dX7_study_106 : decode cX7_study 106 = .ok (.getfield 83, 3) := by decide +kernel
theorem dX7_study_109 : decode cX7_study 109 = .ok (.iload 6, 2) := by decide +kernel
theorem dX7_study_111 : decode cX7_study 111 = .ok (.aaload, 1) := by decide +kernel
theorem dX7_study_112 : decode cX7_study 112 = .ok (.astore 7, 2) := by decide +kernel
theorem dX7_study_114 : decode cX7_study 114 = .ok (.iconst 0, 1) := by decide +kernel
theorem dX7_study_115 : decode cX7_study 115 = .ok (.istore 8, 2) := by decide +kernel
theorem dX7_study_117 : decode cX7_study 117 = .ok (.iload 8, 2) := by decide +kernel
theorem dX7_study_119 : decode cX7_study 119 = .ok (.aload 7, 2) := by decide +kernel
theorem dX7_study_121 : decode cX7_study 121 = .ok (.getfield 87, 3) := by decide +kernel
theorem dX7_study_124 : decode cX7_study 124 = .ok (.if_icmp .ge 32, 3) := by decide +kernel
theorem dX7_study_127 : decode cX7_study 127 = .ok (.aload 7, 2) := by decide +kernel
theorem dX7_study_129 : decode cX7_study 129 = .ok (.getfield 92, 3) := by decide +kernel
theorem dX7_study_132 : decode cX7_study 132 = .ok (.iload 8, 2) := by decide +kernel
theorem dX7_study_134 : decode cX7_study 134 = .ok (.aaload, 1) := by decide +kernel
theorem dX7_study_135 : decode cX7_study 135 = .ok (.aload_n 0, 1) := by decide +kernel
theorem dX7_study_136 : decode cX7_study 136 = .ok (.aload 7, 2) := by decide +kernel
theorem dX7_study_138 : decode cX7_study 138 = .ok (.getfield 92, 3) := by decide +kernel
theorem dX7_study_141 : decode cX7_study 141 = .ok (.iload 8, 2) := by decide +kernel
theorem dX7_study_143 : decode cX7_study 143 = .ok (.aaload, 1) := by decide +kernel
theorem dX7_study_144 : decode cX7_study 144 = .ok (.invokevirtual 69, 3) := by decide +kernel
theorem dX7_study_147 : decode cX7_study 147 = .ok (.putfield 73, 3) := by decide +kernel
theorem dX7_study_150 : decode cX7_study 150 = .ok (.iinc 8 1, 3) := by decide +kernel
theorem dX7_study_153 : decode cX7_study 153 = .ok (.goto (-36), 3) := by decide +kernel
theorem dX7_study_156 : decode cX7_study 156 = .ok (.iconst 0, 1) := by decide +kernel
theorem dX7_study_157 : decode cX7_study 157 = .ok (.istore 8, 2) := by decide +kernel
theorem dX7_study_159 : decode cX7_study 159 = .ok (.iload 8, 2) := by decide +kernel
theorem dX7_study_161 : decode cX7_study 161 = .ok (.aload 7, 2) := by decide +kernel
theorem dX7_study_163 : decode cX7_study 163 = .ok (.getfield 95, 3) := by decide +kernel
theorem dX7_study_166 : decode cX7_study 166 = .ok (.if_icmp .ge 37, 3) := by decide +kernel
theorem dX7_study_169 : decode cX7_study 169 = .ok (.aload_n 0, 1) := by decide +kernel
theorem dX7_study_170 : decode cX7_study 170 = .ok (.iload 5, 2) := by decide +kernel
theorem dX7_study_172 : decode cX7_study 172 = .ok (.iload 6, 2) := by decide +kernel
theorem dX7_study_174 : decode cX7_study 174 = .ok (.aload_n 0, 1) := by decide +kernel
theorem dX7_study_175 : decode cX7_study 175 = .ok (.aload 7, 2) := by decide +kernel
theorem dX7_study_177 : decode cX7_study 177 = .ok (.getfield 98, 3) := by decide +kernel
theorem dX7_study_180 : decode cX7_study 180 = .ok (.iload 8, 2) := by decide +kernel
theorem dX7_study_182 : decode cX7_study 182 = .ok (.aaload, 1) := by decide +kernel
theorem dX7_study_183 : decode cX7_study 183 = .ok (.invokevirtual 69, 3) := by decide +kernel
theorem dX7_study_186 : decode cX7_study 186 = .ok (.iload 5, 2) := by decide +kernel
theorem dX7_study_188 : decode cX7_study 188 = .ok (.invokestatic 101, 3) := by decide +kernel
theorem dX7_study_191 : decode cX7_study 191 = .ok (.iconst (-1), 1) := by decide +kernel
theorem dX7_study_192 : decode cX7_study 192 = .ok (.ixor, 1) := by decide +kernel
theorem dX7_study_193 : decode cX7_study 193 = .ok (.iand, 1) := by decide +kernel
theorem dX7_study_194 : decode cX7_study 194 = .ok (.invokevirtual 105, 3) := by decide +kernel
theorem dX7_study_197 : decode cX7_study 197 = .ok (.iinc 8 1, 3) := by decide +kernel
theorem dX7_study_200 : decode cX7_study 200 = .ok (.goto (-41), 3) := by decide +kernel
theorem dX7_study_203 : decode cX7_study 203 = .ok (.iinc 6 1, 3) := by decide +kernel
theorem dX7_study_206 : decode cX7_study 206 = .ok (.goto (-116), 3) := by decide +kernel
theorem dX7_study_209 : decode cX7_study 209 = .ok (.iinc 5 1, 3) := by decide +kernel
theorem dX7_study_212 : decode cX7_study 212 = .ok (.goto (-132), 3) := by decide +kernel
theorem dX7_study_215 : decode cX7_study 215 = .ok (.return_, 1) := by decide +kernel
def wp_X7_study_159B (h : Nat) (x1 : Option Nat) (x5 : Int32) (x6 : Int32) (x7 : Option Nat) (x8 : Int32) (S : xm_S) (g : xm_S → Prop) (Z80 : Option Nat → Int32 → xm_S → Prop) (Z90 : Option Nat → Int32 → Int32 → xm_S → Prop) (Z159 : Option Nat → Int32 → Int32 → Option Nat → Int32 → xm_S → Prop) : Prop :=
  ∃ n1, x7 = some n1 ∧ st_t S n1 = some (10, 0) ∧ ((st_i S n1 9) ≤ x8 → ∀ y4, y4 = (x6 + (1 : Int32)) → Z90 x1 x5 y4 S) ∧ (¬ (st_i S n1 9) ≤ x8 → ∃ n6, x7 = some n6 ∧ st_t S n6 = some (10, 0) ∧ ∃ n9, (st_r S n6 8) = some n9 ∧ ∃ z12, st_t S n9 = some (114, z12) ∧ vp_in x8 z12 ∧ st_t S h = some (7, 0) ∧ wp_X7_meeting h (st_r S n9 (x8).toNatClampNeg) S (fun r16 S15 => wp_X7_bitsOf x5 S15 (fun r18 S17 => st_t S17 h = some (7, 0) ∧ wp_X7_part h x5 x6 (r16 &&& (r18 ^^^ (-1 : Int32))) S17 (fun S20 => ∀ y22, y22 = (x8 + (1 : Int32)) → Z159 x1 x5 x6 x7 y22 S20))))
def wp_X7_study_159 (h : Nat) (x1 : Option Nat) (x5 : Int32) (x6 : Int32) (x7 : Option Nat) (x8 : Int32) (S : xm_S) (g : xm_S → Prop) (Z80 : Option Nat → Int32 → xm_S → Prop) (Z90 : Option Nat → Int32 → Int32 → xm_S → Prop) : Prop :=
  ∀ Z159 : Option Nat → Int32 → Int32 → Option Nat → Int32 → xm_S → Prop, (∀ x1 x5 x6 x7 x8 S, wp_X7_study_159B h x1 x5 x6 x7 x8 S g Z80 Z90 Z159 → Z159 x1 x5 x6 x7 x8 S) → Z159 x1 x5 x6 x7 x8 S
set_option maxRecDepth 100000 in
set_option maxHeartbeats 4000000 in
theorem kp_X7_study_159B {K : xm_K} (h : Nat) (x1 : Option Nat) (x5 : Int32) (x6 : Int32) (x7 : Option Nat) (x8 : Int32) (S : xm_S) {g : xm_S → Prop} {Z80 : Option Nat → Int32 → xm_S → Prop} {Z90 : Option Nat → Int32 → Int32 → xm_S → Prop} {Z159 : Option Nat → Int32 → Int32 → Option Nat → Int32 → xm_S → Prop} (C : xm_Cx K cX7_study RX7 9 none rm_X7_study) (N : xm_Nx K) (hg : ∀ S, g S → xm_q K none S) (hZ80 : ∀ x1 x5 S, Z80 x1 x5 S → xm_W K 0 0 80 [(0, xm_r (some h)), (1, xm_r x1), (5, xm_i x5)] [] S) (hZ90 : ∀ x1 x5 x6 S, Z90 x1 x5 x6 S → xm_W K 0 0 90 [(0, xm_r (some h)), (1, xm_r x1), (5, xm_i x5), (6, xm_i x6)] [] S) (hZ159 : ∀ x1 x5 x6 x7 x8 S, Z159 x1 x5 x6 x7 x8 S → xm_W K 0 0 159 [(0, xm_r (some h)), (1, xm_r x1), (5, xm_i x5), (6, xm_i x6), (7, xm_r x7), (8, xm_i x8)] [] S) (h1 : wp_X7_study_159B h x1 x5 x6 x7 x8 S g Z80 Z90 Z159) : xm_W K 0 0 159 [(0, xm_r (some h)), (1, xm_r x1), (5, xm_i x5), (6, xm_i x6), (7, xm_r x7), (8, xm_i x8)] [] S := by
  unfold wp_X7_study_159B at h1
  refine x_iload C 5 dX7_study_159 rfl ?_
  refine x_aload C 4 dX7_study_161 rfl ?_
  obtain ⟨n1, hr2, h1⟩ := h1
  obtain ⟨ht3, h1⟩ := h1
  refine x_getf_i (n := n1) C hr2 ht3 fd_82 (by decide) dX7_study_163 ?_
  refine x_icmp_ge (tgt := 203) C dX7_study_166 (by decide) (fun z9 => ?_) (fun z9 => ?_)
  · have h1 := h1.1 z9
    obtain ⟨y4, e5⟩ : ∃ y4, y4 = (x6 + (1 : Int32)) := ⟨_, rfl⟩
    have h1 := h1 y4 e5
    refine x_iinc (v := y4) (L' := [(6, xm_i y4), (0, xm_r (some h)), (1, xm_r x1), (5, xm_i x5), (7, xm_r x7), (8, xm_i x8)]) C 3 dX7_study_203 rfl (by rw [e5]; rfl) (by decide) rfl ?_
    refine x_goto (tgt := 90) C dX7_study_206 (by decide) ?_
    refine x_keep (L' := [(0, xm_r (some h)), (1, xm_r x1), (5, xm_i x5), (6, xm_i y4)]) C [1, 2, 3, 0] rfl ?_
    exact hZ90 x1 x5 y4 S h1
  · have h1 := h1.2 z9
    refine x_aload_n C 0 dX7_study_169 rfl rfl ?_
    refine x_iload C 2 dX7_study_170 rfl ?_
    refine x_iload C 3 dX7_study_172 rfl ?_
    refine x_aload_n C 0 dX7_study_174 rfl rfl ?_
    refine x_aload C 4 dX7_study_175 rfl ?_
    obtain ⟨n6, hr7, h1⟩ := h1
    obtain ⟨ht8, h1⟩ := h1
    refine x_getf_r (n := n6) C hr7 ht8 fd_83 (by decide) dX7_study_177 ?_
    refine x_iload C 5 dX7_study_180 rfl ?_
    obtain ⟨n9, hr10, h1⟩ := h1
    obtain ⟨z12, ht11, h1⟩ := h1
    obtain ⟨hi13, h1⟩ := h1
    refine x_aald (n := n9) C hr10 (by decide) rfl ht11 hi13 dX7_study_182 ?_
    obtain ⟨ht14, h1⟩ := h1
    refine x_callV (rm' := rm_X7_meeting) (n := h) C (kp_X7_meeting_met h1) lk_23 gw_190 gw_191 xv_7 rfl rfl ht14 rfl (Nat.le_of_ble_eq_true rfl) ⟨Nat.le_of_ble_eq_true rfl, Nat.le_of_ble_eq_true rfl, (Nat.le_of_ble_eq_true rfl), (Nat.le_of_ble_eq_true rfl)⟩ dX7_study_183 xm_kx (xm_ki (fun r16 S15 h1 => ?_))
    refine x_iload C 2 dX7_study_186 rfl ?_
    refine x_callS (rm' := rm_X7_bitsOf) C (kp_X7_bitsOf_met h1) lk_24 gw_194 rfl (Nat.le_of_ble_eq_true rfl) ⟨Nat.le_of_ble_eq_true rfl, Nat.le_of_ble_eq_true rfl, (Nat.le_of_ble_eq_true rfl), (Nat.le_of_ble_eq_true rfl)⟩ dX7_study_188 xm_kx (xm_ki (fun r18 S17 h1 => ?_))
    refine x_iconst (v := (-1 : Int32)) C dX7_study_191 (by decide) ?_
    refine x_ixor C dX7_study_192 ?_
    refine x_iand C dX7_study_193 ?_
    obtain ⟨ht19, h1⟩ := h1
    refine x_callV (rm' := rm_X7_part) (n := h) C (kp_X7_part_met h1) lk_25 gw_197 gw_198 xv_7 rfl rfl ht19 rfl (Nat.le_of_ble_eq_true rfl) ⟨Nat.le_of_ble_eq_true rfl, Nat.le_of_ble_eq_true rfl, (Nat.le_of_ble_eq_true rfl), (Nat.le_of_ble_eq_true rfl)⟩ dX7_study_194 xm_kx (xm_kv (fun S20 h1 => ?_))
    obtain ⟨y22, e23⟩ : ∃ y22, y22 = (x8 + (1 : Int32)) := ⟨_, rfl⟩
    have h1 := h1 y22 e23
    refine x_iinc (v := y22) (L' := [(8, xm_i y22), (0, xm_r (some h)), (1, xm_r x1), (5, xm_i x5), (6, xm_i x6), (7, xm_r x7)]) C 5 dX7_study_197 rfl (by rw [e23]; rfl) (by decide) rfl ?_
    refine x_goto (tgt := 159) C dX7_study_200 (by decide) ?_
    refine x_keep (L' := [(0, xm_r (some h)), (1, xm_r x1), (5, xm_i x5), (6, xm_i x6), (7, xm_r x7), (8, xm_i y22)]) C [1, 2, 3, 4, 5, 0] rfl ?_
    exact hZ159 x1 x5 x6 x7 y22 S20 h1
theorem kp_X7_study_159 {K : xm_K} (h : Nat) (x1 : Option Nat) (x5 : Int32) (x6 : Int32) (x7 : Option Nat) (x8 : Int32) (S : xm_S) {g : xm_S → Prop} {Z80 : Option Nat → Int32 → xm_S → Prop} {Z90 : Option Nat → Int32 → Int32 → xm_S → Prop} (C : xm_Cx K cX7_study RX7 9 none rm_X7_study) (N : xm_Nx K) (hg : ∀ S, g S → xm_q K none S) (hZ80 : ∀ x1 x5 S, Z80 x1 x5 S → xm_W K 0 0 80 [(0, xm_r (some h)), (1, xm_r x1), (5, xm_i x5)] [] S) (hZ90 : ∀ x1 x5 x6 S, Z90 x1 x5 x6 S → xm_W K 0 0 90 [(0, xm_r (some h)), (1, xm_r x1), (5, xm_i x5), (6, xm_i x6)] [] S) (h1 : wp_X7_study_159 h x1 x5 x6 x7 x8 S g Z80 Z90) : xm_W K 0 0 159 [(0, xm_r (some h)), (1, xm_r x1), (5, xm_i x5), (6, xm_i x6), (7, xm_r x7), (8, xm_i x8)] [] S :=
  h1 (fun x1 x5 x6 x7 x8 S => xm_W K 0 0 159 [(0, xm_r (some h)), (1, xm_r x1), (5, xm_i x5), (6, xm_i x6), (7, xm_r x7), (8, xm_i x8)] [] S) (fun x1 x5 x6 x7 x8 S hb => kp_X7_study_159B h x1 x5 x6 x7 x8 S C N hg hZ80 hZ90 (fun x1 x5 x6 x7 x8 S hz => hz) hb)
def wp_X7_study_117B (h : Nat) (x1 : Option Nat) (x5 : Int32) (x6 : Int32) (x7 : Option Nat) (x8 : Int32) (S : xm_S) (g : xm_S → Prop) (Z80 : Option Nat → Int32 → xm_S → Prop) (Z90 : Option Nat → Int32 → Int32 → xm_S → Prop) (Z117 : Option Nat → Int32 → Int32 → Option Nat → Int32 → xm_S → Prop) : Prop :=
  ∃ n24, x7 = some n24 ∧ st_t S n24 = some (10, 0) ∧ ((st_i S n24 7) ≤ x8 → wp_X7_study_159 h x1 x5 x6 x7 (0 : Int32) S g Z80 Z90) ∧ (¬ (st_i S n24 7) ≤ x8 → ∃ n27, x7 = some n27 ∧ st_t S n27 = some (10, 0) ∧ ∃ n30, (st_r S n27 6) = some n30 ∧ ∃ z33, st_t S n30 = some (114, z33) ∧ vp_in x8 z33 ∧ ∃ n35, x7 = some n35 ∧ st_t S n35 = some (10, 0) ∧ ∃ n38, (st_r S n35 6) = some n38 ∧ ∃ z41, st_t S n38 = some (114, z41) ∧ vp_in x8 z41 ∧ st_t S h = some (7, 0) ∧ wp_X7_meeting h (st_r S n38 (x8).toNatClampNeg) S (fun r45 S44 => ∃ n46, (st_r S n30 (x8).toNatClampNeg) = some n46 ∧ st_t S44 n46 = some (4, 0) ∧ ∀ S49, S49 = st_pi S44 n46 5 r45 → ∀ y51, y51 = (x8 + (1 : Int32)) → Z117 x1 x5 x6 x7 y51 S49))
def wp_X7_study_117 (h : Nat) (x1 : Option Nat) (x5 : Int32) (x6 : Int32) (x7 : Option Nat) (x8 : Int32) (S : xm_S) (g : xm_S → Prop) (Z80 : Option Nat → Int32 → xm_S → Prop) (Z90 : Option Nat → Int32 → Int32 → xm_S → Prop) : Prop :=
  ∀ Z117 : Option Nat → Int32 → Int32 → Option Nat → Int32 → xm_S → Prop, (∀ x1 x5 x6 x7 x8 S, wp_X7_study_117B h x1 x5 x6 x7 x8 S g Z80 Z90 Z117 → Z117 x1 x5 x6 x7 x8 S) → Z117 x1 x5 x6 x7 x8 S
set_option maxRecDepth 100000 in
set_option maxHeartbeats 4000000 in
theorem kp_X7_study_117B {K : xm_K} (h : Nat) (x1 : Option Nat) (x5 : Int32) (x6 : Int32) (x7 : Option Nat) (x8 : Int32) (S : xm_S) {g : xm_S → Prop} {Z80 : Option Nat → Int32 → xm_S → Prop} {Z90 : Option Nat → Int32 → Int32 → xm_S → Prop} {Z117 : Option Nat → Int32 → Int32 → Option Nat → Int32 → xm_S → Prop} (C : xm_Cx K cX7_study RX7 9 none rm_X7_study) (N : xm_Nx K) (hg : ∀ S, g S → xm_q K none S) (hZ80 : ∀ x1 x5 S, Z80 x1 x5 S → xm_W K 0 0 80 [(0, xm_r (some h)), (1, xm_r x1), (5, xm_i x5)] [] S) (hZ90 : ∀ x1 x5 x6 S, Z90 x1 x5 x6 S → xm_W K 0 0 90 [(0, xm_r (some h)), (1, xm_r x1), (5, xm_i x5), (6, xm_i x6)] [] S) (hZ117 : ∀ x1 x5 x6 x7 x8 S, Z117 x1 x5 x6 x7 x8 S → xm_W K 0 0 117 [(0, xm_r (some h)), (1, xm_r x1), (5, xm_i x5), (6, xm_i x6), (7, xm_r x7), (8, xm_i x8)] [] S) (h1 : wp_X7_study_117B h x1 x5 x6 x7 x8 S g Z80 Z90 Z117) : xm_W K 0 0 117 [(0, xm_r (some h)), (1, xm_r x1), (5, xm_i x5), (6, xm_i x6), (7, xm_r x7), (8, xm_i x8)] [] S := by
  unfold wp_X7_study_117B at h1
  refine x_iload C 5 dX7_study_117 rfl ?_
  refine x_aload C 4 dX7_study_119 rfl ?_
  obtain ⟨n24, hr25, h1⟩ := h1
  obtain ⟨ht26, h1⟩ := h1
  refine x_getf_i (n := n24) C hr25 ht26 fd_53 (by decide) dX7_study_121 ?_
  refine x_icmp_ge (tgt := 156) C dX7_study_124 (by decide) (fun z9 => ?_) (fun z9 => ?_)
  · have h1 := h1.1 z9
    refine x_iconst (v := (0 : Int32)) C dX7_study_156 (by decide) ?_
    refine x_istore (L' := [(8, xm_i (0 : Int32)), (0, xm_r (some h)), (1, xm_r x1), (5, xm_i x5), (6, xm_i x6), (7, xm_r x7)]) C dX7_study_157 (by decide) rfl ?_
    refine x_keep (L' := [(0, xm_r (some h)), (1, xm_r x1), (5, xm_i x5), (6, xm_i x6), (7, xm_r x7), (8, xm_i (0 : Int32))]) C [1, 2, 3, 4, 5, 0] rfl ?_
    exact kp_X7_study_159 h x1 x5 x6 x7 (0 : Int32) S C N hg hZ80 hZ90 h1
  · have h1 := h1.2 z9
    refine x_aload C 4 dX7_study_127 rfl ?_
    obtain ⟨n27, hr28, h1⟩ := h1
    obtain ⟨ht29, h1⟩ := h1
    refine x_getf_r (n := n27) C hr28 ht29 fd_54 (by decide) dX7_study_129 ?_
    refine x_iload C 5 dX7_study_132 rfl ?_
    obtain ⟨n30, hr31, h1⟩ := h1
    obtain ⟨z33, ht32, h1⟩ := h1
    obtain ⟨hi34, h1⟩ := h1
    refine x_aald (n := n30) C hr31 (by decide) rfl ht32 hi34 dX7_study_134 ?_
    refine x_aload_n C 0 dX7_study_135 rfl rfl ?_
    refine x_aload C 4 dX7_study_136 rfl ?_
    obtain ⟨n35, hr36, h1⟩ := h1
    obtain ⟨ht37, h1⟩ := h1
    refine x_getf_r (n := n35) C hr36 ht37 fd_54 (by decide) dX7_study_138 ?_
    refine x_iload C 5 dX7_study_141 rfl ?_
    obtain ⟨n38, hr39, h1⟩ := h1
    obtain ⟨z41, ht40, h1⟩ := h1
    obtain ⟨hi42, h1⟩ := h1
    refine x_aald (n := n38) C hr39 (by decide) rfl ht40 hi42 dX7_study_143 ?_
    obtain ⟨ht43, h1⟩ := h1
    refine x_callV (rm' := rm_X7_meeting) (n := h) C (kp_X7_meeting_met h1) lk_23 gw_190 gw_191 xv_7 rfl rfl ht43 rfl (Nat.le_of_ble_eq_true rfl) ⟨Nat.le_of_ble_eq_true rfl, Nat.le_of_ble_eq_true rfl, (Nat.le_of_ble_eq_true rfl), (Nat.le_of_ble_eq_true rfl)⟩ dX7_study_144 xm_kx (xm_ki (fun r45 S44 h1 => ?_))
    obtain ⟨n46, hr47, h1⟩ := h1
    obtain ⟨ht48, h1⟩ := h1
    refine x_putf_i (n := n46) C hr47 ht48 fd_46 xc_4 (by decide) rfl ⟨rfl, rfl⟩ dX7_study_147 ?_
    refine x_topS (fun S49 e50 => ?_)
    have h1 := h1 S49 e50
    obtain ⟨y51, e52⟩ : ∃ y51, y51 = (x8 + (1 : Int32)) := ⟨_, rfl⟩
    have h1 := h1 y51 e52
    refine x_iinc (v := y51) (L' := [(8, xm_i y51), (0, xm_r (some h)), (1, xm_r x1), (5, xm_i x5), (6, xm_i x6), (7, xm_r x7)]) C 5 dX7_study_150 rfl (by rw [e52]; rfl) (by decide) rfl ?_
    refine x_goto (tgt := 117) C dX7_study_153 (by decide) ?_
    refine x_keep (L' := [(0, xm_r (some h)), (1, xm_r x1), (5, xm_i x5), (6, xm_i x6), (7, xm_r x7), (8, xm_i y51)]) C [1, 2, 3, 4, 5, 0] rfl ?_
    exact hZ117 x1 x5 x6 x7 y51 S49 h1
theorem kp_X7_study_117 {K : xm_K} (h : Nat) (x1 : Option Nat) (x5 : Int32) (x6 : Int32) (x7 : Option Nat) (x8 : Int32) (S : xm_S) {g : xm_S → Prop} {Z80 : Option Nat → Int32 → xm_S → Prop} {Z90 : Option Nat → Int32 → Int32 → xm_S → Prop} (C : xm_Cx K cX7_study RX7 9 none rm_X7_study) (N : xm_Nx K) (hg : ∀ S, g S → xm_q K none S) (hZ80 : ∀ x1 x5 S, Z80 x1 x5 S → xm_W K 0 0 80 [(0, xm_r (some h)), (1, xm_r x1), (5, xm_i x5)] [] S) (hZ90 : ∀ x1 x5 x6 S, Z90 x1 x5 x6 S → xm_W K 0 0 90 [(0, xm_r (some h)), (1, xm_r x1), (5, xm_i x5), (6, xm_i x6)] [] S) (h1 : wp_X7_study_117 h x1 x5 x6 x7 x8 S g Z80 Z90) : xm_W K 0 0 117 [(0, xm_r (some h)), (1, xm_r x1), (5, xm_i x5), (6, xm_i x6), (7, xm_r x7), (8, xm_i x8)] [] S :=
  h1 (fun x1 x5 x6 x7 x8 S => xm_W K 0 0 117 [(0, xm_r (some h)), (1, xm_r x1), (5, xm_i x5), (6, xm_i x6), (7, xm_r x7), (8, xm_i x8)] [] S) (fun x1 x5 x6 x7 x8 S hb => kp_X7_study_117B h x1 x5 x6 x7 x8 S C N hg hZ80 hZ90 (fun x1 x5 x6 x7 x8 S hz => hz) hb)
def wp_X7_study_90B (h : Nat) (x1 : Option Nat) (x5 : Int32) (x6 : Int32) (S : xm_S) (g : xm_S → Prop) (Z80 : Option Nat → Int32 → xm_S → Prop) (Z90 : Option Nat → Int32 → Int32 → xm_S → Prop) : Prop :=
  ∃ n53, x1 = some n53 ∧ ∃ z56, st_t S n53 = some (115, z56) ∧ vp_in x5 z56 ∧ ∃ n58, (st_r S n53 (x5).toNatClampNeg) = some n58 ∧ st_t S n58 = some (5, 0) ∧ ((st_i S n58 2) ≤ x6 → ∀ y61, y61 = (x5 + (1 : Int32)) → Z80 x1 y61 S) ∧ (¬ (st_i S n58 2) ≤ x6 → ∃ n63, x1 = some n63 ∧ ∃ z66, st_t S n63 = some (115, z66) ∧ vp_in x5 z66 ∧ ∃ n68, (st_r S n63 (x5).toNatClampNeg) = some n68 ∧ st_t S n68 = some (5, 0) ∧ ∃ n71, (st_r S n68 1) = some n71 ∧ ∃ z74, st_t S n71 = some (120, z74) ∧ vp_in x6 z74 ∧ wp_X7_study_117 h x1 x5 x6 (st_r S n71 (x6).toNatClampNeg) (0 : Int32) S g Z80 Z90)
def wp_X7_study_90 (h : Nat) (x1 : Option Nat) (x5 : Int32) (x6 : Int32) (S : xm_S) (g : xm_S → Prop) (Z80 : Option Nat → Int32 → xm_S → Prop) : Prop :=
  ∀ Z90 : Option Nat → Int32 → Int32 → xm_S → Prop, (∀ x1 x5 x6 S, wp_X7_study_90B h x1 x5 x6 S g Z80 Z90 → Z90 x1 x5 x6 S) → Z90 x1 x5 x6 S
set_option maxRecDepth 100000 in
set_option maxHeartbeats 4000000 in
theorem kp_X7_study_90B {K : xm_K} (h : Nat) (x1 : Option Nat) (x5 : Int32) (x6 : Int32) (S : xm_S) {g : xm_S → Prop} {Z80 : Option Nat → Int32 → xm_S → Prop} {Z90 : Option Nat → Int32 → Int32 → xm_S → Prop} (C : xm_Cx K cX7_study RX7 9 none rm_X7_study) (N : xm_Nx K) (hg : ∀ S, g S → xm_q K none S) (hZ80 : ∀ x1 x5 S, Z80 x1 x5 S → xm_W K 0 0 80 [(0, xm_r (some h)), (1, xm_r x1), (5, xm_i x5)] [] S) (hZ90 : ∀ x1 x5 x6 S, Z90 x1 x5 x6 S → xm_W K 0 0 90 [(0, xm_r (some h)), (1, xm_r x1), (5, xm_i x5), (6, xm_i x6)] [] S) (h1 : wp_X7_study_90B h x1 x5 x6 S g Z80 Z90) : xm_W K 0 0 90 [(0, xm_r (some h)), (1, xm_r x1), (5, xm_i x5), (6, xm_i x6)] [] S := by
  unfold wp_X7_study_90B at h1
  refine x_iload C 3 dX7_study_90 rfl ?_
  refine x_aload_n C 1 dX7_study_92 rfl rfl ?_
  refine x_iload C 2 dX7_study_93 rfl ?_
  obtain ⟨n53, hr54, h1⟩ := h1
  obtain ⟨z56, ht55, h1⟩ := h1
  obtain ⟨hi57, h1⟩ := h1
  refine x_aald (n := n53) C hr54 (by decide) rfl ht55 hi57 dX7_study_95 ?_
  obtain ⟨n58, hr59, h1⟩ := h1
  obtain ⟨ht60, h1⟩ := h1
  refine x_getf_i (n := n58) C hr59 ht60 fd_62 (by decide) dX7_study_96 ?_
  refine x_icmp_ge (tgt := 209) C dX7_study_99 (by decide) (fun z9 => ?_) (fun z9 => ?_)
  · have h1 := h1.1 z9
    obtain ⟨y61, e62⟩ : ∃ y61, y61 = (x5 + (1 : Int32)) := ⟨_, rfl⟩
    have h1 := h1 y61 e62
    refine x_iinc (v := y61) (L' := [(5, xm_i y61), (0, xm_r (some h)), (1, xm_r x1), (6, xm_i x6)]) C 2 dX7_study_209 rfl (by rw [e62]; rfl) (by decide) rfl ?_
    refine x_goto (tgt := 80) C dX7_study_212 (by decide) ?_
    refine x_keep (L' := [(0, xm_r (some h)), (1, xm_r x1), (5, xm_i y61)]) C [1, 2, 0] rfl ?_
    exact hZ80 x1 y61 S h1
  · have h1 := h1.2 z9
    refine x_aload_n C 1 dX7_study_102 rfl rfl ?_
    refine x_iload C 2 dX7_study_103 rfl ?_
    obtain ⟨n63, hr64, h1⟩ := h1
    obtain ⟨z66, ht65, h1⟩ := h1
    obtain ⟨hi67, h1⟩ := h1
    refine x_aald (n := n63) C hr64 (by decide) rfl ht65 hi67 dX7_study_105 ?_
    obtain ⟨n68, hr69, h1⟩ := h1
    obtain ⟨ht70, h1⟩ := h1
    refine x_getf_r (n := n68) C hr69 ht70 fd_57 (by decide) dX7_study_106 ?_
    refine x_iload C 3 dX7_study_109 rfl ?_
    obtain ⟨n71, hr72, h1⟩ := h1
    obtain ⟨z74, ht73, h1⟩ := h1
    obtain ⟨hi75, h1⟩ := h1
    refine x_aald (n := n71) C hr72 (by decide) rfl ht73 hi75 dX7_study_111 ?_
    refine x_astore (L' := [(7, xm_r (st_r S n71 (x6).toNatClampNeg)), (0, xm_r (some h)), (1, xm_r x1), (5, xm_i x5), (6, xm_i x6)]) C dX7_study_112 (by decide) rfl ?_
    refine x_iconst (v := (0 : Int32)) C dX7_study_114 (by decide) ?_
    refine x_istore (L' := [(8, xm_i (0 : Int32)), (7, xm_r (st_r S n71 (x6).toNatClampNeg)), (0, xm_r (some h)), (1, xm_r x1), (5, xm_i x5), (6, xm_i x6)]) C dX7_study_115 (by decide) rfl ?_
    refine x_keep (L' := [(0, xm_r (some h)), (1, xm_r x1), (5, xm_i x5), (6, xm_i x6), (7, xm_r (st_r S n71 (x6).toNatClampNeg)), (8, xm_i (0 : Int32))]) C [2, 3, 4, 5, 1, 0] rfl ?_
    exact kp_X7_study_117 h x1 x5 x6 (st_r S n71 (x6).toNatClampNeg) (0 : Int32) S C N hg hZ80 hZ90 h1
theorem kp_X7_study_90 {K : xm_K} (h : Nat) (x1 : Option Nat) (x5 : Int32) (x6 : Int32) (S : xm_S) {g : xm_S → Prop} {Z80 : Option Nat → Int32 → xm_S → Prop} (C : xm_Cx K cX7_study RX7 9 none rm_X7_study) (N : xm_Nx K) (hg : ∀ S, g S → xm_q K none S) (hZ80 : ∀ x1 x5 S, Z80 x1 x5 S → xm_W K 0 0 80 [(0, xm_r (some h)), (1, xm_r x1), (5, xm_i x5)] [] S) (h1 : wp_X7_study_90 h x1 x5 x6 S g Z80) : xm_W K 0 0 90 [(0, xm_r (some h)), (1, xm_r x1), (5, xm_i x5), (6, xm_i x6)] [] S :=
  h1 (fun x1 x5 x6 S => xm_W K 0 0 90 [(0, xm_r (some h)), (1, xm_r x1), (5, xm_i x5), (6, xm_i x6)] [] S) (fun x1 x5 x6 S hb => kp_X7_study_90B h x1 x5 x6 S C N hg hZ80 (fun x1 x5 x6 S hz => hz) hb)
def wp_X7_study_80B (h : Nat) (x1 : Option Nat) (x5 : Int32) (S : xm_S) (g : xm_S → Prop) (Z80 : Option Nat → Int32 → xm_S → Prop) : Prop :=
  ((nI 6) ≤ x5 → g S) ∧ (¬ (nI 6) ≤ x5 → wp_X7_study_90 h x1 x5 (0 : Int32) S g Z80)
def wp_X7_study_80 (h : Nat) (x1 : Option Nat) (x5 : Int32) (S : xm_S) (g : xm_S → Prop) : Prop :=
  ∀ Z80 : Option Nat → Int32 → xm_S → Prop, (∀ x1 x5 S, wp_X7_study_80B h x1 x5 S g Z80 → Z80 x1 x5 S) → Z80 x1 x5 S
set_option maxRecDepth 100000 in
set_option maxHeartbeats 4000000 in
theorem kp_X7_study_80B {K : xm_K} (h : Nat) (x1 : Option Nat) (x5 : Int32) (S : xm_S) {g : xm_S → Prop} {Z80 : Option Nat → Int32 → xm_S → Prop} (C : xm_Cx K cX7_study RX7 9 none rm_X7_study) (N : xm_Nx K) (hg : ∀ S, g S → xm_q K none S) (hZ80 : ∀ x1 x5 S, Z80 x1 x5 S → xm_W K 0 0 80 [(0, xm_r (some h)), (1, xm_r x1), (5, xm_i x5)] [] S) (h1 : wp_X7_study_80B h x1 x5 S g Z80) : xm_W K 0 0 80 [(0, xm_r (some h)), (1, xm_r x1), (5, xm_i x5)] [] S := by
  unfold wp_X7_study_80B at h1
  refine x_iload C 2 dX7_study_80 rfl ?_
  refine x_bipush (v := (nI 6)) C dX7_study_82 (by decide) ?_
  refine x_icmp_ge (tgt := 215) C dX7_study_84 (by decide) (fun z9 => ?_) (fun z9 => ?_)
  · have h1 := h1.1 z9
    exact x_vret C (Nat.le_of_ble_eq_true rfl) (Nat.le_of_ble_eq_true rfl) rfl dX7_study_215 (hg _ h1)
  · have h1 := h1.2 z9
    refine x_iconst (v := (0 : Int32)) C dX7_study_87 (by decide) ?_
    refine x_istore (L' := [(6, xm_i (0 : Int32)), (0, xm_r (some h)), (1, xm_r x1), (5, xm_i x5)]) C dX7_study_88 (by decide) rfl ?_
    refine x_keep (L' := [(0, xm_r (some h)), (1, xm_r x1), (5, xm_i x5), (6, xm_i (0 : Int32))]) C [1, 2, 3, 0] rfl ?_
    exact kp_X7_study_90 h x1 x5 (0 : Int32) S C N hg hZ80 h1
theorem kp_X7_study_80 {K : xm_K} (h : Nat) (x1 : Option Nat) (x5 : Int32) (S : xm_S) {g : xm_S → Prop} (C : xm_Cx K cX7_study RX7 9 none rm_X7_study) (N : xm_Nx K) (hg : ∀ S, g S → xm_q K none S)  (h1 : wp_X7_study_80 h x1 x5 S g) : xm_W K 0 0 80 [(0, xm_r (some h)), (1, xm_r x1), (5, xm_i x5)] [] S :=
  h1 (fun x1 x5 S => xm_W K 0 0 80 [(0, xm_r (some h)), (1, xm_r x1), (5, xm_i x5)] [] S) (fun x1 x5 S hb => kp_X7_study_80B h x1 x5 S C N hg (fun x1 x5 S hz => hz) hb)
def wp_X7_study_50B (h : Nat) (x1 : Option Nat) (x2 : Option Nat) (x3 : Int32) (x5 : Int32) (S : xm_S) (g : xm_S → Prop) (Z50 : Option Nat → Option Nat → Int32 → Int32 → xm_S → Prop) : Prop :=
  (x3 ≤ x5 → wp_X7_study_80 h x1 (0 : Int32) S g) ∧ (¬ x3 ≤ x5 → ∃ n76, x2 = some n76 ∧ ∃ z79, st_t S n76 = some (114, z79) ∧ vp_in x5 z79 ∧ ∃ n81, x2 = some n81 ∧ ∃ z84, st_t S n81 = some (114, z84) ∧ vp_in x5 z84 ∧ st_t S h = some (7, 0) ∧ wp_X7_meeting h (st_r S n81 (x5).toNatClampNeg) S (fun r88 S87 => ∃ n89, (st_r S n76 (x5).toNatClampNeg) = some n89 ∧ st_t S87 n89 = some (4, 0) ∧ ∀ S92, S92 = st_pi S87 n89 5 r88 → ∀ y94, y94 = (x5 + (1 : Int32)) → Z50 x1 x2 x3 y94 S92))
def wp_X7_study_50 (h : Nat) (x1 : Option Nat) (x2 : Option Nat) (x3 : Int32) (x5 : Int32) (S : xm_S) (g : xm_S → Prop) : Prop :=
  ∀ Z50 : Option Nat → Option Nat → Int32 → Int32 → xm_S → Prop, (∀ x1 x2 x3 x5 S, wp_X7_study_50B h x1 x2 x3 x5 S g Z50 → Z50 x1 x2 x3 x5 S) → Z50 x1 x2 x3 x5 S
set_option maxRecDepth 100000 in
set_option maxHeartbeats 4000000 in
theorem kp_X7_study_50B {K : xm_K} (h : Nat) (x1 : Option Nat) (x2 : Option Nat) (x3 : Int32) (x5 : Int32) (S : xm_S) {g : xm_S → Prop} {Z50 : Option Nat → Option Nat → Int32 → Int32 → xm_S → Prop} (C : xm_Cx K cX7_study RX7 9 none rm_X7_study) (N : xm_Nx K) (hg : ∀ S, g S → xm_q K none S) (hZ50 : ∀ x1 x2 x3 x5 S, Z50 x1 x2 x3 x5 S → xm_W K 0 0 50 [(0, xm_r (some h)), (1, xm_r x1), (2, xm_r x2), (3, xm_i x3), (5, xm_i x5)] [] S) (h1 : wp_X7_study_50B h x1 x2 x3 x5 S g Z50) : xm_W K 0 0 50 [(0, xm_r (some h)), (1, xm_r x1), (2, xm_r x2), (3, xm_i x3), (5, xm_i x5)] [] S := by
  unfold wp_X7_study_50B at h1
  refine x_iload C 4 dX7_study_50 rfl ?_
  refine x_iload_n C 3 dX7_study_52 rfl rfl ?_
  refine x_icmp_ge (tgt := 77) C dX7_study_53 (by decide) (fun z9 => ?_) (fun z9 => ?_)
  · have h1 := h1.1 z9
    refine x_iconst (v := (0 : Int32)) C dX7_study_77 (by decide) ?_
    refine x_istore (L' := [(5, xm_i (0 : Int32)), (0, xm_r (some h)), (1, xm_r x1), (2, xm_r x2), (3, xm_i x3)]) C dX7_study_78 (by decide) rfl ?_
    refine x_keep (L' := [(0, xm_r (some h)), (1, xm_r x1), (5, xm_i (0 : Int32))]) C [1, 2, 0] rfl ?_
    exact kp_X7_study_80 h x1 (0 : Int32) S C N hg  h1
  · have h1 := h1.2 z9
    refine x_aload_n C 2 dX7_study_56 rfl rfl ?_
    refine x_iload C 4 dX7_study_57 rfl ?_
    obtain ⟨n76, hr77, h1⟩ := h1
    obtain ⟨z79, ht78, h1⟩ := h1
    obtain ⟨hi80, h1⟩ := h1
    refine x_aald (n := n76) C hr77 (by decide) rfl ht78 hi80 dX7_study_59 ?_
    refine x_aload_n C 0 dX7_study_60 rfl rfl ?_
    refine x_aload_n C 2 dX7_study_61 rfl rfl ?_
    refine x_iload C 4 dX7_study_62 rfl ?_
    obtain ⟨n81, hr82, h1⟩ := h1
    obtain ⟨z84, ht83, h1⟩ := h1
    obtain ⟨hi85, h1⟩ := h1
    refine x_aald (n := n81) C hr82 (by decide) rfl ht83 hi85 dX7_study_64 ?_
    obtain ⟨ht86, h1⟩ := h1
    refine x_callV (rm' := rm_X7_meeting) (n := h) C (kp_X7_meeting_met h1) lk_23 gw_190 gw_191 xv_7 rfl rfl ht86 rfl (Nat.le_of_ble_eq_true rfl) ⟨Nat.le_of_ble_eq_true rfl, Nat.le_of_ble_eq_true rfl, (Nat.le_of_ble_eq_true rfl), (Nat.le_of_ble_eq_true rfl)⟩ dX7_study_65 xm_kx (xm_ki (fun r88 S87 h1 => ?_))
    obtain ⟨n89, hr90, h1⟩ := h1
    obtain ⟨ht91, h1⟩ := h1
    refine x_putf_i (n := n89) C hr90 ht91 fd_46 xc_4 (by decide) rfl ⟨rfl, rfl⟩ dX7_study_68 ?_
    refine x_topS (fun S92 e93 => ?_)
    have h1 := h1 S92 e93
    obtain ⟨y94, e95⟩ : ∃ y94, y94 = (x5 + (1 : Int32)) := ⟨_, rfl⟩
    have h1 := h1 y94 e95
    refine x_iinc (v := y94) (L' := [(5, xm_i y94), (0, xm_r (some h)), (1, xm_r x1), (2, xm_r x2), (3, xm_i x3)]) C 4 dX7_study_71 rfl (by rw [e95]; rfl) (by decide) rfl ?_
    refine x_goto (tgt := 50) C dX7_study_74 (by decide) ?_
    refine x_keep (L' := [(0, xm_r (some h)), (1, xm_r x1), (2, xm_r x2), (3, xm_i x3), (5, xm_i y94)]) C [1, 2, 3, 4, 0] rfl ?_
    exact hZ50 x1 x2 x3 y94 S92 h1
theorem kp_X7_study_50 {K : xm_K} (h : Nat) (x1 : Option Nat) (x2 : Option Nat) (x3 : Int32) (x5 : Int32) (S : xm_S) {g : xm_S → Prop} (C : xm_Cx K cX7_study RX7 9 none rm_X7_study) (N : xm_Nx K) (hg : ∀ S, g S → xm_q K none S)  (h1 : wp_X7_study_50 h x1 x2 x3 x5 S g) : xm_W K 0 0 50 [(0, xm_r (some h)), (1, xm_r x1), (2, xm_r x2), (3, xm_i x3), (5, xm_i x5)] [] S :=
  h1 (fun x1 x2 x3 x5 S => xm_W K 0 0 50 [(0, xm_r (some h)), (1, xm_r x1), (2, xm_r x2), (3, xm_i x3), (5, xm_i x5)] [] S) (fun x1 x2 x3 x5 S hb => kp_X7_study_50B h x1 x2 x3 x5 S C N hg (fun x1 x2 x3 x5 S hz => hz) hb)
def wp_X7_study_26B (h : Nat) (x1 : Option Nat) (x2 : Option Nat) (x3 : Int32) (x5 : Int32) (S : xm_S) (g : xm_S → Prop) (Z26 : Option Nat → Option Nat → Int32 → Int32 → xm_S → Prop) : Prop :=
  ((nI 24) ≤ x5 → wp_X7_study_50 h x1 x2 x3 (0 : Int32) S g) ∧ (¬ (nI 24) ≤ x5 → st_t S h = some (7, 0) ∧ ∃ n97, (st_r S h 4) = some n97 ∧ ∃ z100, st_t S n97 = some (100, z100) ∧ vp_in x5 z100 ∧ ∀ S102, S102 = st_pi S n97 (x5).toNatClampNeg (0 : Int32) → ∀ y104, y104 = (x5 + (1 : Int32)) → Z26 x1 x2 x3 y104 S102)
def wp_X7_study_26 (h : Nat) (x1 : Option Nat) (x2 : Option Nat) (x3 : Int32) (x5 : Int32) (S : xm_S) (g : xm_S → Prop) : Prop :=
  ∀ Z26 : Option Nat → Option Nat → Int32 → Int32 → xm_S → Prop, (∀ x1 x2 x3 x5 S, wp_X7_study_26B h x1 x2 x3 x5 S g Z26 → Z26 x1 x2 x3 x5 S) → Z26 x1 x2 x3 x5 S
set_option maxRecDepth 100000 in
set_option maxHeartbeats 4000000 in
theorem kp_X7_study_26B {K : xm_K} (h : Nat) (x1 : Option Nat) (x2 : Option Nat) (x3 : Int32) (x5 : Int32) (S : xm_S) {g : xm_S → Prop} {Z26 : Option Nat → Option Nat → Int32 → Int32 → xm_S → Prop} (C : xm_Cx K cX7_study RX7 9 none rm_X7_study) (N : xm_Nx K) (hg : ∀ S, g S → xm_q K none S) (hZ26 : ∀ x1 x2 x3 x5 S, Z26 x1 x2 x3 x5 S → xm_W K 0 0 26 [(0, xm_r (some h)), (1, xm_r x1), (2, xm_r x2), (3, xm_i x3), (5, xm_i x5)] [] S) (h1 : wp_X7_study_26B h x1 x2 x3 x5 S g Z26) : xm_W K 0 0 26 [(0, xm_r (some h)), (1, xm_r x1), (2, xm_r x2), (3, xm_i x3), (5, xm_i x5)] [] S := by
  unfold wp_X7_study_26B at h1
  refine x_iload C 4 dX7_study_26 rfl ?_
  refine x_bipush (v := (nI 24)) C dX7_study_28 (by decide) ?_
  refine x_icmp_ge (tgt := 47) C dX7_study_30 (by decide) (fun z9 => ?_) (fun z9 => ?_)
  · have h1 := h1.1 z9
    refine x_iconst (v := (0 : Int32)) C dX7_study_47 (by decide) ?_
    refine x_istore (L' := [(5, xm_i (0 : Int32)), (0, xm_r (some h)), (1, xm_r x1), (2, xm_r x2), (3, xm_i x3)]) C dX7_study_48 (by decide) rfl ?_
    refine x_keep (L' := [(0, xm_r (some h)), (1, xm_r x1), (2, xm_r x2), (3, xm_i x3), (5, xm_i (0 : Int32))]) C [1, 2, 3, 4, 0] rfl ?_
    exact kp_X7_study_50 h x1 x2 x3 (0 : Int32) S C N hg  h1
  · have h1 := h1.2 z9
    refine x_aload_n C 0 dX7_study_33 rfl rfl ?_
    obtain ⟨ht96, h1⟩ := h1
    refine x_getf_r (n := h) C rfl ht96 fd_68 (by decide) dX7_study_34 ?_
    refine x_iload C 4 dX7_study_37 rfl ?_
    refine x_iconst (v := (0 : Int32)) C dX7_study_39 (by decide) ?_
    obtain ⟨n97, hr98, h1⟩ := h1
    obtain ⟨z100, ht99, h1⟩ := h1
    obtain ⟨hi101, h1⟩ := h1
    refine x_iast (n := n97) C hr98 ht99 hi101 dX7_study_40 ?_
    refine x_topS (fun S102 e103 => ?_)
    have h1 := h1 S102 e103
    obtain ⟨y104, e105⟩ : ∃ y104, y104 = (x5 + (1 : Int32)) := ⟨_, rfl⟩
    have h1 := h1 y104 e105
    refine x_iinc (v := y104) (L' := [(5, xm_i y104), (0, xm_r (some h)), (1, xm_r x1), (2, xm_r x2), (3, xm_i x3)]) C 4 dX7_study_41 rfl (by rw [e105]; rfl) (by decide) rfl ?_
    refine x_goto (tgt := 26) C dX7_study_44 (by decide) ?_
    refine x_keep (L' := [(0, xm_r (some h)), (1, xm_r x1), (2, xm_r x2), (3, xm_i x3), (5, xm_i y104)]) C [1, 2, 3, 4, 0] rfl ?_
    exact hZ26 x1 x2 x3 y104 S102 h1
theorem kp_X7_study_26 {K : xm_K} (h : Nat) (x1 : Option Nat) (x2 : Option Nat) (x3 : Int32) (x5 : Int32) (S : xm_S) {g : xm_S → Prop} (C : xm_Cx K cX7_study RX7 9 none rm_X7_study) (N : xm_Nx K) (hg : ∀ S, g S → xm_q K none S)  (h1 : wp_X7_study_26 h x1 x2 x3 x5 S g) : xm_W K 0 0 26 [(0, xm_r (some h)), (1, xm_r x1), (2, xm_r x2), (3, xm_i x3), (5, xm_i x5)] [] S :=
  h1 (fun x1 x2 x3 x5 S => xm_W K 0 0 26 [(0, xm_r (some h)), (1, xm_r x1), (2, xm_r x2), (3, xm_i x3), (5, xm_i x5)] [] S) (fun x1 x2 x3 x5 S hb => kp_X7_study_26B h x1 x2 x3 x5 S C N hg (fun x1 x2 x3 x5 S hz => hz) hb)
def wp_X7_study (h : Nat) (x1 : Option Nat) (x2 : Option Nat) (x3 : Int32) (x4 : Int32) (S : xm_S) (g : xm_S → Prop) : Prop :=
  st_t S h = some (7, 0) ∧ ∀ S107, S107 = st_pr S h 0 x1 → ∀ S109, S109 = st_pr S107 h 1 x2 → ∀ S111, S111 = st_pi S109 h 2 x3 → ∀ S113, S113 = st_pi S111 h 3 ((1 : Int32) <<< (x4 &&& 31)) → wp_X7_study_26 h x1 x2 x3 (0 : Int32) S113 g
set_option maxRecDepth 100000 in
set_option maxHeartbeats 4000000 in
theorem kp_X7_study {K : xm_K} (h : Nat) (x1 : Option Nat) (x2 : Option Nat) (x3 : Int32) (x4 : Int32) (S : xm_S) {g : xm_S → Prop} (C : xm_Cx K cX7_study RX7 9 none rm_X7_study) (N : xm_Nx K) (hg : ∀ S, g S → xm_q K none S)  (h1 : wp_X7_study h x1 x2 x3 x4 S g) : xm_W K 0 0 0 [(0, xm_r (some h)), (1, xm_r x1), (2, xm_r x2), (3, xm_i x3), (4, xm_i x4)] [] S := by
  unfold wp_X7_study at h1
  refine x_aload_n C 0 dX7_study_0 rfl rfl ?_
  refine x_aload_n C 1 dX7_study_1 rfl rfl ?_
  obtain ⟨ht106, h1⟩ := h1
  refine x_putf_r (n := h) C rfl ht106 fd_56 xc_7 (by decide) rfl (xm_nr rfl) dX7_study_2 ?_
  refine x_topS (fun S107 e108 => ?_)
  have h1 := h1 S107 e108
  refine x_aload_n C 0 dX7_study_5 rfl rfl ?_
  refine x_aload_n C 2 dX7_study_6 rfl rfl ?_
  refine x_putf_r (n := h) C rfl (tk_p e108 ht106) fd_61 xc_7 (by decide) rfl (xm_nr rfl) dX7_study_7 ?_
  refine x_topS (fun S109 e110 => ?_)
  have h1 := h1 S109 e110
  refine x_aload_n C 0 dX7_study_10 rfl rfl ?_
  refine x_iload_n C 3 dX7_study_11 rfl rfl ?_
  refine x_putf_i (n := h) C rfl (tk_p e110 (tk_p e108 ht106)) fd_59 xc_7 (by decide) rfl ⟨rfl, rfl⟩ dX7_study_12 ?_
  refine x_topS (fun S111 e112 => ?_)
  have h1 := h1 S111 e112
  refine x_aload_n C 0 dX7_study_15 rfl rfl ?_
  refine x_iconst (v := (1 : Int32)) C dX7_study_16 (by decide) ?_
  refine x_iload C 4 dX7_study_17 rfl ?_
  refine x_ishl C dX7_study_19 ?_
  refine x_putf_i (n := h) C rfl (tk_p e112 (tk_p e110 (tk_p e108 ht106))) fd_52 xc_7 (by decide) rfl ⟨rfl, rfl⟩ dX7_study_20 ?_
  refine x_topS (fun S113 e114 => ?_)
  have h1 := h1 S113 e114
  refine x_iconst (v := (0 : Int32)) C dX7_study_23 (by decide) ?_
  refine x_istore (L' := [(5, xm_i (0 : Int32)), (0, xm_r (some h)), (1, xm_r x1), (2, xm_r x2), (3, xm_i x3), (4, xm_i x4)]) C dX7_study_24 (by decide) rfl ?_
  refine x_keep (L' := [(0, xm_r (some h)), (1, xm_r x1), (2, xm_r x2), (3, xm_i x3), (5, xm_i (0 : Int32))]) C [1, 2, 3, 4, 0] rfl ?_
  exact kp_X7_study_26 h x1 x2 x3 (0 : Int32) S113 C N hg  h1
theorem kp_X7_study_met {h : Nat} {x1 : Option Nat} {x2 : Option Nat} {x3 : Int32} {x4 : Int32} {S : xm_S} {g : xm_S → Prop}  (h1 : wp_X7_study h x1 x2 x3 x4 S g) : xm_Met yX7_study cX7_study 9 none rm_X7_study [xm_r (some h), xm_r x1, xm_r x2, xm_i x3, xm_i x4] S (xm_qv g) xm_nox :=
  xm_ofW RX7 (by decide +kernel) rfl (Nat.le_of_ble_eq_true rfl) (fun K C N hq hx hi => kp_X7_study h x1 x2 x3 x4 S C N (fun S h => by rw [hq]; exact ⟨rfl, h⟩)  h1)
def rm_X8_append : Room := { frames := 1, cells := 0, slots := 0, locals := 20 }
theorem dX8_append_0 : decode cX8_append 0 = .ok (.aload_n 0, 1) := by decide +kernel
theorem dX8_append_1 : decode cX8_append 1 = .ok (.getfield 15, 3) := by decide +kernel
theorem dX8_append_4 : decode cX8_append 4 = .ok (.bipush 40, 2) := by decide +kernel
theorem dX8_append_6 : decode cX8_append 6 = .ok (.if_icmp .ge 23, 3) := by decide +kernel
theorem dX8_append_9 : decode cX8_append 9 = .ok (.aload_n 0, 1) := by decide +kernel
theorem dX8_append_10 : decode cX8_append 10 = .ok (.getfield 9, 3) := by decide +kernel
theorem dX8_append_13 : decode cX8_append 13 = .ok (.aload_n 0, 1) := by decide +kernel
theorem dX8_append_14 : decode cX8_append 14 = .ok (.getfield 15, 3) := by decide +kernel
theorem dX8_append_17 : decode cX8_append 17 = .ok (.iload_n 1, 1) := by decide +kernel
theorem dX8_append_18 : decode cX8_append 18 = .ok (.castore, 1) := by decide +kernel
theorem dX8_append_19 : decode cX8_append 19 = .ok (.aload_n 0, 1) := by decide +kernel
theorem dX8_append_20 : decode cX8_append 20 = .ok (.dup, 1) := by decide +kernel
theorem dX8_append_21 : decode cX8_append 21 = .ok (.getfield 15, 3) := by decide +kernel
theorem dX8_append_24 : decode cX8_append 24 = .ok (.iconst 1, 1) := by decide +kernel
theorem dX8_append_25 : decode cX8_append 25 = .ok (.iadd, 1) := by decide +kernel
theorem dX8_append_26 : decode cX8_append 26 = .ok (.putfield 15, 3) := by decide +kernel
theorem dX8_append_29 : decode cX8_append 29 = .ok (.return_, 1) := by decide +kernel
def wp_X8_append_29 (h : Nat)  (S : xm_S) (g : xm_S → Prop) : Prop :=
  g S
set_option maxRecDepth 100000 in
set_option maxHeartbeats 4000000 in
theorem kp_X8_append_29 {K : xm_K} (h : Nat)  (S : xm_S) {g : xm_S → Prop} (C : xm_Cx K cX8_append RX8 2 none rm_X8_append) (N : xm_Nx K) (hg : ∀ S, g S → xm_q K none S)  (h1 : wp_X8_append_29 h  S g) : xm_W K 0 0 29 [] [] S := by
  unfold wp_X8_append_29 at h1
  exact x_vret C (Nat.le_of_ble_eq_true rfl) (Nat.le_of_ble_eq_true rfl) rfl dX8_append_29 (hg _ h1)
def wp_X8_append (h : Nat) (x1 : Int32) (S : xm_S) (g : xm_S → Prop) : Prop :=
  st_t S h = some (8, 0) ∧ ((nI 40) ≤ (st_i S h 1) → wp_X8_append_29 h S g) ∧ (¬ (nI 40) ≤ (st_i S h 1) → ∃ n2, (st_r S h 0) = some n2 ∧ ∃ z5, st_t S n2 = some (102, z5) ∧ vp_in (st_i S h 1) z5 ∧ narrow .char (.int x1) = .int x1 ∧ ∀ S8, S8 = st_pi S n2 ((st_i S h 1)).toNatClampNeg x1 → ∀ S10, S10 = st_pi S8 h 1 ((st_i S8 h 1) + (1 : Int32)) → wp_X8_append_29 h S10 g)
set_option maxRecDepth 100000 in
set_option maxHeartbeats 4000000 in
theorem kp_X8_append {K : xm_K} (h : Nat) (x1 : Int32) (S : xm_S) {g : xm_S → Prop} (C : xm_Cx K cX8_append RX8 2 none rm_X8_append) (N : xm_Nx K) (hg : ∀ S, g S → xm_q K none S)  (h1 : wp_X8_append h x1 S g) : xm_W K 0 0 0 [(0, xm_r (some h)), (1, xm_i x1)] [] S := by
  unfold wp_X8_append at h1
  refine x_aload_n C 0 dX8_append_0 rfl rfl ?_
  obtain ⟨ht1, h1⟩ := h1
  refine x_getf_i (n := h) C rfl ht1 fd_84 (by decide) dX8_append_1 ?_
  refine x_bipush (v := (nI 40)) C dX8_append_4 (by decide) ?_
  refine x_icmp_ge (tgt := 29) C dX8_append_6 (by decide) (fun z9 => ?_) (fun z9 => ?_)
  · have h1 := h1.1 z9
    refine x_keep (L' := []) C [] rfl ?_
    exact kp_X8_append_29 h S C N hg  h1
  · have h1 := h1.2 z9
    refine x_aload_n C 0 dX8_append_9 rfl rfl ?_
    refine x_getf_r (n := h) C rfl ht1 fd_85 (by decide) dX8_append_10 ?_
    refine x_aload_n C 0 dX8_append_13 rfl rfl ?_
    refine x_getf_i (n := h) C rfl ht1 fd_84 (by decide) dX8_append_14 ?_
    refine x_iload_n C 1 dX8_append_17 rfl rfl ?_
    obtain ⟨n2, hr3, h1⟩ := h1
    obtain ⟨z5, ht4, h1⟩ := h1
    obtain ⟨hi6, h1⟩ := h1
    obtain ⟨hz7, h1⟩ := h1
    refine x_cast (n := n2) C hr3 ht4 hi6 hz7 dX8_append_18 ?_
    refine x_topS (fun S8 e9 => ?_)
    have h1 := h1 S8 e9
    refine x_aload_n C 0 dX8_append_19 rfl rfl ?_
    refine x_dup_r C dX8_append_20 ?_
    refine x_getf_i (n := h) C rfl (tk_p e9 ht1) fd_84 (by decide) dX8_append_21 ?_
    refine x_iconst (v := (1 : Int32)) C dX8_append_24 (by decide) ?_
    refine x_iadd C dX8_append_25 ?_
    refine x_putf_i (n := h) C rfl (tk_p e9 ht1) fd_84 xc_8 (by decide) rfl ⟨rfl, rfl⟩ dX8_append_26 ?_
    refine x_topS (fun S10 e11 => ?_)
    have h1 := h1 S10 e11
    refine x_keep (L' := []) C [] rfl ?_
    exact kp_X8_append_29 h S10 C N hg  h1
theorem kp_X8_append_met {h : Nat} {x1 : Int32} {S : xm_S} {g : xm_S → Prop}  (h1 : wp_X8_append h x1 S g) : xm_Met yX8_append cX8_append 2 none rm_X8_append [xm_r (some h), xm_i x1] S (xm_qv g) xm_nox :=
  xm_ofW RX8 (by decide +kernel) rfl (Nat.le_of_ble_eq_true rfl) (fun K C N hq hx hi => kp_X8_append h x1 S C N (fun S h => by rw [hq]; exact ⟨rfl, h⟩)  h1)
def rm_X8_clear : Room := { frames := 1, cells := 0, slots := 0, locals := 20 }
theorem dX8_clear_0 : decode cX8_clear 0 = .ok (.aload_n 0, 1) := by decide +kernel
theorem dX8_clear_1 : decode cX8_clear 1 = .ok (.iconst 0, 1) := by decide +kernel
theorem dX8_clear_2 : decode cX8_clear 2 = .ok (.putfield 15, 3) := by decide +kernel
theorem dX8_clear_5 : decode cX8_clear 5 = .ok (.return_, 1) := by decide +kernel
def wp_X8_clear (h : Nat)  (S : xm_S) (g : xm_S → Prop) : Prop :=
  st_t S h = some (8, 0) ∧ ∀ S2, S2 = st_pi S h 1 (0 : Int32) → g S2
set_option maxRecDepth 100000 in
set_option maxHeartbeats 4000000 in
theorem kp_X8_clear {K : xm_K} (h : Nat)  (S : xm_S) {g : xm_S → Prop} (C : xm_Cx K cX8_clear RX8 1 none rm_X8_clear) (N : xm_Nx K) (hg : ∀ S, g S → xm_q K none S)  (h1 : wp_X8_clear h  S g) : xm_W K 0 0 0 [(0, xm_r (some h))] [] S := by
  unfold wp_X8_clear at h1
  refine x_aload_n C 0 dX8_clear_0 rfl rfl ?_
  refine x_iconst (v := (0 : Int32)) C dX8_clear_1 (by decide) ?_
  obtain ⟨ht1, h1⟩ := h1
  refine x_putf_i (n := h) C rfl ht1 fd_84 xc_8 (by decide) rfl ⟨rfl, rfl⟩ dX8_clear_2 ?_
  refine x_topS (fun S2 e3 => ?_)
  have h1 := h1 S2 e3
  exact x_vret C (Nat.le_of_ble_eq_true rfl) (Nat.le_of_ble_eq_true rfl) rfl dX8_clear_5 (hg _ h1)
theorem kp_X8_clear_met {h : Nat}  {S : xm_S} {g : xm_S → Prop}  (h1 : wp_X8_clear h  S g) : xm_Met yX8_clear cX8_clear 1 none rm_X8_clear [xm_r (some h)] S (xm_qv g) xm_nox :=
  xm_ofW RX8 (by decide +kernel) rfl (Nat.le_of_ble_eq_true rfl) (fun K C N hq hx hi => kp_X8_clear h  S C N (fun S h => by rw [hq]; exact ⟨rfl, h⟩)  h1)
def rm_X8_takes : Room := { frames := 1, cells := 0, slots := 0, locals := 20 }
theorem dX8_takes_0 : decode cX8_takes 0 = .ok (.aload_n 0, 1) := by decide +kernel
theorem dX8_takes_1 : decode cX8_takes 1 = .ok (.getfield 22, 3) := by decide +kernel
theorem dX8_takes_4 : decode cX8_takes 4 = .ok (.ifCond .ne 27, 3) := by decide +kernel
theorem dX8_takes_7 : decode cX8_takes 7 = .ok (.aload_n 0, 1) := by decide +kernel
theorem dX8_takes_8 : decode cX8_takes 8 = .ok (.getfield 19, 3) := by decide +kernel
theorem dX8_takes_11 : decode cX8_takes 11 = .ok (.aload_n 0, 1) := by decide +kernel
theorem dX8_takes_12 : decode cX8_takes 12 = .ok (.getfield 15, 3) := by decide +kernel
theorem dX8_takes_15 : decode cX8_takes 15 = .ok (.if_icmp .ge 16, 3) := by decide +kernel
theorem dX8_takes_18 : decode cX8_takes 18 = .ok (.aload_n 0, 1) := by decide +kernel
theorem dX8_takes_19 : decode cX8_takes 19 = .ok (.getfield 9, 3) := by decide +kernel
theorem dX8_takes_22 : decode cX8_takes 22 = .ok (.aload_n 0, 1) := by decide +kernel
theorem dX8_takes_23 : decode cX8_takes 23 = .ok (.getfield 19, 3) := by decide +kernel
theorem dX8_takes_26 : decode cX8_takes 26 = .ok (.caload, 1) := by decide +kernel
theorem dX8_takes_27 : decode cX8_takes 27 = .ok (.iload_n 1, 1) := by decide +kernel
theorem dX8_takes_28 : decode cX8_takes 28 = .ok (.if_icmp .eq 5, 3) := by decide +kernel
theorem dX8_takes_31 : decode cX8_takes 31 = .ok (.iconst 0, 1) := by decide +kernel
theorem dX8_takes_32 : decode cX8_takes 32 = .ok (.ireturn, 1) := by decide +kernel
theorem dX8_takes_33 : decode cX8_takes 33 = .ok (.aload_n 0, 1) := by decide +kernel
theorem dX8_takes_34 : decode cX8_takes 34 = .ok (.dup, 1) := by decide +kernel
theorem dX8_takes_35 : decode cX8_takes 35 = .ok (.getfield 19, 3) := by decide +kernel
theorem dX8_takes_38 : decode cX8_takes 38 = .ok (.iconst 1, 1) := by decide +kernel
theorem dX8_takes_39 : decode cX8_takes 39 = .ok (.iadd, 1) := by decide +kernel
theorem dX8_takes_40 : decode cX8_takes 40 = .ok (.putfield 19, 3) := by decide +kernel
theorem dX8_takes_43 : decode cX8_takes 43 = .ok (.iconst 1, 1) := by decide +kernel
theorem dX8_takes_44 : decode cX8_takes 44 = .ok (.ireturn, 1) := by decide +kernel
def wp_X8_takes_31 (h : Nat)  (S : xm_S) (g : Int32 → xm_S → Prop) : Prop :=
  g (0 : Int32) S
set_option maxRecDepth 100000 in
set_option maxHeartbeats 4000000 in
theorem kp_X8_takes_31 {K : xm_K} (h : Nat)  (S : xm_S) {g : Int32 → xm_S → Prop} (C : xm_Cx K cX8_takes RX8 2 (some (FieldType.boolean)) rm_X8_takes) (N : xm_Nx K) (hg : ∀ v S, g v S → xm_q K (some (xm_i v)) S)  (h1 : wp_X8_takes_31 h  S g) : xm_W K 0 0 31 [] [] S := by
  unfold wp_X8_takes_31 at h1
  refine x_iconst (v := (0 : Int32)) C dX8_takes_31 (by decide) ?_
  exact x_zret C (Nat.le_of_ble_eq_true rfl) (Nat.le_of_ble_eq_true rfl) rfl (by decide) dX8_takes_32 (hg _ _ h1)
def wp_X8_takes (h : Nat) (x1 : Int32) (S : xm_S) (g : Int32 → xm_S → Prop) : Prop :=
  st_t S h = some (8, 0) ∧ (¬ (st_i S h 3) = 0 → wp_X8_takes_31 h S g) ∧ ((st_i S h 3) = 0 → ((st_i S h 1) ≤ (st_i S h 2) → wp_X8_takes_31 h S g) ∧ (¬ (st_i S h 1) ≤ (st_i S h 2) → ∃ n2, (st_r S h 0) = some n2 ∧ ∃ z5, st_t S n2 = some (102, z5) ∧ vp_in (st_i S h 2) z5 ∧ ((st_i S n2 ((st_i S h 2)).toNatClampNeg) = x1 → ∀ S7, S7 = st_pi S h 2 ((st_i S h 2) + (1 : Int32)) → g (1 : Int32) S7) ∧ (¬ (st_i S n2 ((st_i S h 2)).toNatClampNeg) = x1 → wp_X8_takes_31 h S g)))
set_option maxRecDepth 100000 in
set_option maxHeartbeats 4000000 in
theorem kp_X8_takes {K : xm_K} (h : Nat) (x1 : Int32) (S : xm_S) {g : Int32 → xm_S → Prop} (C : xm_Cx K cX8_takes RX8 2 (some (FieldType.boolean)) rm_X8_takes) (N : xm_Nx K) (hg : ∀ v S, g v S → xm_q K (some (xm_i v)) S)  (h1 : wp_X8_takes h x1 S g) : xm_W K 0 0 0 [(0, xm_r (some h)), (1, xm_i x1)] [] S := by
  unfold wp_X8_takes at h1
  refine x_aload_n C 0 dX8_takes_0 rfl rfl ?_
  obtain ⟨ht1, h1⟩ := h1
  refine x_getf_i (n := h) C rfl ht1 fd_86 (by decide) dX8_takes_1 ?_
  refine x_if_ne (tgt := 31) C dX8_takes_4 (by decide) (fun z9 => ?_) (fun z9 => ?_)
  · have h1 := h1.1 z9
    refine x_keep (L' := []) C [] rfl ?_
    exact kp_X8_takes_31 h S C N hg  h1
  · have h1 := h1.2 z9
    refine x_aload_n C 0 dX8_takes_7 rfl rfl ?_
    refine x_getf_i (n := h) C rfl ht1 fd_87 (by decide) dX8_takes_8 ?_
    refine x_aload_n C 0 dX8_takes_11 rfl rfl ?_
    refine x_getf_i (n := h) C rfl ht1 fd_84 (by decide) dX8_takes_12 ?_
    refine x_icmp_ge (tgt := 31) C dX8_takes_15 (by decide) (fun z9 => ?_) (fun z9 => ?_)
    · have h1 := h1.1 z9
      refine x_keep (L' := []) C [] rfl ?_
      exact kp_X8_takes_31 h S C N hg  h1
    · have h1 := h1.2 z9
      refine x_aload_n C 0 dX8_takes_18 rfl rfl ?_
      refine x_getf_r (n := h) C rfl ht1 fd_85 (by decide) dX8_takes_19 ?_
      refine x_aload_n C 0 dX8_takes_22 rfl rfl ?_
      refine x_getf_i (n := h) C rfl ht1 fd_87 (by decide) dX8_takes_23 ?_
      obtain ⟨n2, hr3, h1⟩ := h1
      obtain ⟨z5, ht4, h1⟩ := h1
      obtain ⟨hi6, h1⟩ := h1
      refine x_cald (n := n2) C hr3 ht4 hi6 dX8_takes_26 ?_
      refine x_iload_n C 1 dX8_takes_27 rfl rfl ?_
      refine x_icmp_eq (tgt := 33) C dX8_takes_28 (by decide) (fun z9 => ?_) (fun z9 => ?_)
      · have h1 := h1.1 z9
        refine x_aload_n C 0 dX8_takes_33 rfl rfl ?_
        refine x_dup_r C dX8_takes_34 ?_
        refine x_getf_i (n := h) C rfl ht1 fd_87 (by decide) dX8_takes_35 ?_
        refine x_iconst (v := (1 : Int32)) C dX8_takes_38 (by decide) ?_
        refine x_iadd C dX8_takes_39 ?_
        refine x_putf_i (n := h) C rfl ht1 fd_87 xc_8 (by decide) rfl ⟨rfl, rfl⟩ dX8_takes_40 ?_
        refine x_topS (fun S7 e8 => ?_)
        have h1 := h1 S7 e8
        refine x_iconst (v := (1 : Int32)) C dX8_takes_43 (by decide) ?_
        exact x_zret C (Nat.le_of_ble_eq_true rfl) (Nat.le_of_ble_eq_true rfl) rfl (by decide) dX8_takes_44 (hg _ _ h1)
      · have h1 := h1.2 z9
        refine x_keep (L' := []) C [] rfl ?_
        exact kp_X8_takes_31 h S C N hg  h1
theorem kp_X8_takes_met {h : Nat} {x1 : Int32} {S : xm_S} {g : Int32 → xm_S → Prop}  (h1 : wp_X8_takes h x1 S g) : xm_Met yX8_takes cX8_takes 2 (some (FieldType.boolean)) rm_X8_takes [xm_r (some h), xm_i x1] S (xm_qi g) xm_nox :=
  xm_ofW RX8 (by decide +kernel) rfl (Nat.le_of_ble_eq_true rfl) (fun K C N hq hx hi => kp_X8_takes h x1 S C N (fun v S h => by rw [hq]; exact ⟨v, rfl, h⟩)  h1)
def rm_X8_readDigit : Room := { frames := 2, cells := 0, slots := 0, locals := 41 }
theorem dX8_readDigit_0 : decode cX8_readDigit 0 = .ok (.bipush 48, 2) := by decide +kernel
theorem dX8_readDigit_2 : decode cX8_readDigit 2 = .ok (.istore_n 1, 1) := by decide +kernel
theorem dX8_readDigit_3 : decode cX8_readDigit 3 = .ok (.iload_n 1, 1) := by decide +kernel
theorem dX8_readDigit_4 : decode cX8_readDigit 4 = .ok (.bipush 57, 2) := by decide +kernel
theorem dX8_readDigit_6 : decode cX8_readDigit 6 = .ok (.if_icmp .gt 24, 3) := by decide +kernel
theorem dX8_readDigit_9 : decode cX8_readDigit 9 = .ok (.aload_n 0, 1) := by decide +kernel
theorem dX8_readDigit_10 : decode cX8_readDigit 10 = .ok (.iload_n 1, 1) := by decide +kernel
theorem dX8_readDigit_11 : decode cX8_readDigit 11 = .ok (.invokevirtual 33, 3) := by decide +kernel
theorem dX8_readDigit_14 : decode cX8_readDigit 14 = .ok (.ifCond .eq 8, 3) := by decide +kernel
theorem dX8_readDigit_17 : decode cX8_readDigit 17 = .ok (.iload_n 1, 1) := by decide +kernel
theorem dX8_readDigit_18 : decode cX8_readDigit 18 = .ok (.bipush 48, 2) := by decide +kernel
theorem dX8_readDigit_20 : decode cX8_readDigit 20 = .ok (.isub, 1) := by decide +kernel
theorem dX8_readDigit_21 : decode cX8_readDigit 21 = .ok (.ireturn, 1) := by decide +kernel
theorem dX8_readDigit_22 : decode cX8_readDigit 22 = .ok (.iload_n 1, 1) := by decide +kernel
theorem dX8_readDigit_23 : decode cX8_readDigit 23 = .ok (.iconst 1, 1) := by decide +kernel
theorem dX8_readDigit_24 : decode cX8_readDigit 24 = .ok (.iadd, 1) := by decide +kernel
theorem dX8_readDigit_25 : decode cX8_readDigit 25 = .ok (.i2c, 1) := by decide +kernel
theorem dX8_readDigit_26 : decode cX8_readDigit 26 = .ok (.istore_n 1, 1) := by decide +kernel
theorem dX8_readDigit_27 : decode cX8_readDigit 27 = .ok (.goto (-24), 3) := by decide +kernel
theorem dX8_readDigit_30 : decode cX8_readDigit 30 = .ok (.aload_n 0, 1) := by decide +kernel
theorem dX8_readDigit_31 : decode cX8_readDigit 31 = .ok (.iconst 1, 1) := by decide +kernel
theorem dX8_readDigit_32 : decode cX8_readDigit 32 = .ok (.putfield 22, 3) := by decide +kernel
theorem dX8_readDigit_35 : decode cX8_readDigit 35 = .ok (.iconst 0, 1) := by decide +kernel
theorem dX8_readDigit_36 : decode cX8_readDigit 36 = .ok (.ireturn, 1) := by decide +kernel
def wp_X8_readDigit_3B (h : Nat) (x1 : Int32) (S : xm_S) (g : Int32 → xm_S → Prop) (Z3 : Int32 → xm_S → Prop) : Prop :=
  ((nI 57) < x1 → st_t S h = some (8, 0) ∧ ∀ S2, S2 = st_pi S h 3 (1 : Int32) → g (0 : Int32) S2) ∧ (¬ (nI 57) < x1 → st_t S h = some (8, 0) ∧ wp_X8_takes h x1 S (fun r6 S5 => (r6 = 0 → ∀ y7, y7 = ((((x1 + (1 : Int32))).toUInt32 % 65536).toInt32) → Z3 y7 S5) ∧ (¬ r6 = 0 → g (x1 - (nI 48)) S5)))
def wp_X8_readDigit_3 (h : Nat) (x1 : Int32) (S : xm_S) (g : Int32 → xm_S → Prop) : Prop :=
  ∀ Z3 : Int32 → xm_S → Prop, (∀ x1 S, wp_X8_readDigit_3B h x1 S g Z3 → Z3 x1 S) → Z3 x1 S
set_option maxRecDepth 100000 in
set_option maxHeartbeats 4000000 in
theorem kp_X8_readDigit_3B {K : xm_K} (h : Nat) (x1 : Int32) (S : xm_S) {g : Int32 → xm_S → Prop} {Z3 : Int32 → xm_S → Prop} (C : xm_Cx K cX8_readDigit RX8 2 (some (FieldType.int)) rm_X8_readDigit) (N : xm_Nx K) (hg : ∀ v S, g v S → xm_q K (some (xm_i v)) S) (hZ3 : ∀ x1 S, Z3 x1 S → xm_W K 0 0 3 [(0, xm_r (some h)), (1, xm_i x1)] [] S) (h1 : wp_X8_readDigit_3B h x1 S g Z3) : xm_W K 0 0 3 [(0, xm_r (some h)), (1, xm_i x1)] [] S := by
  unfold wp_X8_readDigit_3B at h1
  refine x_iload_n C 1 dX8_readDigit_3 rfl rfl ?_
  refine x_bipush (v := (nI 57)) C dX8_readDigit_4 (by decide) ?_
  refine x_icmp_gt (tgt := 30) C dX8_readDigit_6 (by decide) (fun z9 => ?_) (fun z9 => ?_)
  · have h1 := h1.1 z9
    refine x_aload_n C 0 dX8_readDigit_30 rfl rfl ?_
    refine x_iconst (v := (1 : Int32)) C dX8_readDigit_31 (by decide) ?_
    obtain ⟨ht1, h1⟩ := h1
    refine x_putf_i (n := h) C rfl ht1 fd_86 xc_8 (by decide) rfl (xm_nz (by decide)) dX8_readDigit_32 ?_
    refine x_topS (fun S2 e3 => ?_)
    have h1 := h1 S2 e3
    refine x_iconst (v := (0 : Int32)) C dX8_readDigit_35 (by decide) ?_
    exact x_iret C (Nat.le_of_ble_eq_true rfl) (Nat.le_of_ble_eq_true rfl) rfl dX8_readDigit_36 (hg _ _ h1)
  · have h1 := h1.2 z9
    refine x_aload_n C 0 dX8_readDigit_9 rfl rfl ?_
    refine x_iload_n C 1 dX8_readDigit_10 rfl rfl ?_
    obtain ⟨ht4, h1⟩ := h1
    refine x_callV (rm' := rm_X8_takes) (n := h) C (kp_X8_takes_met h1) lk_26 gw_206 gw_207 xv_8 rfl rfl ht4 rfl (Nat.le_of_ble_eq_true rfl) ⟨Nat.le_of_ble_eq_true rfl, Nat.le_of_ble_eq_true rfl, (Nat.le_of_ble_eq_true rfl), (Nat.le_of_ble_eq_true rfl)⟩ dX8_readDigit_11 xm_kx (xm_ki (fun r6 S5 h1 => ?_))
    refine x_if_eq (tgt := 22) C dX8_readDigit_14 (by decide) (fun z9 => ?_) (fun z9 => ?_)
    · have h1 := h1.1 z9
      refine x_iload_n C 1 dX8_readDigit_22 rfl rfl ?_
      refine x_iconst (v := (1 : Int32)) C dX8_readDigit_23 (by decide) ?_
      refine x_iadd C dX8_readDigit_24 ?_
      refine x_i2c C dX8_readDigit_25 ?_
      refine x_topi (fun y7 e8 => ?_)
      have h1 := h1 y7 e8
      refine x_istore_n (L' := [(1, xm_i y7), (0, xm_r (some h))]) C dX8_readDigit_26 rfl (by decide) rfl ?_
      refine x_goto (tgt := 3) C dX8_readDigit_27 (by decide) ?_
      refine x_keep (L' := [(0, xm_r (some h)), (1, xm_i y7)]) C [1, 0] rfl ?_
      exact hZ3 y7 S5 h1
    · have h1 := h1.2 z9
      refine x_iload_n C 1 dX8_readDigit_17 rfl rfl ?_
      refine x_bipush (v := (nI 48)) C dX8_readDigit_18 (by decide) ?_
      refine x_isub C dX8_readDigit_20 ?_
      exact x_iret C (Nat.le_of_ble_eq_true rfl) (Nat.le_of_ble_eq_true rfl) rfl dX8_readDigit_21 (hg _ _ h1)
theorem kp_X8_readDigit_3 {K : xm_K} (h : Nat) (x1 : Int32) (S : xm_S) {g : Int32 → xm_S → Prop} (C : xm_Cx K cX8_readDigit RX8 2 (some (FieldType.int)) rm_X8_readDigit) (N : xm_Nx K) (hg : ∀ v S, g v S → xm_q K (some (xm_i v)) S)  (h1 : wp_X8_readDigit_3 h x1 S g) : xm_W K 0 0 3 [(0, xm_r (some h)), (1, xm_i x1)] [] S :=
  h1 (fun x1 S => xm_W K 0 0 3 [(0, xm_r (some h)), (1, xm_i x1)] [] S) (fun x1 S hb => kp_X8_readDigit_3B h x1 S C N hg (fun x1 S hz => hz) hb)
def wp_X8_readDigit (h : Nat)  (S : xm_S) (g : Int32 → xm_S → Prop) : Prop :=
  wp_X8_readDigit_3 h (nI 48) S g
set_option maxRecDepth 100000 in
set_option maxHeartbeats 4000000 in
theorem kp_X8_readDigit {K : xm_K} (h : Nat)  (S : xm_S) {g : Int32 → xm_S → Prop} (C : xm_Cx K cX8_readDigit RX8 2 (some (FieldType.int)) rm_X8_readDigit) (N : xm_Nx K) (hg : ∀ v S, g v S → xm_q K (some (xm_i v)) S)  (h1 : wp_X8_readDigit h  S g) : xm_W K 0 0 0 [(0, xm_r (some h))] [] S := by
  unfold wp_X8_readDigit at h1
  refine x_bipush (v := (nI 48)) C dX8_readDigit_0 (by decide) ?_
  refine x_istore_n (L' := [(1, xm_i (nI 48)), (0, xm_r (some h))]) C dX8_readDigit_2 rfl (by decide) rfl ?_
  refine x_keep (L' := [(0, xm_r (some h)), (1, xm_i (nI 48))]) C [1, 0] rfl ?_
  exact kp_X8_readDigit_3 h (nI 48) S C N hg  h1
theorem kp_X8_readDigit_met {h : Nat}  {S : xm_S} {g : Int32 → xm_S → Prop}  (h1 : wp_X8_readDigit h  S g) : xm_Met yX8_readDigit cX8_readDigit 2 (some (FieldType.int)) rm_X8_readDigit [xm_r (some h)] S (xm_qi g) xm_nox :=
  xm_ofW RX8 (by decide +kernel) rfl (Nat.le_of_ble_eq_true rfl) (fun K C N hq hx hi => kp_X8_readDigit h  S C N (fun v S h => by rw [hq]; exact ⟨v, rfl, h⟩)  h1)
def rm_X8_readKind : Room := { frames := 2, cells := 0, slots := 0, locals := 41 }
theorem dX8_readKind_0 : decode cX8_readKind 0 = .ok (.aload_n 0, 1) := by decide +kernel
theorem dX8_readKind_1 : decode cX8_readKind 1 = .ok (.bipush 61, 2) := by decide +kernel
theorem dX8_readKind_3 : decode cX8_readKind 3 = .ok (.invokevirtual 33, 3) := by decide +kernel
theorem dX8_readKind_6 : decode cX8_readKind 6 = .ok (.ifCond .eq 5, 3) := by decide +kernel
theorem dX8_readKind_9 : decode cX8_readKind 9 = .ok (.iconst 1, 1) := by decide +kernel
theorem dX8_readKind_10 : decode cX8_readKind 10 = .ok (.ireturn, 1) := by decide +kernel
theorem dX8_readKind_11 : decode cX8_readKind 11 = .ok (.aload_n 0, 1) := by decide +kernel
theorem dX8_readKind_12 : decode cX8_readKind 12 = .ok (.bipush 62, 2) := by decide +kernel
theorem dX8_readKind_14 : decode cX8_readKind 14 = .ok (.invokevirtual 33, 3) := by decide +kernel
theorem dX8_readKind_17 : decode cX8_readKind 17 = .ok (.ifCond .eq 18, 3) := by decide +kernel
theorem dX8_readKind_20 : decode cX8_readKind 20 = .ok (.aload_n 0, 1) := by decide +kernel
theorem dX8_readKind_21 : decode cX8_readKind 21 = .ok (.bipush 61, 2) := by decide +kernel
theorem dX8_readKind_23 : decode cX8_readKind 23 = .ok (.invokevirtual 33, 3) := by decide +kernel
theorem dX8_readKind_26 : decode cX8_readKind 26 = .ok (.ifCond .eq 7, 3) := by decide +kernel
theorem dX8_readKind_29 : decode cX8_readKind 29 = .ok (.iconst 4, 1) := by decide +kernel
theorem dX8_readKind_30 : decode cX8_readKind 30 = .ok (.goto 4, 3) := by decide +kernel
theorem dX8_readKind_33 : decode cX8_readKind 33 = .ok (.iconst 2, 1) := by decide +kernel
theorem dX8_readKind_34 : decode cX8_readKind 34 = .ok (.ireturn, 1) := by decide +kernel
theorem dX8_readKind_35 : decode cX8_readKind 35 = .ok (.aload_n 0, 1) := by decide +kernel
theorem dX8_readKind_36 : decode cX8_readKind 36 = .ok (.bipush 60, 2) := by decide +kernel
theorem dX8_readKind_38 : decode cX8_readKind 38 = .ok (.invokevirtual 33, 3) := by decide +kernel
theorem dX8_readKind_41 : decode cX8_readKind 41 = .ok (.ifCond .eq 18, 3) := by decide +kernel
theorem dX8_readKind_44 : decode cX8_readKind 44 = .ok (.aload_n 0, 1) := by decide +kernel
theorem dX8_readKind_45 : decode cX8_readKind 45 = .ok (.bipush 61, 2) := by decide +kernel
theorem dX8_readKind_47 : decode cX8_readKind 47 = .ok (.invokevirtual 33, 3) := by decide +kernel
theorem dX8_readKind_50 : decode cX8_readKind 50 = .ok (.ifCond .eq 7, 3) := by decide +kernel
theorem dX8_readKind_53 : decode cX8_readKind 53 = .ok (.iconst 5, 1) := by decide +kernel
theorem dX8_readKind_54 : decode cX8_readKind 54 = .ok (.goto 4, 3) := by decide +kernel
theorem dX8_readKind_57 : decode cX8_readKind 57 = .ok (.iconst 3, 1) := by decide +kernel
theorem dX8_readKind_58 : decode cX8_readKind 58 = .ok (.ireturn, 1) := by decide +kernel
theorem dX8_readKind_59 : decode cX8_readKind 59 = .ok (.aload_n 0, 1) := by decide +kernel
theorem dX8_readKind_60 : decode cX8_readKind 60 = .ok (.bipush 94, 2) := by decide +kernel
theorem dX8_readKind_62 : decode cX8_readKind 62 = .ok (.invokevirtual 33, 3) := by decide +kernel
theorem dX8_readKind_65 : decode cX8_readKind 65 = .ok (.ifCond .eq 6, 3) := by decide +kernel
theorem dX8_readKind_68 : decode cX8_readKind 68 = .ok (.bipush 6, 2) := by decide +kernel
theorem dX8_readKind_70 : decode cX8_readKind 70 = .ok (.ireturn, 1) := by decide +kernel
theorem dX8_readKind_71 : decode cX8_readKind 71 = .ok (.aload_n 0, 1) := by decide +kernel
theorem dX8_readKind_72 : decode cX8_readKind 72 = .ok (.bipush 126, 2) := by decide +kernel
theorem dX8_readKind_74 : decode cX8_readKind 74 = .ok (.invokevirtual 33, 3) := by decide +kernel
theorem dX8_readKind_77 : decode cX8_readKind 77 = .ok (.ifCond .eq 6, 3) := by decide +kernel
theorem dX8_readKind_80 : decode cX8_readKind 80 = .ok (.bipush 7, 2) := by decide +kernel
theorem dX8_readKind_82 : decode cX8_readKind 82 = .ok (.ireturn, 1) := by decide +kernel
theorem dX8_readKind_83 : decode cX8_readKind 83 = .ok (.aload_n 0, 1) := by decide +kernel
theorem dX8_readKind_84 : decode cX8_readKind 84 = .ok (.iconst 1, 1) := by decide +kernel
theorem dX8_readKind_85 : decode cX8_readKind 85 = .ok (.putfield 22, 3) := by decide +kernel
theorem dX8_readKind_88 : decode cX8_readKind 88 = .ok (.iconst 1, 1) := by decide +kernel
theorem dX8_readKind_89 : decode cX8_readKind 89 = .ok (.ireturn, 1) := by decide +kernel
def wp_X8_readKind_34 (h : Nat) (s0 : Int32) (S : xm_S) (g : Int32 → xm_S → Prop) : Prop :=
  g s0 S
set_option maxRecDepth 100000 in
set_option maxHeartbeats 4000000 in
theorem kp_X8_readKind_34 {K : xm_K} (h : Nat) (s0 : Int32) (S : xm_S) {g : Int32 → xm_S → Prop} (C : xm_Cx K cX8_readKind RX8 1 (some (FieldType.int)) rm_X8_readKind) (N : xm_Nx K) (hg : ∀ v S, g v S → xm_q K (some (xm_i v)) S)  (h1 : wp_X8_readKind_34 h s0 S g) : xm_W K 0 0 34 [] [xm_i s0] S := by
  unfold wp_X8_readKind_34 at h1
  exact x_iret C (Nat.le_of_ble_eq_true rfl) (Nat.le_of_ble_eq_true rfl) rfl dX8_readKind_34 (hg _ _ h1)
def wp_X8_readKind_58 (h : Nat) (s0 : Int32) (S : xm_S) (g : Int32 → xm_S → Prop) : Prop :=
  g s0 S
set_option maxRecDepth 100000 in
set_option maxHeartbeats 4000000 in
theorem kp_X8_readKind_58 {K : xm_K} (h : Nat) (s0 : Int32) (S : xm_S) {g : Int32 → xm_S → Prop} (C : xm_Cx K cX8_readKind RX8 1 (some (FieldType.int)) rm_X8_readKind) (N : xm_Nx K) (hg : ∀ v S, g v S → xm_q K (some (xm_i v)) S)  (h1 : wp_X8_readKind_58 h s0 S g) : xm_W K 0 0 58 [] [xm_i s0] S := by
  unfold wp_X8_readKind_58 at h1
  exact x_iret C (Nat.le_of_ble_eq_true rfl) (Nat.le_of_ble_eq_true rfl) rfl dX8_readKind_58 (hg _ _ h1)
def wp_X8_readKind (h : Nat)  (S : xm_S) (g : Int32 → xm_S → Prop) : Prop :=
  st_t S h = some (8, 0) ∧ wp_X8_takes h (nI 61) S (fun r3 S2 => (r3 = 0 → st_t S2 h = some (8, 0) ∧ wp_X8_takes h (nI 62) S2 (fun r6 S5 => (r6 = 0 → st_t S5 h = some (8, 0) ∧ wp_X8_takes h (nI 60) S5 (fun r9 S8 => (r9 = 0 → st_t S8 h = some (8, 0) ∧ wp_X8_takes h (nI 94) S8 (fun r12 S11 => (r12 = 0 → st_t S11 h = some (8, 0) ∧ wp_X8_takes h (nI 126) S11 (fun r15 S14 => (r15 = 0 → st_t S14 h = some (8, 0) ∧ ∀ S17, S17 = st_pi S14 h 3 (1 : Int32) → g (1 : Int32) S17) ∧ (¬ r15 = 0 → g (nI 7) S14))) ∧ (¬ r12 = 0 → g (nI 6) S11))) ∧ (¬ r9 = 0 → st_t S8 h = some (8, 0) ∧ wp_X8_takes h (nI 61) S8 (fun r21 S20 => (r21 = 0 → wp_X8_readKind_58 h (nI 3) S20 g) ∧ (¬ r21 = 0 → wp_X8_readKind_58 h (nI 5) S20 g))))) ∧ (¬ r6 = 0 → st_t S5 h = some (8, 0) ∧ wp_X8_takes h (nI 61) S5 (fun r24 S23 => (r24 = 0 → wp_X8_readKind_34 h (nI 2) S23 g) ∧ (¬ r24 = 0 → wp_X8_readKind_34 h (nI 4) S23 g))))) ∧ (¬ r3 = 0 → g (1 : Int32) S2))
set_option maxRecDepth 100000 in
set_option maxHeartbeats 4000000 in
theorem kp_X8_readKind {K : xm_K} (h : Nat)  (S : xm_S) {g : Int32 → xm_S → Prop} (C : xm_Cx K cX8_readKind RX8 1 (some (FieldType.int)) rm_X8_readKind) (N : xm_Nx K) (hg : ∀ v S, g v S → xm_q K (some (xm_i v)) S)  (h1 : wp_X8_readKind h  S g) : xm_W K 0 0 0 [(0, xm_r (some h))] [] S := by
  unfold wp_X8_readKind at h1
  refine x_aload_n C 0 dX8_readKind_0 rfl rfl ?_
  refine x_bipush (v := (nI 61)) C dX8_readKind_1 (by decide) ?_
  obtain ⟨ht1, h1⟩ := h1
  refine x_callV (rm' := rm_X8_takes) (n := h) C (kp_X8_takes_met h1) lk_26 gw_206 gw_207 xv_8 rfl rfl ht1 rfl (Nat.le_of_ble_eq_true rfl) ⟨Nat.le_of_ble_eq_true rfl, Nat.le_of_ble_eq_true rfl, (Nat.le_of_ble_eq_true rfl), (Nat.le_of_ble_eq_true rfl)⟩ dX8_readKind_3 xm_kx (xm_ki (fun r3 S2 h1 => ?_))
  refine x_if_eq (tgt := 11) C dX8_readKind_6 (by decide) (fun z9 => ?_) (fun z9 => ?_)
  · have h1 := h1.1 z9
    refine x_aload_n C 0 dX8_readKind_11 rfl rfl ?_
    refine x_bipush (v := (nI 62)) C dX8_readKind_12 (by decide) ?_
    obtain ⟨ht4, h1⟩ := h1
    refine x_callV (rm' := rm_X8_takes) (n := h) C (kp_X8_takes_met h1) lk_26 gw_206 gw_207 xv_8 rfl rfl ht4 rfl (Nat.le_of_ble_eq_true rfl) ⟨Nat.le_of_ble_eq_true rfl, Nat.le_of_ble_eq_true rfl, (Nat.le_of_ble_eq_true rfl), (Nat.le_of_ble_eq_true rfl)⟩ dX8_readKind_14 xm_kx (xm_ki (fun r6 S5 h1 => ?_))
    refine x_if_eq (tgt := 35) C dX8_readKind_17 (by decide) (fun z9 => ?_) (fun z9 => ?_)
    · have h1 := h1.1 z9
      refine x_aload_n C 0 dX8_readKind_35 rfl rfl ?_
      refine x_bipush (v := (nI 60)) C dX8_readKind_36 (by decide) ?_
      obtain ⟨ht7, h1⟩ := h1
      refine x_callV (rm' := rm_X8_takes) (n := h) C (kp_X8_takes_met h1) lk_26 gw_206 gw_207 xv_8 rfl rfl ht7 rfl (Nat.le_of_ble_eq_true rfl) ⟨Nat.le_of_ble_eq_true rfl, Nat.le_of_ble_eq_true rfl, (Nat.le_of_ble_eq_true rfl), (Nat.le_of_ble_eq_true rfl)⟩ dX8_readKind_38 xm_kx (xm_ki (fun r9 S8 h1 => ?_))
      refine x_if_eq (tgt := 59) C dX8_readKind_41 (by decide) (fun z9 => ?_) (fun z9 => ?_)
      · have h1 := h1.1 z9
        refine x_aload_n C 0 dX8_readKind_59 rfl rfl ?_
        refine x_bipush (v := (nI 94)) C dX8_readKind_60 (by decide) ?_
        obtain ⟨ht10, h1⟩ := h1
        refine x_callV (rm' := rm_X8_takes) (n := h) C (kp_X8_takes_met h1) lk_26 gw_206 gw_207 xv_8 rfl rfl ht10 rfl (Nat.le_of_ble_eq_true rfl) ⟨Nat.le_of_ble_eq_true rfl, Nat.le_of_ble_eq_true rfl, (Nat.le_of_ble_eq_true rfl), (Nat.le_of_ble_eq_true rfl)⟩ dX8_readKind_62 xm_kx (xm_ki (fun r12 S11 h1 => ?_))
        refine x_if_eq (tgt := 71) C dX8_readKind_65 (by decide) (fun z9 => ?_) (fun z9 => ?_)
        · have h1 := h1.1 z9
          refine x_aload_n C 0 dX8_readKind_71 rfl rfl ?_
          refine x_bipush (v := (nI 126)) C dX8_readKind_72 (by decide) ?_
          obtain ⟨ht13, h1⟩ := h1
          refine x_callV (rm' := rm_X8_takes) (n := h) C (kp_X8_takes_met h1) lk_26 gw_206 gw_207 xv_8 rfl rfl ht13 rfl (Nat.le_of_ble_eq_true rfl) ⟨Nat.le_of_ble_eq_true rfl, Nat.le_of_ble_eq_true rfl, (Nat.le_of_ble_eq_true rfl), (Nat.le_of_ble_eq_true rfl)⟩ dX8_readKind_74 xm_kx (xm_ki (fun r15 S14 h1 => ?_))
          refine x_if_eq (tgt := 83) C dX8_readKind_77 (by decide) (fun z9 => ?_) (fun z9 => ?_)
          · have h1 := h1.1 z9
            refine x_aload_n C 0 dX8_readKind_83 rfl rfl ?_
            refine x_iconst (v := (1 : Int32)) C dX8_readKind_84 (by decide) ?_
            obtain ⟨ht16, h1⟩ := h1
            refine x_putf_i (n := h) C rfl ht16 fd_86 xc_8 (by decide) rfl (xm_nz (by decide)) dX8_readKind_85 ?_
            refine x_topS (fun S17 e18 => ?_)
            have h1 := h1 S17 e18
            refine x_iconst (v := (1 : Int32)) C dX8_readKind_88 (by decide) ?_
            exact x_iret C (Nat.le_of_ble_eq_true rfl) (Nat.le_of_ble_eq_true rfl) rfl dX8_readKind_89 (hg _ _ h1)
          · have h1 := h1.2 z9
            refine x_bipush (v := (nI 7)) C dX8_readKind_80 (by decide) ?_
            exact x_iret C (Nat.le_of_ble_eq_true rfl) (Nat.le_of_ble_eq_true rfl) rfl dX8_readKind_82 (hg _ _ h1)
        · have h1 := h1.2 z9
          refine x_bipush (v := (nI 6)) C dX8_readKind_68 (by decide) ?_
          exact x_iret C (Nat.le_of_ble_eq_true rfl) (Nat.le_of_ble_eq_true rfl) rfl dX8_readKind_70 (hg _ _ h1)
      · have h1 := h1.2 z9
        refine x_aload_n C 0 dX8_readKind_44 rfl rfl ?_
        refine x_bipush (v := (nI 61)) C dX8_readKind_45 (by decide) ?_
        obtain ⟨ht19, h1⟩ := h1
        refine x_callV (rm' := rm_X8_takes) (n := h) C (kp_X8_takes_met h1) lk_26 gw_206 gw_207 xv_8 rfl rfl ht19 rfl (Nat.le_of_ble_eq_true rfl) ⟨Nat.le_of_ble_eq_true rfl, Nat.le_of_ble_eq_true rfl, (Nat.le_of_ble_eq_true rfl), (Nat.le_of_ble_eq_true rfl)⟩ dX8_readKind_47 xm_kx (xm_ki (fun r21 S20 h1 => ?_))
        refine x_if_eq (tgt := 57) C dX8_readKind_50 (by decide) (fun z9 => ?_) (fun z9 => ?_)
        · have h1 := h1.1 z9
          refine x_iconst (v := (nI 3)) C dX8_readKind_57 (by decide) ?_
          refine x_keep (L' := []) C [] rfl ?_
          exact kp_X8_readKind_58 h (nI 3) S20 C N hg  h1
        · have h1 := h1.2 z9
          refine x_iconst (v := (nI 5)) C dX8_readKind_53 (by decide) ?_
          refine x_goto (tgt := 58) C dX8_readKind_54 (by decide) ?_
          refine x_keep (L' := []) C [] rfl ?_
          exact kp_X8_readKind_58 h (nI 5) S20 C N hg  h1
    · have h1 := h1.2 z9
      refine x_aload_n C 0 dX8_readKind_20 rfl rfl ?_
      refine x_bipush (v := (nI 61)) C dX8_readKind_21 (by decide) ?_
      obtain ⟨ht22, h1⟩ := h1
      refine x_callV (rm' := rm_X8_takes) (n := h) C (kp_X8_takes_met h1) lk_26 gw_206 gw_207 xv_8 rfl rfl ht22 rfl (Nat.le_of_ble_eq_true rfl) ⟨Nat.le_of_ble_eq_true rfl, Nat.le_of_ble_eq_true rfl, (Nat.le_of_ble_eq_true rfl), (Nat.le_of_ble_eq_true rfl)⟩ dX8_readKind_23 xm_kx (xm_ki (fun r24 S23 h1 => ?_))
      refine x_if_eq (tgt := 33) C dX8_readKind_26 (by decide) (fun z9 => ?_) (fun z9 => ?_)
      · have h1 := h1.1 z9
        refine x_iconst (v := (nI 2)) C dX8_readKind_33 (by decide) ?_
        refine x_keep (L' := []) C [] rfl ?_
        exact kp_X8_readKind_34 h (nI 2) S23 C N hg  h1
      · have h1 := h1.2 z9
        refine x_iconst (v := (nI 4)) C dX8_readKind_29 (by decide) ?_
        refine x_goto (tgt := 34) C dX8_readKind_30 (by decide) ?_
        refine x_keep (L' := []) C [] rfl ?_
        exact kp_X8_readKind_34 h (nI 4) S23 C N hg  h1
  · have h1 := h1.2 z9
    refine x_iconst (v := (1 : Int32)) C dX8_readKind_9 (by decide) ?_
    exact x_iret C (Nat.le_of_ble_eq_true rfl) (Nat.le_of_ble_eq_true rfl) rfl dX8_readKind_10 (hg _ _ h1)
theorem kp_X8_readKind_met {h : Nat}  {S : xm_S} {g : Int32 → xm_S → Prop}  (h1 : wp_X8_readKind h  S g) : xm_Met yX8_readKind cX8_readKind 1 (some (FieldType.int)) rm_X8_readKind [xm_r (some h)] S (xm_qi g) xm_nox :=
  xm_ofW RX8 (by decide +kernel) rfl (Nat.le_of_ble_eq_true rfl) (fun K C N hq hx hi => kp_X8_readKind h  S C N (fun v S h => by rw [hq]; exact ⟨v, rfl, h⟩)  h1)
def rm_X9_digitsOf : Room := { frames := 1, cells := 0, slots := 0, locals := 20 }
theorem dX9_digitsOf_0 : decode cX9_digitsOf 0 = .ok (.iload_n 0, 1) := by decide +kernel
theorem dX9_digitsOf_1 : decode cX9_digitsOf 1 = .ok (.bipush 10, 2) := by decide +kernel
theorem dX9_digitsOf_3 : decode cX9_digitsOf 3 = .ok (.irem, 1) := by decide +kernel
theorem dX9_digitsOf_4 : decode cX9_digitsOf 4 = .ok (.ifCond .ne 8, 3) := by decide +kernel
theorem dX9_digitsOf_7 : decode cX9_digitsOf 7 = .ok (.bipush 10, 2) := by decide +kernel
theorem dX9_digitsOf_9 : decode cX9_digitsOf 9 = .ok (.goto 7, 3) := by decide +kernel
theorem dX9_digitsOf_12 : decode cX9_digitsOf 12 = .ok (.iload_n 0, 1) := by decide +kernel
theorem dX9_digitsOf_13 : decode cX9_digitsOf 13 = .ok (.bipush 10, 2) := by decide +kernel
theorem dX9_digitsOf_15 : decode cX9_digitsOf 15 = .ok (.irem, 1) := by decide +kernel
theorem dX9_digitsOf_16 : decode cX9_digitsOf 16 = .ok (.istore_n 1, 1) := by decide +kernel
theorem dX9_digitsOf_17 : decode cX9_digitsOf 17 = .ok (.iload_n 1, 1) := by decide +kernel
theorem dX9_digitsOf_18 : decode cX9_digitsOf 18 = .ok (.iload_n 0, 1) := by decide +kernel
theorem dX9_digitsOf_19 : decode cX9_digitsOf 19 = .ok (.bipush 10, 2) := by decide +kernel
theorem dX9_digitsOf_21 : decode cX9_digitsOf 21 = .ok (.idiv, 1) := by decide +kernel
theorem dX9_digitsOf_22 : decode cX9_digitsOf 22 = .ok (.bipush 10, 2) := by decide +kernel
theorem dX9_digitsOf_24 : decode cX9_digitsOf 24 = .ok (.irem, 1) := by decide +kernel
theorem dX9_digitsOf_25 : decode cX9_digitsOf 25 = .ok (.iconst 4, 1) := by decide +kernel
theorem dX9_digitsOf_26 : decode cX9_digitsOf 26 = .ok (.ishl, 1) := by decide +kernel
theorem dX9_digitsOf_27 : decode cX9_digitsOf 27 = .ok (.ior, 1) := by decide +kernel
theorem dX9_digitsOf_28 : decode cX9_digitsOf 28 = .ok (.istore_n 1, 1) := by decide +kernel
theorem dX9_digitsOf_29 : decode cX9_digitsOf 29 = .ok (.iload_n 1, 1) := by decide +kernel
theorem dX9_digitsOf_30 : decode cX9_digitsOf 30 = .ok (.iload_n 0, 1) := by decide +kernel
theorem dX9_digitsOf_31 : decode cX9_digitsOf 31 = .ok (.bipush 100, 2) := by decide +kernel
theorem dX9_digitsOf_33 : decode cX9_digitsOf 33 = .ok (.idiv, 1) := by decide +kernel
theorem dX9_digitsOf_34 : decode cX9_digitsOf 34 = .ok (.bipush 10, 2) := by decide +kernel
theorem dX9_digitsOf_36 : decode cX9_digitsOf 36 = .ok (.irem, 1) := by decide +kernel
theorem dX9_digitsOf_37 : decode cX9_digitsOf 37 = .ok (.bipush 8, 2) := by decide +kernel
theorem dX9_digitsOf_39 : decode cX9_digitsOf 39 = .ok (.ishl, 1) := by decide +kernel
theorem dX9_digitsOf_40 : decode cX9_digitsOf 40 = .ok (.ior, 1) := by decide +kernel
theorem dX9_digitsOf_41 : decode cX9_digitsOf 41 = .ok (.istore_n 1, 1) := by decide +kernel
theorem dX9_digitsOf_42 : decode cX9_digitsOf 42 = .ok (.iload_n 1, 1) := by decide +kernel
theorem dX9_digitsOf_43 : decode cX9_digitsOf 43 = .ok (.iload_n 0, 1) := by decide +kernel
theorem dX9_digitsOf_44 : decode cX9_digitsOf 44 = .ok (.sipush 1000, 3) := by decide +kernel
theorem dX9_digitsOf_47 : decode cX9_digitsOf 47 = .ok (.idiv, 1) := by decide +kernel
theorem dX9_digitsOf_48 : decode cX9_digitsOf 48 = .ok (.bipush 10, 2) := by decide +kernel
theorem dX9_digitsOf_50 : decode cX9_digitsOf 50 = .ok (.irem, 1) := by decide +kernel
theorem dX9_digitsOf_51 : decode cX9_digitsOf 51 = .ok (.bipush 12, 2) := by decide +kernel
theorem dX9_digitsOf_53 : decode cX9_digitsOf 53 = .ok (.ishl, 1) := by decide +kernel
theorem dX9_digitsOf_54 : decode cX9_digitsOf 54 = .ok (.ior, 1) := by decide +kernel
theorem dX9_digitsOf_55 : decode cX9_digitsOf 55 = .ok (.istore_n 1, 1) := by decide +kernel
theorem dX9_digitsOf_56 : decode cX9_digitsOf 56 = .ok (.iload_n 1, 1) := by decide +kernel
theorem dX9_digitsOf_57 : decode cX9_digitsOf 57 = .ok (.iload_n 0, 1) := by decide +kernel
theorem dX9_digitsOf_58 : decode cX9_digitsOf 58 = .ok (.sipush 10000, 3) := by decide +kernel
theorem dX9_digitsOf_61 : decode cX9_digitsOf 61 = .ok (.idiv, 1) := by decide +kernel
theorem dX9_digitsOf_62 : decode cX9_digitsOf 62 = .ok (.bipush 10, 2) := by decide +kernel
theorem dX9_digitsOf_64 : decode cX9_digitsOf 64 = .ok (.irem, 1) := by decide +kernel
theorem dX9_digitsOf_65 : decode cX9_digitsOf 65 = .ok (.bipush 16, 2) := by decide +kernel
theorem dX9_digitsOf_67 : decode cX9_digitsOf 67 = .ok (.ishl, 1) := by decide +kernel
theorem dX9_digitsOf_68 : decode cX9_digitsOf 68 = .ok (.ior, 1) := by decide +kernel
theorem dX9_digitsOf_69 : decode cX9_digitsOf 69 = .ok (.ireturn, 1) := by decide +kernel
def wp_X9_digitsOf_16 (x0 : Int32) (s0 : Int32) (S : xm_S) (g : Int32 → xm_S → Prop) : Prop :=
  ∀ y1, y1 = (s0 ||| (((x0 / (nI 10)) - (x0 / (nI 10)) / (nI 10) * (nI 10)) <<< ((nI 4) &&& 31))) → ∀ y3, y3 = (y1 ||| (((x0 / (nI 100)) - (x0 / (nI 100)) / (nI 10) * (nI 10)) <<< ((nI 8) &&& 31))) → ∀ y5, y5 = (y3 ||| (((x0 / (nI 1000)) - (x0 / (nI 1000)) / (nI 10) * (nI 10)) <<< ((nI 12) &&& 31))) → g (y5 ||| (((x0 / (nI 10000)) - (x0 / (nI 10000)) / (nI 10) * (nI 10)) <<< ((nI 16) &&& 31))) S
set_option maxRecDepth 100000 in
set_option maxHeartbeats 4000000 in
theorem kp_X9_digitsOf_16 {K : xm_K} (x0 : Int32) (s0 : Int32) (S : xm_S) {g : Int32 → xm_S → Prop} (C : xm_Cx K cX9_digitsOf RX9 2 (some (FieldType.int)) rm_X9_digitsOf) (N : xm_Nx K) (hg : ∀ v S, g v S → xm_q K (some (xm_i v)) S)  (h1 : wp_X9_digitsOf_16 x0 s0 S g) : xm_W K 0 0 16 [(0, xm_i x0)] [xm_i s0] S := by
  unfold wp_X9_digitsOf_16 at h1
  refine x_istore_n (L' := [(1, xm_i s0), (0, xm_i x0)]) C dX9_digitsOf_16 rfl (by decide) rfl ?_
  refine x_iload_n C 0 dX9_digitsOf_17 rfl rfl ?_
  refine x_iload_n C 1 dX9_digitsOf_18 rfl rfl ?_
  refine x_bipush (v := (nI 10)) C dX9_digitsOf_19 (by decide) ?_
  refine x_idiv C dX9_digitsOf_21 (by decide) ?_
  refine x_bipush (v := (nI 10)) C dX9_digitsOf_22 (by decide) ?_
  refine x_irem C dX9_digitsOf_24 (by decide) ?_
  refine x_iconst (v := (nI 4)) C dX9_digitsOf_25 (by decide) ?_
  refine x_ishl C dX9_digitsOf_26 ?_
  refine x_ior C dX9_digitsOf_27 ?_
  refine x_topi (fun y1 e2 => ?_)
  have h1 := h1 y1 e2
  refine x_istore_n (L' := [(1, xm_i y1), (0, xm_i x0)]) C dX9_digitsOf_28 rfl (by decide) rfl ?_
  refine x_iload_n C 0 dX9_digitsOf_29 rfl rfl ?_
  refine x_iload_n C 1 dX9_digitsOf_30 rfl rfl ?_
  refine x_bipush (v := (nI 100)) C dX9_digitsOf_31 (by decide) ?_
  refine x_idiv C dX9_digitsOf_33 (by decide) ?_
  refine x_bipush (v := (nI 10)) C dX9_digitsOf_34 (by decide) ?_
  refine x_irem C dX9_digitsOf_36 (by decide) ?_
  refine x_bipush (v := (nI 8)) C dX9_digitsOf_37 (by decide) ?_
  refine x_ishl C dX9_digitsOf_39 ?_
  refine x_ior C dX9_digitsOf_40 ?_
  refine x_topi (fun y3 e4 => ?_)
  have h1 := h1 y3 e4
  refine x_istore_n (L' := [(1, xm_i y3), (0, xm_i x0)]) C dX9_digitsOf_41 rfl (by decide) rfl ?_
  refine x_iload_n C 0 dX9_digitsOf_42 rfl rfl ?_
  refine x_iload_n C 1 dX9_digitsOf_43 rfl rfl ?_
  refine x_sipush (v := (nI 1000)) C dX9_digitsOf_44 (by decide) ?_
  refine x_idiv C dX9_digitsOf_47 (by decide) ?_
  refine x_bipush (v := (nI 10)) C dX9_digitsOf_48 (by decide) ?_
  refine x_irem C dX9_digitsOf_50 (by decide) ?_
  refine x_bipush (v := (nI 12)) C dX9_digitsOf_51 (by decide) ?_
  refine x_ishl C dX9_digitsOf_53 ?_
  refine x_ior C dX9_digitsOf_54 ?_
  refine x_topi (fun y5 e6 => ?_)
  have h1 := h1 y5 e6
  refine x_istore_n (L' := [(1, xm_i y5), (0, xm_i x0)]) C dX9_digitsOf_55 rfl (by decide) rfl ?_
  refine x_iload_n C 0 dX9_digitsOf_56 rfl rfl ?_
  refine x_iload_n C 1 dX9_digitsOf_57 rfl rfl ?_
  refine x_sipush (v := (nI 10000)) C dX9_digitsOf_58 (by decide) ?_
  refine x_idiv C dX9_digitsOf_61 (by decide) ?_
  refine x_bipush (v := (nI 10)) C dX9_digitsOf_62 (by decide) ?_
  refine x_irem C dX9_digitsOf_64 (by decide) ?_
  refine x_bipush (v := (nI 16)) C dX9_digitsOf_65 (by decide) ?_
  refine x_ishl C dX9_digitsOf_67 ?_
  refine x_ior C dX9_digitsOf_68 ?_
  exact x_iret C (Nat.le_of_ble_eq_true rfl) (Nat.le_of_ble_eq_true rfl) rfl dX9_digitsOf_69 (hg _ _ h1)
def wp_X9_digitsOf (x0 : Int32) (S : xm_S) (g : Int32 → xm_S → Prop) : Prop :=
  (¬ (x0 - x0 / (nI 10) * (nI 10)) = 0 → wp_X9_digitsOf_16 x0 (x0 - x0 / (nI 10) * (nI 10)) S g) ∧ ((x0 - x0 / (nI 10) * (nI 10)) = 0 → wp_X9_digitsOf_16 x0 (nI 10) S g)
set_option maxRecDepth 100000 in
set_option maxHeartbeats 4000000 in
theorem kp_X9_digitsOf {K : xm_K} (x0 : Int32) (S : xm_S) {g : Int32 → xm_S → Prop} (C : xm_Cx K cX9_digitsOf RX9 2 (some (FieldType.int)) rm_X9_digitsOf) (N : xm_Nx K) (hg : ∀ v S, g v S → xm_q K (some (xm_i v)) S)  (h1 : wp_X9_digitsOf x0 S g) : xm_W K 0 0 0 [(0, xm_i x0)] [] S := by
  unfold wp_X9_digitsOf at h1
  refine x_iload_n C 0 dX9_digitsOf_0 rfl rfl ?_
  refine x_bipush (v := (nI 10)) C dX9_digitsOf_1 (by decide) ?_
  refine x_irem C dX9_digitsOf_3 (by decide) ?_
  refine x_if_ne (tgt := 12) C dX9_digitsOf_4 (by decide) (fun z9 => ?_) (fun z9 => ?_)
  · have h1 := h1.1 z9
    refine x_iload_n C 0 dX9_digitsOf_12 rfl rfl ?_
    refine x_bipush (v := (nI 10)) C dX9_digitsOf_13 (by decide) ?_
    refine x_irem C dX9_digitsOf_15 (by decide) ?_
    exact kp_X9_digitsOf_16 x0 (x0 - x0 / (nI 10) * (nI 10)) S C N hg  h1
  · have h1 := h1.2 z9
    refine x_bipush (v := (nI 10)) C dX9_digitsOf_7 (by decide) ?_
    refine x_goto (tgt := 16) C dX9_digitsOf_9 (by decide) ?_
    exact kp_X9_digitsOf_16 x0 (nI 10) S C N hg  h1
theorem kp_X9_digitsOf_met {x0 : Int32} {S : xm_S} {g : Int32 → xm_S → Prop}  (h1 : wp_X9_digitsOf x0 S g) : xm_Met yX9_digitsOf cX9_digitsOf 2 (some (FieldType.int)) rm_X9_digitsOf [xm_i x0] S (xm_qi g) xm_nox :=
  xm_ofW RX9 (by decide +kernel) rfl (Nat.le_of_ble_eq_true rfl) (fun K C N hq hx hi => kp_X9_digitsOf x0 S C N (fun v S h => by rw [hq]; exact ⟨v, rfl, h⟩)  h1)
def rm_X9_next : Room := { frames := 1, cells := 0, slots := 0, locals := 20 }
theorem dX9_next_0 : decode cX9_next 0 = .ok (.iload_n 1, 1) := by decide +kernel
theorem dX9_next_1 : decode cX9_next 1 = .ok (.bipush 12, 2) := by decide +kernel
theorem dX9_next_3 : decode cX9_next 3 = .ok (.ishr, 1) := by decide +kernel
theorem dX9_next_4 : decode cX9_next 4 = .ok (.bipush 15, 2) := by decide +kernel
theorem dX9_next_6 : decode cX9_next 6 = .ok (.iand, 1) := by decide +kernel
theorem dX9_next_7 : decode cX9_next 7 = .ok (.ifCond .eq 7, 3) := by decide +kernel
theorem dX9_next_10 : decode cX9_next 10 = .ok (.iconst 1, 1) := by decide +kernel
theorem dX9_next_11 : decode cX9_next 11 = .ok (.goto 4, 3) := by decide +kernel
theorem dX9_next_14 : decode cX9_next 14 = .ok (.iconst 0, 1) := by decide +kernel
theorem dX9_next_15 : decode cX9_next 15 = .ok (.istore_n 3, 1) := by decide +kernel
theorem dX9_next_16 : decode cX9_next 16 = .ok (.iload_n 1, 1) := by decide +kernel
theorem dX9_next_17 : decode cX9_next 17 = .ok (.bipush 8, 2) := by decide +kernel
theorem dX9_next_19 : decode cX9_next 19 = .ok (.ishr, 1) := by decide +kernel
theorem dX9_next_20 : decode cX9_next 20 = .ok (.bipush 15, 2) := by decide +kernel
theorem dX9_next_22 : decode cX9_next 22 = .ok (.iand, 1) := by decide +kernel
theorem dX9_next_23 : decode cX9_next 23 = .ok (.ifCond .eq 7, 3) := by decide +kernel
theorem dX9_next_26 : decode cX9_next 26 = .ok (.iconst 1, 1) := by decide +kernel
theorem dX9_next_27 : decode cX9_next 27 = .ok (.goto 4, 3) := by decide +kernel
theorem dX9_next_30 : decode cX9_next 30 = .ok (.iconst 0, 1) := by decide +kernel
theorem dX9_next_31 : decode cX9_next 31 = .ok (.istore 4, 2) := by decide +kernel
theorem dX9_next_33 : decode cX9_next 33 = .ok (.iload_n 0, 1) := by decide +kernel
theorem dX9_next_34 : decode cX9_next 34 = .ok (.bipush 6, 2) := by decide +kernel
theorem dX9_next_36 : decode cX9_next 36 = .ok (.if_icmp .ne 17, 3) := by decide +kernel
theorem dX9_next_39 : decode cX9_next 39 = .ok (.iload_n 3, 1) := by decide +kernel
theorem dX9_next_40 : decode cX9_next 40 = .ok (.ifCond .ne 13, 3) := by decide +kernel
theorem dX9_next_43 : decode cX9_next 43 = .ok (.iload 4, 2) := by decide +kernel
theorem dX9_next_45 : decode cX9_next 45 = .ok (.ifCond .ne 8, 3) := by decide +kernel
theorem dX9_next_48 : decode cX9_next 48 = .ok (.bipush 16, 2) := by decide +kernel
theorem dX9_next_50 : decode cX9_next 50 = .ok (.goto 6, 3) := by decide +kernel
theorem dX9_next_53 : decode cX9_next 53 = .ok (.sipush 256, 3) := by decide +kernel
theorem dX9_next_56 : decode cX9_next 56 = .ok (.istore 5, 2) := by decide +kernel
theorem dX9_next_58 : decode cX9_next 58 = .ok (.iload_n 0, 1) := by decide +kernel
theorem dX9_next_59 : decode cX9_next 59 = .ok (.bipush 6, 2) := by decide +kernel
theorem dX9_next_61 : decode cX9_next 61 = .ok (.if_icmp .ne 10, 3) := by decide +kernel
theorem dX9_next_64 : decode cX9_next 64 = .ok (.iload_n 3, 1) := by decide +kernel
theorem dX9_next_65 : decode cX9_next 65 = .ok (.ifCond .eq 15, 3) := by decide +kernel
theorem dX9_next_68 : decode cX9_next 68 = .ok (.goto 7, 3) := by decide +kernel
theorem dX9_next_71 : decode cX9_next 71 = .ok (.iload_n 2, 1) := by decide +kernel
theorem dX9_next_72 : decode cX9_next 72 = .ok (.ifCond .ne 8, 3) := by decide +kernel
theorem dX9_next_75 : decode cX9_next 75 = .ok (.sipush 4096, 3) := by decide +kernel
theorem dX9_next_78 : decode cX9_next 78 = .ok (.istore 5, 2) := by decide +kernel
theorem dX9_next_80 : decode cX9_next 80 = .ok (.iload_n 1, 1) := by decide +kernel
theorem dX9_next_81 : decode cX9_next 81 = .ok (.iload 5, 2) := by decide +kernel
theorem dX9_next_83 : decode cX9_next 83 = .ok (.ineg, 1) := by decide +kernel
theorem dX9_next_84 : decode cX9_next 84 = .ok (.iand, 1) := by decide +kernel
theorem dX9_next_85 : decode cX9_next 85 = .ok (.iload 5, 2) := by decide +kernel
theorem dX9_next_87 : decode cX9_next 87 = .ok (.iadd, 1) := by decide +kernel
theorem dX9_next_88 : decode cX9_next 88 = .ok (.bipush 10, 2) := by decide +kernel
theorem dX9_next_90 : decode cX9_next 90 = .ok (.iadd, 1) := by decide +kernel
theorem dX9_next_91 : decode cX9_next 91 = .ok (.ireturn, 1) := by decide +kernel
def wp_X9_next_80 (x1 : Int32) (x5 : Int32) (S : xm_S) (g : Int32 → xm_S → Prop) : Prop :=
  g (((x1 &&& (-x5)) + x5) + (nI 10)) S
set_option maxRecDepth 100000 in
set_option maxHeartbeats 4000000 in
theorem kp_X9_next_80 {K : xm_K} (x1 : Int32) (x5 : Int32) (S : xm_S) {g : Int32 → xm_S → Prop} (C : xm_Cx K cX9_next RX9 6 (some (FieldType.int)) rm_X9_next) (N : xm_Nx K) (hg : ∀ v S, g v S → xm_q K (some (xm_i v)) S)  (h1 : wp_X9_next_80 x1 x5 S g) : xm_W K 0 0 80 [(1, xm_i x1), (5, xm_i x5)] [] S := by
  unfold wp_X9_next_80 at h1
  refine x_iload_n C 0 dX9_next_80 rfl rfl ?_
  refine x_iload C 1 dX9_next_81 rfl ?_
  refine x_ineg C dX9_next_83 ?_
  refine x_iand C dX9_next_84 ?_
  refine x_iload C 1 dX9_next_85 rfl ?_
  refine x_iadd C dX9_next_87 ?_
  refine x_bipush (v := (nI 10)) C dX9_next_88 (by decide) ?_
  refine x_iadd C dX9_next_90 ?_
  exact x_iret C (Nat.le_of_ble_eq_true rfl) (Nat.le_of_ble_eq_true rfl) rfl dX9_next_91 (hg _ _ h1)
def wp_X9_next_75 (x1 : Int32) (S : xm_S) (g : Int32 → xm_S → Prop) : Prop :=
  wp_X9_next_80 x1 (nI 4096) S g
set_option maxRecDepth 100000 in
set_option maxHeartbeats 4000000 in
theorem kp_X9_next_75 {K : xm_K} (x1 : Int32) (S : xm_S) {g : Int32 → xm_S → Prop} (C : xm_Cx K cX9_next RX9 6 (some (FieldType.int)) rm_X9_next) (N : xm_Nx K) (hg : ∀ v S, g v S → xm_q K (some (xm_i v)) S)  (h1 : wp_X9_next_75 x1 S g) : xm_W K 0 0 75 [(1, xm_i x1)] [] S := by
  unfold wp_X9_next_75 at h1
  refine x_sipush (v := (nI 4096)) C dX9_next_75 (by decide) ?_
  refine x_istore (L' := [(5, xm_i (nI 4096)), (1, xm_i x1)]) C dX9_next_78 (by decide) rfl ?_
  refine x_keep (L' := [(1, xm_i x1), (5, xm_i (nI 4096))]) C [1, 0] rfl ?_
  exact kp_X9_next_80 x1 (nI 4096) S C N hg  h1
def wp_X9_next_56 (x0 : Int32) (x1 : Int32) (x2 : Int32) (x3 : Int32) (s0 : Int32) (S : xm_S) (g : Int32 → xm_S → Prop) : Prop :=
  (¬ x0 = (nI 6) → (¬ x2 = 0 → wp_X9_next_80 x1 s0 S g) ∧ (x2 = 0 → wp_X9_next_75 x1 S g)) ∧ (x0 = (nI 6) → (x3 = 0 → wp_X9_next_80 x1 s0 S g) ∧ (¬ x3 = 0 → wp_X9_next_75 x1 S g))
set_option maxRecDepth 100000 in
set_option maxHeartbeats 4000000 in
theorem kp_X9_next_56 {K : xm_K} (x0 : Int32) (x1 : Int32) (x2 : Int32) (x3 : Int32) (s0 : Int32) (S : xm_S) {g : Int32 → xm_S → Prop} (C : xm_Cx K cX9_next RX9 6 (some (FieldType.int)) rm_X9_next) (N : xm_Nx K) (hg : ∀ v S, g v S → xm_q K (some (xm_i v)) S)  (h1 : wp_X9_next_56 x0 x1 x2 x3 s0 S g) : xm_W K 0 0 56 [(0, xm_i x0), (1, xm_i x1), (2, xm_i x2), (3, xm_i x3)] [xm_i s0] S := by
  unfold wp_X9_next_56 at h1
  refine x_istore (L' := [(5, xm_i s0), (0, xm_i x0), (1, xm_i x1), (2, xm_i x2), (3, xm_i x3)]) C dX9_next_56 (by decide) rfl ?_
  refine x_iload_n C 1 dX9_next_58 rfl rfl ?_
  refine x_bipush (v := (nI 6)) C dX9_next_59 (by decide) ?_
  refine x_icmp_ne (tgt := 71) C dX9_next_61 (by decide) (fun z9 => ?_) (fun z9 => ?_)
  · have h1 := h1.1 z9
    refine x_iload_n C 3 dX9_next_71 rfl rfl ?_
    refine x_if_ne (tgt := 80) C dX9_next_72 (by decide) (fun z9 => ?_) (fun z9 => ?_)
    · have h1 := h1.1 z9
      refine x_keep (L' := [(1, xm_i x1), (5, xm_i s0)]) C [2, 0] rfl ?_
      exact kp_X9_next_80 x1 s0 S C N hg  h1
    · have h1 := h1.2 z9
      refine x_keep (L' := [(1, xm_i x1)]) C [2] rfl ?_
      exact kp_X9_next_75 x1 S C N hg  h1
  · have h1 := h1.2 z9
    refine x_iload_n C 4 dX9_next_64 rfl rfl ?_
    refine x_if_eq (tgt := 80) C dX9_next_65 (by decide) (fun z9 => ?_) (fun z9 => ?_)
    · have h1 := h1.1 z9
      refine x_keep (L' := [(1, xm_i x1), (5, xm_i s0)]) C [2, 0] rfl ?_
      exact kp_X9_next_80 x1 s0 S C N hg  h1
    · have h1 := h1.2 z9
      refine x_goto (tgt := 75) C dX9_next_68 (by decide) ?_
      refine x_keep (L' := [(1, xm_i x1)]) C [2] rfl ?_
      exact kp_X9_next_75 x1 S C N hg  h1
def wp_X9_next_53 (x0 : Int32) (x1 : Int32) (x2 : Int32) (x3 : Int32) (S : xm_S) (g : Int32 → xm_S → Prop) : Prop :=
  wp_X9_next_56 x0 x1 x2 x3 (nI 256) S g
set_option maxRecDepth 100000 in
set_option maxHeartbeats 4000000 in
theorem kp_X9_next_53 {K : xm_K} (x0 : Int32) (x1 : Int32) (x2 : Int32) (x3 : Int32) (S : xm_S) {g : Int32 → xm_S → Prop} (C : xm_Cx K cX9_next RX9 6 (some (FieldType.int)) rm_X9_next) (N : xm_Nx K) (hg : ∀ v S, g v S → xm_q K (some (xm_i v)) S)  (h1 : wp_X9_next_53 x0 x1 x2 x3 S g) : xm_W K 0 0 53 [(0, xm_i x0), (1, xm_i x1), (2, xm_i x2), (3, xm_i x3)] [] S := by
  unfold wp_X9_next_53 at h1
  refine x_sipush (v := (nI 256)) C dX9_next_53 (by decide) ?_
  exact kp_X9_next_56 x0 x1 x2 x3 (nI 256) S C N hg  h1
def wp_X9_next_31 (x0 : Int32) (x1 : Int32) (x2 : Int32) (x3 : Int32) (s0 : Int32) (S : xm_S) (g : Int32 → xm_S → Prop) : Prop :=
  (¬ x0 = (nI 6) → wp_X9_next_53 x0 x1 x2 x3 S g) ∧ (x0 = (nI 6) → (¬ x3 = 0 → wp_X9_next_53 x0 x1 x2 x3 S g) ∧ (x3 = 0 → (¬ s0 = 0 → wp_X9_next_53 x0 x1 x2 x3 S g) ∧ (s0 = 0 → wp_X9_next_56 x0 x1 x2 x3 (nI 16) S g)))
set_option maxRecDepth 100000 in
set_option maxHeartbeats 4000000 in
theorem kp_X9_next_31 {K : xm_K} (x0 : Int32) (x1 : Int32) (x2 : Int32) (x3 : Int32) (s0 : Int32) (S : xm_S) {g : Int32 → xm_S → Prop} (C : xm_Cx K cX9_next RX9 6 (some (FieldType.int)) rm_X9_next) (N : xm_Nx K) (hg : ∀ v S, g v S → xm_q K (some (xm_i v)) S)  (h1 : wp_X9_next_31 x0 x1 x2 x3 s0 S g) : xm_W K 0 0 31 [(0, xm_i x0), (1, xm_i x1), (2, xm_i x2), (3, xm_i x3)] [xm_i s0] S := by
  unfold wp_X9_next_31 at h1
  refine x_istore (L' := [(4, xm_i s0), (0, xm_i x0), (1, xm_i x1), (2, xm_i x2), (3, xm_i x3)]) C dX9_next_31 (by decide) rfl ?_
  refine x_iload_n C 1 dX9_next_33 rfl rfl ?_
  refine x_bipush (v := (nI 6)) C dX9_next_34 (by decide) ?_
  refine x_icmp_ne (tgt := 53) C dX9_next_36 (by decide) (fun z9 => ?_) (fun z9 => ?_)
  · have h1 := h1.1 z9
    refine x_keep (L' := [(0, xm_i x0), (1, xm_i x1), (2, xm_i x2), (3, xm_i x3)]) C [1, 2, 3, 4] rfl ?_
    exact kp_X9_next_53 x0 x1 x2 x3 S C N hg  h1
  · have h1 := h1.2 z9
    refine x_iload_n C 4 dX9_next_39 rfl rfl ?_
    refine x_if_ne (tgt := 53) C dX9_next_40 (by decide) (fun z9 => ?_) (fun z9 => ?_)
    · have h1 := h1.1 z9
      refine x_keep (L' := [(0, xm_i x0), (1, xm_i x1), (2, xm_i x2), (3, xm_i x3)]) C [1, 2, 3, 4] rfl ?_
      exact kp_X9_next_53 x0 x1 x2 x3 S C N hg  h1
    · have h1 := h1.2 z9
      refine x_iload C 0 dX9_next_43 rfl ?_
      refine x_if_ne (tgt := 53) C dX9_next_45 (by decide) (fun z9 => ?_) (fun z9 => ?_)
      · have h1 := h1.1 z9
        refine x_keep (L' := [(0, xm_i x0), (1, xm_i x1), (2, xm_i x2), (3, xm_i x3)]) C [1, 2, 3, 4] rfl ?_
        exact kp_X9_next_53 x0 x1 x2 x3 S C N hg  h1
      · have h1 := h1.2 z9
        refine x_bipush (v := (nI 16)) C dX9_next_48 (by decide) ?_
        refine x_goto (tgt := 56) C dX9_next_50 (by decide) ?_
        refine x_keep (L' := [(0, xm_i x0), (1, xm_i x1), (2, xm_i x2), (3, xm_i x3)]) C [1, 2, 3, 4] rfl ?_
        exact kp_X9_next_56 x0 x1 x2 x3 (nI 16) S C N hg  h1
def wp_X9_next_15 (x0 : Int32) (x1 : Int32) (x2 : Int32) (s0 : Int32) (S : xm_S) (g : Int32 → xm_S → Prop) : Prop :=
  (((x1 >>> ((nI 8) &&& 31)) &&& (nI 15)) = 0 → wp_X9_next_31 x0 x1 x2 s0 (0 : Int32) S g) ∧ (¬ ((x1 >>> ((nI 8) &&& 31)) &&& (nI 15)) = 0 → wp_X9_next_31 x0 x1 x2 s0 (1 : Int32) S g)
set_option maxRecDepth 100000 in
set_option maxHeartbeats 4000000 in
theorem kp_X9_next_15 {K : xm_K} (x0 : Int32) (x1 : Int32) (x2 : Int32) (s0 : Int32) (S : xm_S) {g : Int32 → xm_S → Prop} (C : xm_Cx K cX9_next RX9 6 (some (FieldType.int)) rm_X9_next) (N : xm_Nx K) (hg : ∀ v S, g v S → xm_q K (some (xm_i v)) S)  (h1 : wp_X9_next_15 x0 x1 x2 s0 S g) : xm_W K 0 0 15 [(0, xm_i x0), (1, xm_i x1), (2, xm_i x2)] [xm_i s0] S := by
  unfold wp_X9_next_15 at h1
  refine x_istore_n (L' := [(3, xm_i s0), (0, xm_i x0), (1, xm_i x1), (2, xm_i x2)]) C dX9_next_15 rfl (by decide) rfl ?_
  refine x_iload_n C 2 dX9_next_16 rfl rfl ?_
  refine x_bipush (v := (nI 8)) C dX9_next_17 (by decide) ?_
  refine x_ishr C dX9_next_19 ?_
  refine x_bipush (v := (nI 15)) C dX9_next_20 (by decide) ?_
  refine x_iand C dX9_next_22 ?_
  refine x_if_eq (tgt := 30) C dX9_next_23 (by decide) (fun z9 => ?_) (fun z9 => ?_)
  · have h1 := h1.1 z9
    refine x_iconst (v := (0 : Int32)) C dX9_next_30 (by decide) ?_
    refine x_keep (L' := [(0, xm_i x0), (1, xm_i x1), (2, xm_i x2), (3, xm_i s0)]) C [1, 2, 3, 0] rfl ?_
    exact kp_X9_next_31 x0 x1 x2 s0 (0 : Int32) S C N hg  h1
  · have h1 := h1.2 z9
    refine x_iconst (v := (1 : Int32)) C dX9_next_26 (by decide) ?_
    refine x_goto (tgt := 31) C dX9_next_27 (by decide) ?_
    refine x_keep (L' := [(0, xm_i x0), (1, xm_i x1), (2, xm_i x2), (3, xm_i s0)]) C [1, 2, 3, 0] rfl ?_
    exact kp_X9_next_31 x0 x1 x2 s0 (1 : Int32) S C N hg  h1
def wp_X9_next (x0 : Int32) (x1 : Int32) (x2 : Int32) (S : xm_S) (g : Int32 → xm_S → Prop) : Prop :=
  (((x1 >>> ((nI 12) &&& 31)) &&& (nI 15)) = 0 → wp_X9_next_15 x0 x1 x2 (0 : Int32) S g) ∧ (¬ ((x1 >>> ((nI 12) &&& 31)) &&& (nI 15)) = 0 → wp_X9_next_15 x0 x1 x2 (1 : Int32) S g)
set_option maxRecDepth 100000 in
set_option maxHeartbeats 4000000 in
theorem kp_X9_next {K : xm_K} (x0 : Int32) (x1 : Int32) (x2 : Int32) (S : xm_S) {g : Int32 → xm_S → Prop} (C : xm_Cx K cX9_next RX9 6 (some (FieldType.int)) rm_X9_next) (N : xm_Nx K) (hg : ∀ v S, g v S → xm_q K (some (xm_i v)) S)  (h1 : wp_X9_next x0 x1 x2 S g) : xm_W K 0 0 0 [(0, xm_i x0), (1, xm_i x1), (2, xm_i x2)] [] S := by
  unfold wp_X9_next at h1
  refine x_iload_n C 1 dX9_next_0 rfl rfl ?_
  refine x_bipush (v := (nI 12)) C dX9_next_1 (by decide) ?_
  refine x_ishr C dX9_next_3 ?_
  refine x_bipush (v := (nI 15)) C dX9_next_4 (by decide) ?_
  refine x_iand C dX9_next_6 ?_
  refine x_if_eq (tgt := 14) C dX9_next_7 (by decide) (fun z9 => ?_) (fun z9 => ?_)
  · have h1 := h1.1 z9
    refine x_iconst (v := (0 : Int32)) C dX9_next_14 (by decide) ?_
    exact kp_X9_next_15 x0 x1 x2 (0 : Int32) S C N hg  h1
  · have h1 := h1.2 z9
    refine x_iconst (v := (1 : Int32)) C dX9_next_10 (by decide) ?_
    refine x_goto (tgt := 15) C dX9_next_11 (by decide) ?_
    exact kp_X9_next_15 x0 x1 x2 (1 : Int32) S C N hg  h1
theorem kp_X9_next_met {x0 : Int32} {x1 : Int32} {x2 : Int32} {S : xm_S} {g : Int32 → xm_S → Prop}  (h1 : wp_X9_next x0 x1 x2 S g) : xm_Met yX9_next cX9_next 6 (some (FieldType.int)) rm_X9_next [xm_i x0, xm_i x1, xm_i x2] S (xm_qi g) xm_nox :=
  xm_ofW RX9 (by decide +kernel) rfl (Nat.le_of_ble_eq_true rfl) (fun K C N hq hx hi => kp_X9_next x0 x1 x2 S C N (fun v S h => by rw [hq]; exact ⟨v, rfl, h⟩)  h1)
def rm_X9_init : Room := { frames := 2, cells := 2, slots := 6, locals := 45 }
theorem dX9_init_0 : decode cX9_init 0 = .ok (.aload_n 0, 1) := by decide +kernel
theorem dX9_init_1 : decode cX9_init 1 = .ok (.invokespecial 3, 3) := by decide +kernel
theorem dX9_init_4 : decode cX9_init 4 = .ok (.aload_n 0, 1) := by decide +kernel
theorem dX9_init_5 : decode cX9_init 5 = .ok (.iconst 3, 1) := by decide +kernel
theorem dX9_init_6 : decode cX9_init 6 = .ok (.newarray .int, 2) := by decide +kernel
theorem dX9_init_8 : decode cX9_init 8 = .ok (.putfield 9, 3) := by decide +kernel
theorem dX9_init_11 : decode cX9_init 11 = .ok (.aload_n 0, 1) := by decide +kernel
theorem dX9_init_12 : decode cX9_init 12 = .ok (.iconst 3, 1) := by decide +kernel
theorem dX9_init_13 : decode cX9_init 13 = .ok (.newarray .int, 2) := by decide +kernel
theorem dX9_init_15 : decode cX9_init 15 = .ok (.putfield 15, 3) := by decide +kernel
theorem dX9_init_18 : decode cX9_init 18 = .ok (.aload_n 0, 1) := by decide +kernel
theorem dX9_init_19 : decode cX9_init 19 = .ok (.iload_n 2, 1) := by decide +kernel
theorem dX9_init_20 : decode cX9_init 20 = .ok (.putfield 18, 3) := by decide +kernel
theorem dX9_init_23 : decode cX9_init 23 = .ok (.aload_n 0, 1) := by decide +kernel
theorem dX9_init_24 : decode cX9_init 24 = .ok (.iload 4, 2) := by decide +kernel
theorem dX9_init_26 : decode cX9_init 26 = .ok (.putfield 22, 3) := by decide +kernel
theorem dX9_init_29 : decode cX9_init 29 = .ok (.iconst 0, 1) := by decide +kernel
theorem dX9_init_30 : decode cX9_init 30 = .ok (.istore 5, 2) := by decide +kernel
theorem dX9_init_32 : decode cX9_init 32 = .ok (.iload 5, 2) := by decide +kernel
theorem dX9_init_34 : decode cX9_init 34 = .ok (.iconst 2, 1) := by decide +kernel
theorem dX9_init_35 : decode cX9_init 35 = .ok (.if_icmp .gt 150, 3) := by decide +kernel
theorem dX9_init_38 : decode cX9_init 38 = .ok (.iload_n 2, 1) := by decide +kernel
theorem dX9_init_39 : decode cX9_init 39 = .ok (.iload 5, 2) := by decide +kernel
theorem dX9_init_41 : decode cX9_init 41 = .ok (.invokestatic 26, 3) := by decide +kernel
theorem dX9_init_44 : decode cX9_init 44 = .ok (.istore 6, 2) := by decide +kernel
theorem dX9_init_46 : decode cX9_init 46 = .ok (.iload_n 1, 1) := by decide +kernel
theorem dX9_init_47 : decode cX9_init 47 = .ok (.ifCond .eq 13, 3) := by decide +kernel
theorem dX9_init_50 : decode cX9_init 50 = .ok (.iload_n 1, 1) := by decide +kernel
theorem dX9_init_51 : decode cX9_init 51 = .ok (.iconst 3, 1) := by decide +kernel
theorem dX9_init_52 : decode cX9_init 52 = .ok (.if_icmp .eq 8, 3) := by decide +kernel
theorem dX9_init_55 : decode cX9_init 55 = .ok (.iload_n 1, 1) := by decide +kernel
theorem dX9_init_56 : decode cX9_init 56 = .ok (.iconst 5, 1) := by decide +kernel
theorem dX9_init_57 : decode cX9_init 57 = .ok (.if_icmp .ne 7, 3) := by decide +kernel
theorem dX9_init_60 : decode cX9_init 60 = .ok (.iconst 1, 1) := by decide +kernel
theorem dX9_init_61 : decode cX9_init 61 = .ok (.goto 4, 3) := by decide +kernel
theorem dX9_init_64 : decode cX9_init 64 = .ok (.iconst 0, 1) := by decide +kernel
theorem dX9_init_65 : decode cX9_init 65 = .ok (.istore 7, 2) := by decide +kernel
theorem dX9_init_67 : decode cX9_init 67 = .ok (.iload_n 1, 1) := by decide +kernel
theorem dX9_init_68 : decode cX9_init 68 = .ok (.ifCond .eq 13, 3) := by decide +kernel
theorem dX9_init_71 : decode cX9_init 71 = .ok (.iload_n 1, 1) := by decide +kernel
theorem dX9_init_72 : decode cX9_init 72 = .ok (.iconst 2, 1) := by decide +kernel
theorem dX9_init_73 : decode cX9_init 73 = .ok (.if_icmp .eq 8, 3) := by decide +kernel
theorem dX9_init_76 : decode cX9_init 76 = .ok (.iload_n 1, 1) := by decide +kernel
theorem dX9_init_77 : decode cX9_init 77 = .ok (.iconst 4, 1) := by decide +kernel
theorem dX9_init_78 : decode cX9_init 78 = .ok (.if_icmp .ne 7, 3) := by decide +kernel
theorem dX9_init_81 : decode cX9_init 81 = .ok (.iconst 1, 1) := by decide +kernel
theorem dX9_init_82 : decode cX9_init 82 = .ok (.goto 4, 3) := by decide +kernel
theorem dX9_init_85 : decode cX9_init 85 = .ok (.iconst 0, 1) := by decide +kernel
theorem dX9_init_86 : decode cX9_init 86 = .ok (.istore 8, 2) := by decide +kernel
theorem dX9_init_88 : decode cX9_init 88 = .ok (.aload_n 0, 1) := by decide +kernel
theorem dX9_init_89 : decode cX9_init 89 = .ok (.getfield 9, 3) := by decide +kernel
theorem dX9_init_92 : decode cX9_init 92 = .ok (.iload 5, 2) := by decide +kernel
theorem dX9_init_94 : decode cX9_init 94 = .ok (.iload 7, 2) := by decide +kernel
theorem dX9_init_96 : decode cX9_init 96 = .ok (.ifCond .eq 7, 3) := by decide +kernel
theorem dX9_init_99 : decode cX9_init 99 = .ok (.iconst 0, 1) := by decide +kernel
theorem dX9_init_100 : decode cX9_init 100 = .ok (.goto 17, 3) := by decide +kernel
theorem dX9_init_103 : decode cX9_init 103 = .ok (.iload_n 1, 1) := by decide +kernel
theorem dX9_init_104 : decode cX9_init 104 = .ok (.iconst 2, 1) := by decide +kernel
theorem dX9_init_105 : decode cX9_init 105 = .ok (.if_icmp .ne 10, 3) := by decide +kernel
theorem dX9_init_108 : decode cX9_init 108 = .ok (.iload 6, 2) := by decide +kernel
theorem dX9_init_110 : decode cX9_init 110 = .ok (.iconst 1, 1) := by decide +kernel
theorem dX9_init_111 : decode cX9_init 111 = .ok (.iadd, 1) := by decide +kernel
theorem dX9_init_112 : decode cX9_init 112 = .ok (.goto 5, 3) := by decide +kernel
theorem dX9_init_115 : decode cX9_init 115 = .ok (.iload 6, 2) := by decide +kernel
theorem dX9_init_117 : decode cX9_init 117 = .ok (.iastore, 1) := by decide +kernel
theorem dX9_init_118 : decode cX9_init 118 = .ok (.aload_n 0, 1) := by decide +kernel
theorem dX9_init_119 : decode cX9_init 119 = .ok (.getfield 15, 3) := by decide +kernel
theorem dX9_init_122 : decode cX9_init 122 = .ok (.iload 5, 2) := by decide +kernel
theorem dX9_init_124 : decode cX9_init 124 = .ok (.iload 8, 2) := by decide +kernel
theorem dX9_init_126 : decode cX9_init 126 = .ok (.ifCond .eq 8, 3) := by decide +kernel
theorem dX9_init_129 : decode cX9_init 129 = .ok (.ldc 30, 2) := by decide +kernel
theorem dX9_init_131 : decode cX9_init 131 = .ok (.goto 17, 3) := by decide +kernel
theorem dX9_init_134 : decode cX9_init 134 = .ok (.iload_n 1, 1) := by decide +kernel
theorem dX9_init_135 : decode cX9_init 135 = .ok (.iconst 3, 1) := by decide +kernel
theorem dX9_init_136 : decode cX9_init 136 = .ok (.if_icmp .ne 8, 3) := by decide +kernel
theorem dX9_init_139 : decode cX9_init 139 = .ok (.iload 6, 2) := by decide +kernel
theorem dX9_init_141 : decode cX9_init 141 = .ok (.goto 7, 3) := by decide +kernel
theorem dX9_init_144 : decode cX9_init 144 = .ok (.iload 6, 2) := by decide +kernel
theorem dX9_init_146 : decode cX9_init 146 = .ok (.iconst 1, 1) := by decide +kernel
theorem dX9_init_147 : decode cX9_init 147 = .ok (.iadd, 1) := by decide +kernel
theorem dX9_init_148 : decode cX9_init 148 = .ok (.iastore, 1) := by decide +kernel
theorem dX9_init_149 : decode cX9_init 149 = .ok (.iload_n 1, 1) := by decide +kernel
theorem dX9_init_150 : decode cX9_init 150 = .ok (.bipush 6, 2) := by decide +kernel
theorem dX9_init_152 : decode cX9_init 152 = .ok (.if_icmp .eq 9, 3) := by decide +kernel
theorem dX9_init_155 : decode cX9_init 155 = .ok (.iload_n 1, 1) := by decide +kernel
theorem dX9_init_156 : decode cX9_init 156 = .ok (.bipush 7, 2) := by decide +kernel
theorem dX9_init_158 : decode cX9_init 158 = .ok (.if_icmp .ne 21, 3) := by decide +kernel
theorem dX9_init_161 : decode cX9_init 161 = .ok (.aload_n 0, 1) := by decide +kernel
theorem dX9_init_162 : decode cX9_init 162 = .ok (.getfield 15, 3) := by decide +kernel
theorem dX9_init_165 : decode cX9_init 165 = .ok (.iload 5, 2) := by decide +kernel
theorem dX9_init_167 : decode cX9_init 167 = .ok (.iload_n 1, 1) := by decide +kernel
theorem dX9_init_168 : decode cX9_init 168 = .ok (.iload_n 2, 1) := by decide +kernel
theorem dX9_init_169 : decode cX9_init 169 = .ok (.iload_n 3, 1) := by decide +kernel
theorem dX9_init_170 : decode cX9_init 170 = .ok (.invokestatic 31, 3) := by decide +kernel
theorem dX9_init_173 : decode cX9_init 173 = .ok (.iload 5, 2) := by decide +kernel
theorem dX9_init_175 : decode cX9_init 175 = .ok (.invokestatic 26, 3) := by decide +kernel
theorem dX9_init_178 : decode cX9_init 178 = .ok (.iastore, 1) := by decide +kernel
theorem dX9_init_179 : decode cX9_init 179 = .ok (.iinc 5 1, 3) := by decide +kernel
theorem dX9_init_182 : decode cX9_init 182 = .ok (.goto (-150), 3) := by decide +kernel
theorem dX9_init_185 : decode cX9_init 185 = .ok (.return_, 1) := by decide +kernel
def wp_X9_init_179 (h : Nat) (x1 : Int32) (x2 : Int32) (x3 : Int32) (x5 : Int32) (S : xm_S) (g : xm_S → Prop) (Z32 : Int32 → Int32 → Int32 → Int32 → xm_S → Prop) : Prop :=
  ∀ y1, y1 = (x5 + (1 : Int32)) → Z32 x1 x2 x3 y1 S
set_option maxRecDepth 100000 in
set_option maxHeartbeats 4000000 in
theorem kp_X9_init_179 {K : xm_K} (h : Nat) (x1 : Int32) (x2 : Int32) (x3 : Int32) (x5 : Int32) (S : xm_S) {g : xm_S → Prop} {Z32 : Int32 → Int32 → Int32 → Int32 → xm_S → Prop} (C : xm_Cx K cX9_init RX9 9 none rm_X9_init) (N : xm_Nx K) (hini : xm_init K) (hg : ∀ S, g S → xm_q K none S) (hZ32 : ∀ x1 x2 x3 x5 S, Z32 x1 x2 x3 x5 S → xm_W K 2 6 32 [(0, xm_r (some h)), (1, xm_i x1), (2, xm_i x2), (3, xm_i x3), (5, xm_i x5)] [] S) (h1 : wp_X9_init_179 h x1 x2 x3 x5 S g Z32) : xm_W K 2 6 179 [(0, xm_r (some h)), (1, xm_i x1), (2, xm_i x2), (3, xm_i x3), (5, xm_i x5)] [] S := by
  unfold wp_X9_init_179 at h1
  obtain ⟨y1, e2⟩ : ∃ y1, y1 = (x5 + (1 : Int32)) := ⟨_, rfl⟩
  have h1 := h1 y1 e2
  refine x_iinc (v := y1) (L' := [(5, xm_i y1), (0, xm_r (some h)), (1, xm_i x1), (2, xm_i x2), (3, xm_i x3)]) C 4 dX9_init_179 rfl (by rw [e2]; rfl) (by decide) rfl ?_
  refine x_goto (tgt := 32) C dX9_init_182 (by decide) ?_
  refine x_keep (L' := [(0, xm_r (some h)), (1, xm_i x1), (2, xm_i x2), (3, xm_i x3), (5, xm_i y1)]) C [1, 2, 3, 4, 0] rfl ?_
  exact hZ32 x1 x2 x3 y1 S h1
def wp_X9_init_161 (h : Nat) (x1 : Int32) (x2 : Int32) (x3 : Int32) (x5 : Int32) (S : xm_S) (g : xm_S → Prop) (Z32 : Int32 → Int32 → Int32 → Int32 → xm_S → Prop) : Prop :=
  st_t S h = some (9, 0) ∧ wp_X9_next x1 x2 x3 S (fun r5 S4 => wp_X9_rank r5 x5 S4 (fun r7 S6 => ∃ n8, (st_r S h 3) = some n8 ∧ ∃ z11, st_t S6 n8 = some (100, z11) ∧ vp_in x5 z11 ∧ ∀ S13, S13 = st_pi S6 n8 (x5).toNatClampNeg r7 → wp_X9_init_179 h x1 x2 x3 x5 S13 g Z32))
set_option maxRecDepth 100000 in
set_option maxHeartbeats 4000000 in
theorem kp_X9_init_161 {K : xm_K} (h : Nat) (x1 : Int32) (x2 : Int32) (x3 : Int32) (x5 : Int32) (S : xm_S) {g : xm_S → Prop} {Z32 : Int32 → Int32 → Int32 → Int32 → xm_S → Prop} (C : xm_Cx K cX9_init RX9 9 none rm_X9_init) (N : xm_Nx K) (hini : xm_init K) (hg : ∀ S, g S → xm_q K none S) (hZ32 : ∀ x1 x2 x3 x5 S, Z32 x1 x2 x3 x5 S → xm_W K 2 6 32 [(0, xm_r (some h)), (1, xm_i x1), (2, xm_i x2), (3, xm_i x3), (5, xm_i x5)] [] S) (h1 : wp_X9_init_161 h x1 x2 x3 x5 S g Z32) : xm_W K 2 6 161 [(0, xm_r (some h)), (1, xm_i x1), (2, xm_i x2), (3, xm_i x3), (5, xm_i x5)] [] S := by
  unfold wp_X9_init_161 at h1
  refine x_aload_n C 0 dX9_init_161 rfl rfl ?_
  obtain ⟨ht3, h1⟩ := h1
  refine x_getf_r (n := h) C rfl ht3 fd_88 (by decide) dX9_init_162 ?_
  refine x_iload C 4 dX9_init_165 rfl ?_
  refine x_iload_n C 1 dX9_init_167 rfl rfl ?_
  refine x_iload_n C 2 dX9_init_168 rfl rfl ?_
  refine x_iload_n C 3 dX9_init_169 rfl rfl ?_
  refine x_callS (rm' := rm_X9_next) C (kp_X9_next_met h1) lk_27 gw_211 rfl (Nat.le_of_ble_eq_true rfl) ⟨Nat.le_of_ble_eq_true rfl, Nat.le_of_ble_eq_true rfl, (Nat.le_of_ble_eq_true rfl), (Nat.le_of_ble_eq_true rfl)⟩ dX9_init_170 xm_kx (xm_ki (fun r5 S4 h1 => ?_))
  refine x_iload C 4 dX9_init_173 rfl ?_
  refine x_callS (rm' := rm_X9_rank) C (kp_X9_rank_met h1) lk_28 gw_88 rfl (Nat.le_of_ble_eq_true rfl) ⟨Nat.le_of_ble_eq_true rfl, Nat.le_of_ble_eq_true rfl, (Nat.le_of_ble_eq_true rfl), (Nat.le_of_ble_eq_true rfl)⟩ dX9_init_175 xm_kx (xm_ki (fun r7 S6 h1 => ?_))
  obtain ⟨n8, hr9, h1⟩ := h1
  obtain ⟨z11, ht10, h1⟩ := h1
  obtain ⟨hi12, h1⟩ := h1
  refine x_iast (n := n8) C hr9 ht10 hi12 dX9_init_178 ?_
  refine x_topS (fun S13 e14 => ?_)
  have h1 := h1 S13 e14
  exact kp_X9_init_179 h x1 x2 x3 x5 S13 C N hini hg hZ32 h1
def wp_X9_init_148 (h : Nat) (x1 : Int32) (x2 : Int32) (x3 : Int32) (x5 : Int32) (s0 : Int32) (s1 : Int32) (s2 : Option Nat) (S : xm_S) (g : xm_S → Prop) (Z32 : Int32 → Int32 → Int32 → Int32 → xm_S → Prop) : Prop :=
  ∃ n15, s2 = some n15 ∧ ∃ z18, st_t S n15 = some (100, z18) ∧ vp_in s1 z18 ∧ ∀ S20, S20 = st_pi S n15 (s1).toNatClampNeg s0 → (x1 = (nI 6) → wp_X9_init_161 h x1 x2 x3 x5 S20 g Z32) ∧ (¬ x1 = (nI 6) → (¬ x1 = (nI 7) → wp_X9_init_179 h x1 x2 x3 x5 S20 g Z32) ∧ (x1 = (nI 7) → wp_X9_init_161 h x1 x2 x3 x5 S20 g Z32))
set_option maxRecDepth 100000 in
set_option maxHeartbeats 4000000 in
theorem kp_X9_init_148 {K : xm_K} (h : Nat) (x1 : Int32) (x2 : Int32) (x3 : Int32) (x5 : Int32) (s0 : Int32) (s1 : Int32) (s2 : Option Nat) (S : xm_S) {g : xm_S → Prop} {Z32 : Int32 → Int32 → Int32 → Int32 → xm_S → Prop} (C : xm_Cx K cX9_init RX9 9 none rm_X9_init) (N : xm_Nx K) (hini : xm_init K) (hg : ∀ S, g S → xm_q K none S) (hZ32 : ∀ x1 x2 x3 x5 S, Z32 x1 x2 x3 x5 S → xm_W K 2 6 32 [(0, xm_r (some h)), (1, xm_i x1), (2, xm_i x2), (3, xm_i x3), (5, xm_i x5)] [] S) (h1 : wp_X9_init_148 h x1 x2 x3 x5 s0 s1 s2 S g Z32) : xm_W K 2 6 148 [(0, xm_r (some h)), (1, xm_i x1), (2, xm_i x2), (3, xm_i x3), (5, xm_i x5)] [xm_i s0, xm_i s1, xm_r s2] S := by
  unfold wp_X9_init_148 at h1
  obtain ⟨n15, hr16, h1⟩ := h1
  obtain ⟨z18, ht17, h1⟩ := h1
  obtain ⟨hi19, h1⟩ := h1
  refine x_iast (n := n15) C hr16 ht17 hi19 dX9_init_148 ?_
  refine x_topS (fun S20 e21 => ?_)
  have h1 := h1 S20 e21
  refine x_iload_n C 1 dX9_init_149 rfl rfl ?_
  refine x_bipush (v := (nI 6)) C dX9_init_150 (by decide) ?_
  refine x_icmp_eq (tgt := 161) C dX9_init_152 (by decide) (fun z9 => ?_) (fun z9 => ?_)
  · have h1 := h1.1 z9
    exact kp_X9_init_161 h x1 x2 x3 x5 S20 C N hini hg hZ32 h1
  · have h1 := h1.2 z9
    refine x_iload_n C 1 dX9_init_155 rfl rfl ?_
    refine x_bipush (v := (nI 7)) C dX9_init_156 (by decide) ?_
    refine x_icmp_ne (tgt := 179) C dX9_init_158 (by decide) (fun z9 => ?_) (fun z9 => ?_)
    · have h1 := h1.1 z9
      exact kp_X9_init_179 h x1 x2 x3 x5 S20 C N hini hg hZ32 h1
    · have h1 := h1.2 z9
      exact kp_X9_init_161 h x1 x2 x3 x5 S20 C N hini hg hZ32 h1
def wp_X9_init_117 (h : Nat) (x1 : Int32) (x2 : Int32) (x3 : Int32) (x5 : Int32) (x6 : Int32) (x8 : Int32) (s0 : Int32) (s1 : Int32) (s2 : Option Nat) (S : xm_S) (g : xm_S → Prop) (Z32 : Int32 → Int32 → Int32 → Int32 → xm_S → Prop) : Prop :=
  ∃ n22, s2 = some n22 ∧ ∃ z25, st_t S n22 = some (100, z25) ∧ vp_in s1 z25 ∧ ∀ S27, S27 = st_pi S n22 (s1).toNatClampNeg s0 → st_t S27 h = some (9, 0) ∧ (x8 = 0 → (¬ x1 = (nI 3) → wp_X9_init_148 h x1 x2 x3 x5 (x6 + (1 : Int32)) x5 (st_r S27 h 3) S27 g Z32) ∧ (x1 = (nI 3) → wp_X9_init_148 h x1 x2 x3 x5 x6 x5 (st_r S27 h 3) S27 g Z32)) ∧ (¬ x8 = 0 → wp_X9_init_148 h x1 x2 x3 x5 (nI 1048576) x5 (st_r S27 h 3) S27 g Z32)
set_option maxRecDepth 100000 in
set_option maxHeartbeats 4000000 in
theorem kp_X9_init_117 {K : xm_K} (h : Nat) (x1 : Int32) (x2 : Int32) (x3 : Int32) (x5 : Int32) (x6 : Int32) (x8 : Int32) (s0 : Int32) (s1 : Int32) (s2 : Option Nat) (S : xm_S) {g : xm_S → Prop} {Z32 : Int32 → Int32 → Int32 → Int32 → xm_S → Prop} (C : xm_Cx K cX9_init RX9 9 none rm_X9_init) (N : xm_Nx K) (hini : xm_init K) (hg : ∀ S, g S → xm_q K none S) (hZ32 : ∀ x1 x2 x3 x5 S, Z32 x1 x2 x3 x5 S → xm_W K 2 6 32 [(0, xm_r (some h)), (1, xm_i x1), (2, xm_i x2), (3, xm_i x3), (5, xm_i x5)] [] S) (h1 : wp_X9_init_117 h x1 x2 x3 x5 x6 x8 s0 s1 s2 S g Z32) : xm_W K 2 6 117 [(0, xm_r (some h)), (1, xm_i x1), (2, xm_i x2), (3, xm_i x3), (5, xm_i x5), (6, xm_i x6), (8, xm_i x8)] [xm_i s0, xm_i s1, xm_r s2] S := by
  unfold wp_X9_init_117 at h1
  obtain ⟨n22, hr23, h1⟩ := h1
  obtain ⟨z25, ht24, h1⟩ := h1
  obtain ⟨hi26, h1⟩ := h1
  refine x_iast (n := n22) C hr23 ht24 hi26 dX9_init_117 ?_
  refine x_topS (fun S27 e28 => ?_)
  have h1 := h1 S27 e28
  refine x_aload_n C 0 dX9_init_118 rfl rfl ?_
  obtain ⟨ht29, h1⟩ := h1
  refine x_getf_r (n := h) C rfl ht29 fd_88 (by decide) dX9_init_119 ?_
  refine x_iload C 4 dX9_init_122 rfl ?_
  refine x_iload C 6 dX9_init_124 rfl ?_
  refine x_if_eq (tgt := 134) C dX9_init_126 (by decide) (fun z9 => ?_) (fun z9 => ?_)
  · have h1 := h1.1 z9
    refine x_iload_n C 1 dX9_init_134 rfl rfl ?_
    refine x_iconst (v := (nI 3)) C dX9_init_135 (by decide) ?_
    refine x_icmp_ne (tgt := 144) C dX9_init_136 (by decide) (fun z9 => ?_) (fun z9 => ?_)
    · have h1 := h1.1 z9
      refine x_iload C 5 dX9_init_144 rfl ?_
      refine x_iconst (v := (1 : Int32)) C dX9_init_146 (by decide) ?_
      refine x_iadd C dX9_init_147 ?_
      refine x_keep (L' := [(0, xm_r (some h)), (1, xm_i x1), (2, xm_i x2), (3, xm_i x3), (5, xm_i x5)]) C [0, 1, 2, 3, 4] rfl ?_
      exact kp_X9_init_148 h x1 x2 x3 x5 (x6 + (1 : Int32)) x5 (st_r S27 h 3) S27 C N hini hg hZ32 h1
    · have h1 := h1.2 z9
      refine x_iload C 5 dX9_init_139 rfl ?_
      refine x_goto (tgt := 148) C dX9_init_141 (by decide) ?_
      refine x_keep (L' := [(0, xm_r (some h)), (1, xm_i x1), (2, xm_i x2), (3, xm_i x3), (5, xm_i x5)]) C [0, 1, 2, 3, 4] rfl ?_
      exact kp_X9_init_148 h x1 x2 x3 x5 x6 x5 (st_r S27 h 3) S27 C N hini hg hZ32 h1
  · have h1 := h1.2 z9
    refine x_ldc (v := nI 1048576) C gw_213 dX9_init_129 ?_
    refine x_goto (tgt := 148) C dX9_init_131 (by decide) ?_
    refine x_keep (L' := [(0, xm_r (some h)), (1, xm_i x1), (2, xm_i x2), (3, xm_i x3), (5, xm_i x5)]) C [0, 1, 2, 3, 4] rfl ?_
    exact kp_X9_init_148 h x1 x2 x3 x5 (nI 1048576) x5 (st_r S27 h 3) S27 C N hini hg hZ32 h1
def wp_X9_init_86 (h : Nat) (x1 : Int32) (x2 : Int32) (x3 : Int32) (x5 : Int32) (x6 : Int32) (x7 : Int32) (s0 : Int32) (S : xm_S) (g : xm_S → Prop) (Z32 : Int32 → Int32 → Int32 → Int32 → xm_S → Prop) : Prop :=
  st_t S h = some (9, 0) ∧ (x7 = 0 → (¬ x1 = (nI 2) → wp_X9_init_117 h x1 x2 x3 x5 x6 s0 x6 x5 (st_r S h 2) S g Z32) ∧ (x1 = (nI 2) → wp_X9_init_117 h x1 x2 x3 x5 x6 s0 (x6 + (1 : Int32)) x5 (st_r S h 2) S g Z32)) ∧ (¬ x7 = 0 → wp_X9_init_117 h x1 x2 x3 x5 x6 s0 (0 : Int32) x5 (st_r S h 2) S g Z32)
set_option maxRecDepth 100000 in
set_option maxHeartbeats 4000000 in
theorem kp_X9_init_86 {K : xm_K} (h : Nat) (x1 : Int32) (x2 : Int32) (x3 : Int32) (x5 : Int32) (x6 : Int32) (x7 : Int32) (s0 : Int32) (S : xm_S) {g : xm_S → Prop} {Z32 : Int32 → Int32 → Int32 → Int32 → xm_S → Prop} (C : xm_Cx K cX9_init RX9 9 none rm_X9_init) (N : xm_Nx K) (hini : xm_init K) (hg : ∀ S, g S → xm_q K none S) (hZ32 : ∀ x1 x2 x3 x5 S, Z32 x1 x2 x3 x5 S → xm_W K 2 6 32 [(0, xm_r (some h)), (1, xm_i x1), (2, xm_i x2), (3, xm_i x3), (5, xm_i x5)] [] S) (h1 : wp_X9_init_86 h x1 x2 x3 x5 x6 x7 s0 S g Z32) : xm_W K 2 6 86 [(0, xm_r (some h)), (1, xm_i x1), (2, xm_i x2), (3, xm_i x3), (5, xm_i x5), (6, xm_i x6), (7, xm_i x7)] [xm_i s0] S := by
  unfold wp_X9_init_86 at h1
  refine x_istore (L' := [(8, xm_i s0), (0, xm_r (some h)), (1, xm_i x1), (2, xm_i x2), (3, xm_i x3), (5, xm_i x5), (6, xm_i x6), (7, xm_i x7)]) C dX9_init_86 (by decide) rfl ?_
  refine x_aload_n C 1 dX9_init_88 rfl rfl ?_
  obtain ⟨ht30, h1⟩ := h1
  refine x_getf_r (n := h) C rfl ht30 fd_89 (by decide) dX9_init_89 ?_
  refine x_iload C 5 dX9_init_92 rfl ?_
  refine x_iload C 7 dX9_init_94 rfl ?_
  refine x_if_eq (tgt := 103) C dX9_init_96 (by decide) (fun z9 => ?_) (fun z9 => ?_)
  · have h1 := h1.1 z9
    refine x_iload_n C 2 dX9_init_103 rfl rfl ?_
    refine x_iconst (v := (nI 2)) C dX9_init_104 (by decide) ?_
    refine x_icmp_ne (tgt := 115) C dX9_init_105 (by decide) (fun z9 => ?_) (fun z9 => ?_)
    · have h1 := h1.1 z9
      refine x_iload C 6 dX9_init_115 rfl ?_
      refine x_keep (L' := [(0, xm_r (some h)), (1, xm_i x1), (2, xm_i x2), (3, xm_i x3), (5, xm_i x5), (6, xm_i x6), (8, xm_i s0)]) C [1, 2, 3, 4, 5, 6, 0] rfl ?_
      exact kp_X9_init_117 h x1 x2 x3 x5 x6 s0 x6 x5 (st_r S h 2) S C N hini hg hZ32 h1
    · have h1 := h1.2 z9
      refine x_iload C 6 dX9_init_108 rfl ?_
      refine x_iconst (v := (1 : Int32)) C dX9_init_110 (by decide) ?_
      refine x_iadd C dX9_init_111 ?_
      refine x_goto (tgt := 117) C dX9_init_112 (by decide) ?_
      refine x_keep (L' := [(0, xm_r (some h)), (1, xm_i x1), (2, xm_i x2), (3, xm_i x3), (5, xm_i x5), (6, xm_i x6), (8, xm_i s0)]) C [1, 2, 3, 4, 5, 6, 0] rfl ?_
      exact kp_X9_init_117 h x1 x2 x3 x5 x6 s0 (x6 + (1 : Int32)) x5 (st_r S h 2) S C N hini hg hZ32 h1
  · have h1 := h1.2 z9
    refine x_iconst (v := (0 : Int32)) C dX9_init_99 (by decide) ?_
    refine x_goto (tgt := 117) C dX9_init_100 (by decide) ?_
    refine x_keep (L' := [(0, xm_r (some h)), (1, xm_i x1), (2, xm_i x2), (3, xm_i x3), (5, xm_i x5), (6, xm_i x6), (8, xm_i s0)]) C [1, 2, 3, 4, 5, 6, 0] rfl ?_
    exact kp_X9_init_117 h x1 x2 x3 x5 x6 s0 (0 : Int32) x5 (st_r S h 2) S C N hini hg hZ32 h1
def wp_X9_init_81 (h : Nat) (x1 : Int32) (x2 : Int32) (x3 : Int32) (x5 : Int32) (x6 : Int32) (x7 : Int32) (S : xm_S) (g : xm_S → Prop) (Z32 : Int32 → Int32 → Int32 → Int32 → xm_S → Prop) : Prop :=
  wp_X9_init_86 h x1 x2 x3 x5 x6 x7 (1 : Int32) S g Z32
set_option maxRecDepth 100000 in
set_option maxHeartbeats 4000000 in
theorem kp_X9_init_81 {K : xm_K} (h : Nat) (x1 : Int32) (x2 : Int32) (x3 : Int32) (x5 : Int32) (x6 : Int32) (x7 : Int32) (S : xm_S) {g : xm_S → Prop} {Z32 : Int32 → Int32 → Int32 → Int32 → xm_S → Prop} (C : xm_Cx K cX9_init RX9 9 none rm_X9_init) (N : xm_Nx K) (hini : xm_init K) (hg : ∀ S, g S → xm_q K none S) (hZ32 : ∀ x1 x2 x3 x5 S, Z32 x1 x2 x3 x5 S → xm_W K 2 6 32 [(0, xm_r (some h)), (1, xm_i x1), (2, xm_i x2), (3, xm_i x3), (5, xm_i x5)] [] S) (h1 : wp_X9_init_81 h x1 x2 x3 x5 x6 x7 S g Z32) : xm_W K 2 6 81 [(0, xm_r (some h)), (1, xm_i x1), (2, xm_i x2), (3, xm_i x3), (5, xm_i x5), (6, xm_i x6), (7, xm_i x7)] [] S := by
  unfold wp_X9_init_81 at h1
  refine x_iconst (v := (1 : Int32)) C dX9_init_81 (by decide) ?_
  refine x_goto (tgt := 86) C dX9_init_82 (by decide) ?_
  exact kp_X9_init_86 h x1 x2 x3 x5 x6 x7 (1 : Int32) S C N hini hg hZ32 h1
def wp_X9_init_65 (h : Nat) (x1 : Int32) (x2 : Int32) (x3 : Int32) (x5 : Int32) (x6 : Int32) (s0 : Int32) (S : xm_S) (g : xm_S → Prop) (Z32 : Int32 → Int32 → Int32 → Int32 → xm_S → Prop) : Prop :=
  (x1 = 0 → wp_X9_init_81 h x1 x2 x3 x5 x6 s0 S g Z32) ∧ (¬ x1 = 0 → (x1 = (nI 2) → wp_X9_init_81 h x1 x2 x3 x5 x6 s0 S g Z32) ∧ (¬ x1 = (nI 2) → (¬ x1 = (nI 4) → wp_X9_init_86 h x1 x2 x3 x5 x6 s0 (0 : Int32) S g Z32) ∧ (x1 = (nI 4) → wp_X9_init_81 h x1 x2 x3 x5 x6 s0 S g Z32)))
set_option maxRecDepth 100000 in
set_option maxHeartbeats 4000000 in
theorem kp_X9_init_65 {K : xm_K} (h : Nat) (x1 : Int32) (x2 : Int32) (x3 : Int32) (x5 : Int32) (x6 : Int32) (s0 : Int32) (S : xm_S) {g : xm_S → Prop} {Z32 : Int32 → Int32 → Int32 → Int32 → xm_S → Prop} (C : xm_Cx K cX9_init RX9 9 none rm_X9_init) (N : xm_Nx K) (hini : xm_init K) (hg : ∀ S, g S → xm_q K none S) (hZ32 : ∀ x1 x2 x3 x5 S, Z32 x1 x2 x3 x5 S → xm_W K 2 6 32 [(0, xm_r (some h)), (1, xm_i x1), (2, xm_i x2), (3, xm_i x3), (5, xm_i x5)] [] S) (h1 : wp_X9_init_65 h x1 x2 x3 x5 x6 s0 S g Z32) : xm_W K 2 6 65 [(0, xm_r (some h)), (1, xm_i x1), (2, xm_i x2), (3, xm_i x3), (5, xm_i x5), (6, xm_i x6)] [xm_i s0] S := by
  unfold wp_X9_init_65 at h1
  refine x_istore (L' := [(7, xm_i s0), (0, xm_r (some h)), (1, xm_i x1), (2, xm_i x2), (3, xm_i x3), (5, xm_i x5), (6, xm_i x6)]) C dX9_init_65 (by decide) rfl ?_
  refine x_iload_n C 2 dX9_init_67 rfl rfl ?_
  refine x_if_eq (tgt := 81) C dX9_init_68 (by decide) (fun z9 => ?_) (fun z9 => ?_)
  · have h1 := h1.1 z9
    refine x_keep (L' := [(0, xm_r (some h)), (1, xm_i x1), (2, xm_i x2), (3, xm_i x3), (5, xm_i x5), (6, xm_i x6), (7, xm_i s0)]) C [1, 2, 3, 4, 5, 6, 0] rfl ?_
    exact kp_X9_init_81 h x1 x2 x3 x5 x6 s0 S C N hini hg hZ32 h1
  · have h1 := h1.2 z9
    refine x_iload_n C 2 dX9_init_71 rfl rfl ?_
    refine x_iconst (v := (nI 2)) C dX9_init_72 (by decide) ?_
    refine x_icmp_eq (tgt := 81) C dX9_init_73 (by decide) (fun z9 => ?_) (fun z9 => ?_)
    · have h1 := h1.1 z9
      refine x_keep (L' := [(0, xm_r (some h)), (1, xm_i x1), (2, xm_i x2), (3, xm_i x3), (5, xm_i x5), (6, xm_i x6), (7, xm_i s0)]) C [1, 2, 3, 4, 5, 6, 0] rfl ?_
      exact kp_X9_init_81 h x1 x2 x3 x5 x6 s0 S C N hini hg hZ32 h1
    · have h1 := h1.2 z9
      refine x_iload_n C 2 dX9_init_76 rfl rfl ?_
      refine x_iconst (v := (nI 4)) C dX9_init_77 (by decide) ?_
      refine x_icmp_ne (tgt := 85) C dX9_init_78 (by decide) (fun z9 => ?_) (fun z9 => ?_)
      · have h1 := h1.1 z9
        refine x_iconst (v := (0 : Int32)) C dX9_init_85 (by decide) ?_
        refine x_keep (L' := [(0, xm_r (some h)), (1, xm_i x1), (2, xm_i x2), (3, xm_i x3), (5, xm_i x5), (6, xm_i x6), (7, xm_i s0)]) C [1, 2, 3, 4, 5, 6, 0] rfl ?_
        exact kp_X9_init_86 h x1 x2 x3 x5 x6 s0 (0 : Int32) S C N hini hg hZ32 h1
      · have h1 := h1.2 z9
        refine x_keep (L' := [(0, xm_r (some h)), (1, xm_i x1), (2, xm_i x2), (3, xm_i x3), (5, xm_i x5), (6, xm_i x6), (7, xm_i s0)]) C [1, 2, 3, 4, 5, 6, 0] rfl ?_
        exact kp_X9_init_81 h x1 x2 x3 x5 x6 s0 S C N hini hg hZ32 h1
def wp_X9_init_60 (h : Nat) (x1 : Int32) (x2 : Int32) (x3 : Int32) (x5 : Int32) (x6 : Int32) (S : xm_S) (g : xm_S → Prop) (Z32 : Int32 → Int32 → Int32 → Int32 → xm_S → Prop) : Prop :=
  wp_X9_init_65 h x1 x2 x3 x5 x6 (1 : Int32) S g Z32
set_option maxRecDepth 100000 in
set_option maxHeartbeats 4000000 in
theorem kp_X9_init_60 {K : xm_K} (h : Nat) (x1 : Int32) (x2 : Int32) (x3 : Int32) (x5 : Int32) (x6 : Int32) (S : xm_S) {g : xm_S → Prop} {Z32 : Int32 → Int32 → Int32 → Int32 → xm_S → Prop} (C : xm_Cx K cX9_init RX9 9 none rm_X9_init) (N : xm_Nx K) (hini : xm_init K) (hg : ∀ S, g S → xm_q K none S) (hZ32 : ∀ x1 x2 x3 x5 S, Z32 x1 x2 x3 x5 S → xm_W K 2 6 32 [(0, xm_r (some h)), (1, xm_i x1), (2, xm_i x2), (3, xm_i x3), (5, xm_i x5)] [] S) (h1 : wp_X9_init_60 h x1 x2 x3 x5 x6 S g Z32) : xm_W K 2 6 60 [(0, xm_r (some h)), (1, xm_i x1), (2, xm_i x2), (3, xm_i x3), (5, xm_i x5), (6, xm_i x6)] [] S := by
  unfold wp_X9_init_60 at h1
  refine x_iconst (v := (1 : Int32)) C dX9_init_60 (by decide) ?_
  refine x_goto (tgt := 65) C dX9_init_61 (by decide) ?_
  exact kp_X9_init_65 h x1 x2 x3 x5 x6 (1 : Int32) S C N hini hg hZ32 h1
def wp_X9_init_32B (h : Nat) (x1 : Int32) (x2 : Int32) (x3 : Int32) (x5 : Int32) (S : xm_S) (g : xm_S → Prop) (Z32 : Int32 → Int32 → Int32 → Int32 → xm_S → Prop) : Prop :=
  ((nI 2) < x5 → g S) ∧ (¬ (nI 2) < x5 → wp_X9_rank x2 x5 S (fun r32 S31 => (x1 = 0 → wp_X9_init_60 h x1 x2 x3 x5 r32 S31 g Z32) ∧ (¬ x1 = 0 → (x1 = (nI 3) → wp_X9_init_60 h x1 x2 x3 x5 r32 S31 g Z32) ∧ (¬ x1 = (nI 3) → (¬ x1 = (nI 5) → wp_X9_init_65 h x1 x2 x3 x5 r32 (0 : Int32) S31 g Z32) ∧ (x1 = (nI 5) → wp_X9_init_60 h x1 x2 x3 x5 r32 S31 g Z32)))))
def wp_X9_init_32 (h : Nat) (x1 : Int32) (x2 : Int32) (x3 : Int32) (x5 : Int32) (S : xm_S) (g : xm_S → Prop) : Prop :=
  ∀ Z32 : Int32 → Int32 → Int32 → Int32 → xm_S → Prop, (∀ x1 x2 x3 x5 S, wp_X9_init_32B h x1 x2 x3 x5 S g Z32 → Z32 x1 x2 x3 x5 S) → Z32 x1 x2 x3 x5 S
set_option maxRecDepth 100000 in
set_option maxHeartbeats 4000000 in
theorem kp_X9_init_32B {K : xm_K} (h : Nat) (x1 : Int32) (x2 : Int32) (x3 : Int32) (x5 : Int32) (S : xm_S) {g : xm_S → Prop} {Z32 : Int32 → Int32 → Int32 → Int32 → xm_S → Prop} (C : xm_Cx K cX9_init RX9 9 none rm_X9_init) (N : xm_Nx K) (hini : xm_init K) (hg : ∀ S, g S → xm_q K none S) (hZ32 : ∀ x1 x2 x3 x5 S, Z32 x1 x2 x3 x5 S → xm_W K 2 6 32 [(0, xm_r (some h)), (1, xm_i x1), (2, xm_i x2), (3, xm_i x3), (5, xm_i x5)] [] S) (h1 : wp_X9_init_32B h x1 x2 x3 x5 S g Z32) : xm_W K 2 6 32 [(0, xm_r (some h)), (1, xm_i x1), (2, xm_i x2), (3, xm_i x3), (5, xm_i x5)] [] S := by
  unfold wp_X9_init_32B at h1
  refine x_iload C 4 dX9_init_32 rfl ?_
  refine x_iconst (v := (nI 2)) C dX9_init_34 (by decide) ?_
  refine x_icmp_gt (tgt := 185) C dX9_init_35 (by decide) (fun z9 => ?_) (fun z9 => ?_)
  · have h1 := h1.1 z9
    exact x_vret C (Nat.le_of_ble_eq_true rfl) (Nat.le_of_ble_eq_true rfl) rfl dX9_init_185 (hg _ h1)
  · have h1 := h1.2 z9
    refine x_iload_n C 2 dX9_init_38 rfl rfl ?_
    refine x_iload C 4 dX9_init_39 rfl ?_
    refine x_callS (rm' := rm_X9_rank) C (kp_X9_rank_met h1) lk_28 gw_88 rfl (Nat.le_of_ble_eq_true rfl) ⟨Nat.le_of_ble_eq_true rfl, Nat.le_of_ble_eq_true rfl, (Nat.le_of_ble_eq_true rfl), (Nat.le_of_ble_eq_true rfl)⟩ dX9_init_41 xm_kx (xm_ki (fun r32 S31 h1 => ?_))
    refine x_istore (L' := [(6, xm_i r32), (0, xm_r (some h)), (1, xm_i x1), (2, xm_i x2), (3, xm_i x3), (5, xm_i x5)]) C dX9_init_44 (by decide) rfl ?_
    refine x_iload_n C 2 dX9_init_46 rfl rfl ?_
    refine x_if_eq (tgt := 60) C dX9_init_47 (by decide) (fun z9 => ?_) (fun z9 => ?_)
    · have h1 := h1.1 z9
      refine x_keep (L' := [(0, xm_r (some h)), (1, xm_i x1), (2, xm_i x2), (3, xm_i x3), (5, xm_i x5), (6, xm_i r32)]) C [1, 2, 3, 4, 5, 0] rfl ?_
      exact kp_X9_init_60 h x1 x2 x3 x5 r32 S31 C N hini hg hZ32 h1
    · have h1 := h1.2 z9
      refine x_iload_n C 2 dX9_init_50 rfl rfl ?_
      refine x_iconst (v := (nI 3)) C dX9_init_51 (by decide) ?_
      refine x_icmp_eq (tgt := 60) C dX9_init_52 (by decide) (fun z9 => ?_) (fun z9 => ?_)
      · have h1 := h1.1 z9
        refine x_keep (L' := [(0, xm_r (some h)), (1, xm_i x1), (2, xm_i x2), (3, xm_i x3), (5, xm_i x5), (6, xm_i r32)]) C [1, 2, 3, 4, 5, 0] rfl ?_
        exact kp_X9_init_60 h x1 x2 x3 x5 r32 S31 C N hini hg hZ32 h1
      · have h1 := h1.2 z9
        refine x_iload_n C 2 dX9_init_55 rfl rfl ?_
        refine x_iconst (v := (nI 5)) C dX9_init_56 (by decide) ?_
        refine x_icmp_ne (tgt := 64) C dX9_init_57 (by decide) (fun z9 => ?_) (fun z9 => ?_)
        · have h1 := h1.1 z9
          refine x_iconst (v := (0 : Int32)) C dX9_init_64 (by decide) ?_
          refine x_keep (L' := [(0, xm_r (some h)), (1, xm_i x1), (2, xm_i x2), (3, xm_i x3), (5, xm_i x5), (6, xm_i r32)]) C [1, 2, 3, 4, 5, 0] rfl ?_
          exact kp_X9_init_65 h x1 x2 x3 x5 r32 (0 : Int32) S31 C N hini hg hZ32 h1
        · have h1 := h1.2 z9
          refine x_keep (L' := [(0, xm_r (some h)), (1, xm_i x1), (2, xm_i x2), (3, xm_i x3), (5, xm_i x5), (6, xm_i r32)]) C [1, 2, 3, 4, 5, 0] rfl ?_
          exact kp_X9_init_60 h x1 x2 x3 x5 r32 S31 C N hini hg hZ32 h1
theorem kp_X9_init_32 {K : xm_K} (h : Nat) (x1 : Int32) (x2 : Int32) (x3 : Int32) (x5 : Int32) (S : xm_S) {g : xm_S → Prop} (C : xm_Cx K cX9_init RX9 9 none rm_X9_init) (N : xm_Nx K) (hini : xm_init K) (hg : ∀ S, g S → xm_q K none S)  (h1 : wp_X9_init_32 h x1 x2 x3 x5 S g) : xm_W K 2 6 32 [(0, xm_r (some h)), (1, xm_i x1), (2, xm_i x2), (3, xm_i x3), (5, xm_i x5)] [] S :=
  h1 (fun x1 x2 x3 x5 S => xm_W K 2 6 32 [(0, xm_r (some h)), (1, xm_i x1), (2, xm_i x2), (3, xm_i x3), (5, xm_i x5)] [] S) (fun x1 x2 x3 x5 S hb => kp_X9_init_32B h x1 x2 x3 x5 S C N hini hg (fun x1 x2 x3 x5 S hz => hz) hb)
def wp_X9_init (h : Nat) (x1 : Int32) (x2 : Int32) (x3 : Int32) (x4 : Int32) (S : xm_S) (g : xm_S → Prop) : Prop :=
  ∃ n33, st_t S n33 = none ∧ ∀ S35, S35 = st_nw S n33 (100, 3) → st_t S35 h = some (9, 0) ∧ ∀ S38, S38 = st_pr S35 h 2 (some n33) → ∃ n40, st_t S38 n40 = none ∧ ∀ S42, S42 = st_nw S38 n40 (100, 3) → ∀ S44, S44 = st_pr S42 h 3 (some n40) → ∀ S46, S46 = st_pi S44 h 0 x2 → (x4 = 0 ∨ x4 = 1) ∧ ∀ S49, S49 = st_pi S46 h 1 x4 → wp_X9_init_32 h x1 x2 x3 (0 : Int32) S49 g
set_option maxRecDepth 100000 in
set_option maxHeartbeats 4000000 in
theorem kp_X9_init {K : xm_K} (h : Nat) (x1 : Int32) (x2 : Int32) (x3 : Int32) (x4 : Int32) (S : xm_S) {g : xm_S → Prop} (C : xm_Cx K cX9_init RX9 9 none rm_X9_init) (N : xm_Nx K) (hini : xm_init K) (hg : ∀ S, g S → xm_q K none S)  (h1 : wp_X9_init h x1 x2 x3 x4 S g) : xm_W K 0 0 0 [(0, xm_r (some h)), (1, xm_i x1), (2, xm_i x2), (3, xm_i x3), (4, xm_i x4)] [] S := by
  unfold wp_X9_init at h1
  refine x_aload_n C 0 dX9_init_0 rfl rfl ?_
  refine x_objInit (n := h) C rfl gw_215 (Nat.le_of_ble_eq_true rfl) (Nat.le_of_ble_eq_true rfl) (Nat.le_of_ble_eq_true rfl) dX9_init_1 gw_1 gw_2 ?_
  refine x_aload_n C 0 dX9_init_4 rfl rfl ?_
  refine x_iconst (v := (nI 3)) C dX9_init_5 (by decide) ?_
  obtain ⟨n33, hn34, h1⟩ := h1
  refine x_newa_i (n := n33) (len := 3) C gw_11 (by decide) (by decide) hn34 (Nat.le_of_ble_eq_true rfl) (Nat.le_of_ble_eq_true rfl) dX9_init_6 ?_
  refine x_topS (fun S35 e36 => ?_)
  have h1 := h1 S35 e36
  obtain ⟨ht37, h1⟩ := h1
  refine x_putfF_r (n := h) C rfl ht37 fd_89 xc_9 (by decide) rfl hini rfl (xm_nr rfl) dX9_init_8 ?_
  refine x_topS (fun S38 e39 => ?_)
  have h1 := h1 S38 e39
  refine x_aload_n C 0 dX9_init_11 rfl rfl ?_
  refine x_iconst (v := (nI 3)) C dX9_init_12 (by decide) ?_
  obtain ⟨n40, hn41, h1⟩ := h1
  refine x_newa_i (n := n40) (len := 3) C gw_11 (by decide) (by decide) hn41 (Nat.le_of_ble_eq_true rfl) (Nat.le_of_ble_eq_true rfl) dX9_init_13 ?_
  refine x_topS (fun S42 e43 => ?_)
  have h1 := h1 S42 e43
  refine x_putfF_r (n := h) C rfl (tk_n e43 hn41 (tk_p e39 ht37)) fd_88 xc_9 (by decide) rfl hini rfl (xm_nr rfl) dX9_init_15 ?_
  refine x_topS (fun S44 e45 => ?_)
  have h1 := h1 S44 e45
  refine x_aload_n C 0 dX9_init_18 rfl rfl ?_
  refine x_iload_n C 2 dX9_init_19 rfl rfl ?_
  refine x_putfF_i (n := h) C rfl (tk_p e45 (tk_n e43 hn41 (tk_p e39 ht37))) fd_42 xc_9 (by decide) rfl hini rfl ⟨rfl, rfl⟩ dX9_init_20 ?_
  refine x_topS (fun S46 e47 => ?_)
  have h1 := h1 S46 e47
  refine x_aload_n C 0 dX9_init_23 rfl rfl ?_
  refine x_iload C 4 dX9_init_24 rfl ?_
  obtain ⟨hz48, h1⟩ := h1
  refine x_putfF_i (n := h) C rfl (tk_p e47 (tk_p e45 (tk_n e43 hn41 (tk_p e39 ht37)))) fd_90 xc_9 (by decide) rfl hini rfl (xm_nz hz48) dX9_init_26 ?_
  refine x_topS (fun S49 e50 => ?_)
  have h1 := h1 S49 e50
  refine x_iconst (v := (0 : Int32)) C dX9_init_29 (by decide) ?_
  refine x_istore (L' := [(5, xm_i (0 : Int32)), (0, xm_r (some h)), (1, xm_i x1), (2, xm_i x2), (3, xm_i x3), (4, xm_i x4)]) C dX9_init_30 (by decide) rfl ?_
  refine x_keep (L' := [(0, xm_r (some h)), (1, xm_i x1), (2, xm_i x2), (3, xm_i x3), (5, xm_i (0 : Int32))]) C [1, 2, 3, 4, 0] rfl ?_
  exact kp_X9_init_32 h x1 x2 x3 (0 : Int32) S49 C N hini hg  h1
theorem kp_X9_init_met {h : Nat} {x1 : Int32} {x2 : Int32} {x3 : Int32} {x4 : Int32} {S : xm_S} {g : xm_S → Prop}  (h1 : wp_X9_init h x1 x2 x3 x4 S g) : xm_Met yX9_init cX9_init 9 none rm_X9_init [xm_r (some h), xm_i x1, xm_i x2, xm_i x3, xm_i x4] S (xm_qv g) xm_nox :=
  xm_ofW RX9 (by decide +kernel) rfl (Nat.le_of_ble_eq_true rfl) (fun K C N hq hx hi => kp_X9_init h x1 x2 x3 x4 S C N (hi rfl) (fun S h => by rw [hq]; exact ⟨rfl, h⟩)  h1)
def rm_X8_readTest : Room := { frames := 3, cells := 3, slots := 10, locals := 73 }
theorem dX8_readTest_0 : decode cX8_readTest 0 = .ok (.aload_n 0, 1) := by decide +kernel
theorem dX8_readTest_1 : decode cX8_readTest 1 = .ok (.invokevirtual 50, 3) := by decide +kernel
theorem dX8_readTest_4 : decode cX8_readTest 4 = .ok (.istore_n 2, 1) := by decide +kernel
theorem dX8_readTest_5 : decode cX8_readTest 5 = .ok (.aload_n 0, 1) := by decide +kernel
theorem dX8_readTest_6 : decode cX8_readTest 6 = .ok (.invokevirtual 54, 3) := by decide +kernel
theorem dX8_readTest_9 : decode cX8_readTest 9 = .ok (.istore_n 3, 1) := by decide +kernel
theorem dX8_readTest_10 : decode cX8_readTest 10 = .ok (.aload_n 0, 1) := by decide +kernel
theorem dX8_readTest_11 : decode cX8_readTest 11 = .ok (.bipush 58, 2) := by decide +kernel
theorem dX8_readTest_13 : decode cX8_readTest 13 = .ok (.invokevirtual 33, 3) := by decide +kernel
theorem dX8_readTest_16 : decode cX8_readTest 16 = .ok (.istore 4, 2) := by decide +kernel
theorem dX8_readTest_18 : decode cX8_readTest 18 = .ok (.iload 4, 2) := by decide +kernel
theorem dX8_readTest_20 : decode cX8_readTest 20 = .ok (.ifCond .eq 10, 3) := by decide +kernel
theorem dX8_readTest_23 : decode cX8_readTest 23 = .ok (.aload_n 0, 1) := by decide +kernel
theorem dX8_readTest_24 : decode cX8_readTest 24 = .ok (.invokevirtual 54, 3) := by decide +kernel
theorem dX8_readTest_27 : decode cX8_readTest 27 = .ok (.goto 4, 3) := by decide +kernel
theorem dX8_readTest_30 : decode cX8_readTest 30 = .ok (.iload_n 3, 1) := by decide +kernel
theorem dX8_readTest_31 : decode cX8_readTest 31 = .ok (.istore 5, 2) := by decide +kernel
theorem dX8_readTest_33 : decode cX8_readTest 33 = .ok (.iload 4, 2) := by decide +kernel
theorem dX8_readTest_35 : decode cX8_readTest 35 = .ok (.ifCond .eq 7, 3) := by decide +kernel
theorem dX8_readTest_38 : decode cX8_readTest 38 = .ok (.iload_n 3, 1) := by decide +kernel
theorem dX8_readTest_39 : decode cX8_readTest 39 = .ok (.goto 4, 3) := by decide +kernel
theorem dX8_readTest_42 : decode cX8_readTest 42 = .ok (.iconst 0, 1) := by decide +kernel
theorem dX8_readTest_43 : decode cX8_readTest 43 = .ok (.istore 6, 2) := by decide +kernel
theorem dX8_readTest_45 : decode cX8_readTest 45 = .ok (.aload_n 0, 1) := by decide +kernel
theorem dX8_readTest_46 : decode cX8_readTest 46 = .ok (.bipush 46, 2) := by decide +kernel
theorem dX8_readTest_48 : decode cX8_readTest 48 = .ok (.invokevirtual 33, 3) := by decide +kernel
theorem dX8_readTest_51 : decode cX8_readTest 51 = .ok (.istore 7, 2) := by decide +kernel
theorem dX8_readTest_53 : decode cX8_readTest 53 = .ok (.iload 7, 2) := by decide +kernel
theorem dX8_readTest_55 : decode cX8_readTest 55 = .ok (.ifCond .eq 10, 3) := by decide +kernel
theorem dX8_readTest_58 : decode cX8_readTest 58 = .ok (.aload_n 0, 1) := by decide +kernel
theorem dX8_readTest_59 : decode cX8_readTest 59 = .ok (.invokevirtual 54, 3) := by decide +kernel
theorem dX8_readTest_62 : decode cX8_readTest 62 = .ok (.goto 4, 3) := by decide +kernel
theorem dX8_readTest_65 : decode cX8_readTest 65 = .ok (.iconst 0, 1) := by decide +kernel
theorem dX8_readTest_66 : decode cX8_readTest 66 = .ok (.istore 8, 2) := by decide +kernel
theorem dX8_readTest_68 : decode cX8_readTest 68 = .ok (.iload 7, 2) := by decide +kernel
theorem dX8_readTest_70 : decode cX8_readTest 70 = .ok (.ifCond .eq 19, 3) := by decide +kernel
theorem dX8_readTest_73 : decode cX8_readTest 73 = .ok (.aload_n 0, 1) := by decide +kernel
theorem dX8_readTest_74 : decode cX8_readTest 74 = .ok (.bipush 46, 2) := by decide +kernel
theorem dX8_readTest_76 : decode cX8_readTest 76 = .ok (.invokevirtual 33, 3) := by decide +kernel
theorem dX8_readTest_79 : decode cX8_readTest 79 = .ok (.ifCond .eq 10, 3) := by decide +kernel
theorem dX8_readTest_82 : decode cX8_readTest 82 = .ok (.aload_n 0, 1) := by decide +kernel
theorem dX8_readTest_83 : decode cX8_readTest 83 = .ok (.invokevirtual 54, 3) := by decide +kernel
theorem dX8_readTest_86 : decode cX8_readTest 86 = .ok (.goto 4, 3) := by decide +kernel
theorem dX8_readTest_89 : decode cX8_readTest 89 = .ok (.iconst 0, 1) := by decide +kernel
theorem dX8_readTest_90 : decode cX8_readTest 90 = .ok (.istore 9, 2) := by decide +kernel
theorem dX8_readTest_92 : decode cX8_readTest 92 = .ok (.aload_n 0, 1) := by decide +kernel
theorem dX8_readTest_93 : decode cX8_readTest 93 = .ok (.bipush 45, 2) := by decide +kernel
theorem dX8_readTest_95 : decode cX8_readTest 95 = .ok (.invokevirtual 33, 3) := by decide +kernel
theorem dX8_readTest_98 : decode cX8_readTest 98 = .ok (.ifCond .eq 10, 3) := by decide +kernel
theorem dX8_readTest_101 : decode cX8_readTest 101 = .ok (.aload_n 0, 1) := by decide +kernel
theorem dX8_readTest_102 : decode cX8_readTest 102 = .ok (.invokevirtual 54, 3) := by decide +kernel
theorem dX8_readTest_105 : decode cX8_readTest 105 = .ok (.goto 4, 3) := by decide +kernel
theorem dX8_readTest_108 : decode cX8_readTest 108 = .ok (.iconst 0, 1) := by decide +kernel
theorem dX8_readTest_109 : decode cX8_readTest 109 = .ok (.istore 10, 2) := by decide +kernel
theorem dX8_readTest_111 : decode cX8_readTest 111 = .ok (.iload 6, 2) := by decide +kernel
theorem dX8_readTest_113 : decode cX8_readTest 113 = .ok (.bipush 10, 2) := by decide +kernel
theorem dX8_readTest_115 : decode cX8_readTest 115 = .ok (.imul, 1) := by decide +kernel
theorem dX8_readTest_116 : decode cX8_readTest 116 = .ok (.iload 5, 2) := by decide +kernel
theorem dX8_readTest_118 : decode cX8_readTest 118 = .ok (.iadd, 1) := by decide +kernel
theorem dX8_readTest_119 : decode cX8_readTest 119 = .ok (.bipush 10, 2) := by decide +kernel
theorem dX8_readTest_121 : decode cX8_readTest 121 = .ok (.imul, 1) := by decide +kernel
theorem dX8_readTest_122 : decode cX8_readTest 122 = .ok (.iload 8, 2) := by decide +kernel
theorem dX8_readTest_124 : decode cX8_readTest 124 = .ok (.iadd, 1) := by decide +kernel
theorem dX8_readTest_125 : decode cX8_readTest 125 = .ok (.bipush 10, 2) := by decide +kernel
theorem dX8_readTest_127 : decode cX8_readTest 127 = .ok (.imul, 1) := by decide +kernel
theorem dX8_readTest_128 : decode cX8_readTest 128 = .ok (.iload 9, 2) := by decide +kernel
theorem dX8_readTest_130 : decode cX8_readTest 130 = .ok (.iadd, 1) := by decide +kernel
theorem dX8_readTest_131 : decode cX8_readTest 131 = .ok (.bipush 10, 2) := by decide +kernel
theorem dX8_readTest_133 : decode cX8_readTest 133 = .ok (.imul, 1) := by decide +kernel
theorem dX8_readTest_134 : decode cX8_readTest 134 = .ok (.iload 10, 2) := by decide +kernel
theorem dX8_readTest_136 : decode cX8_readTest 136 = .ok (.iadd, 1) := by decide +kernel
theorem dX8_readTest_137 : decode cX8_readTest 137 = .ok (.istore 11, 2) := by decide +kernel
theorem dX8_readTest_139 : decode cX8_readTest 139 = .ok (.new 37, 3) := by decide +kernel
theorem dX8_readTest_142 : decode cX8_readTest 142 = .ok (.dup, 1) := by decide +kernel
theorem dX8_readTest_143 : decode cX8_readTest 143 = .ok (.iload_n 2, 1) := by decide +kernel
theorem dX8_readTest_144 : decode cX8_readTest 144 = .ok (.iload 11, 2) := by decide +kernel
theorem dX8_readTest_146 : decode cX8_readTest 146 = .ok (.invokestatic 57, 3) := by decide +kernel
theorem dX8_readTest_149 : decode cX8_readTest 149 = .ok (.iload 7, 2) := by decide +kernel
theorem dX8_readTest_151 : decode cX8_readTest 151 = .ok (.iload_n 1, 1) := by decide +kernel
theorem dX8_readTest_152 : decode cX8_readTest 152 = .ok (.invokespecial 39, 3) := by decide +kernel
theorem dX8_readTest_155 : decode cX8_readTest 155 = .ok (.areturn, 1) := by decide +kernel
def wp_X8_readTest_109 (h : Nat) (x1 : Int32) (x2 : Int32) (x5 : Int32) (x6 : Int32) (x7 : Int32) (x8 : Int32) (x9 : Int32) (s0 : Int32) (S : xm_S) (g : Option Nat → xm_S → Prop) : Prop :=
  ∀ y1, y1 = ((((((((x6 * (nI 10)) + x5) * (nI 10)) + x8) * (nI 10)) + x9) * (nI 10)) + s0) → ∃ n3, st_t S n3 = none ∧ ∀ S5, S5 = st_nw S n3 (9, 0) → wp_X9_digitsOf y1 S5 (fun r8 S7 => st_t S7 n3 = some (9, 0) ∧ wp_X9_init n3 x2 r8 x7 x1 S7 (fun S10 => g (some n3) S10))
set_option maxRecDepth 100000 in
set_option maxHeartbeats 4000000 in
theorem kp_X8_readTest_109 {K : xm_K} (h : Nat) (x1 : Int32) (x2 : Int32) (x5 : Int32) (x6 : Int32) (x7 : Int32) (x8 : Int32) (x9 : Int32) (s0 : Int32) (S : xm_S) {g : Option Nat → xm_S → Prop} (C : xm_Cx K cX8_readTest RX8 12 (some ((FieldType.object "Portsmith$Test"))) rm_X8_readTest) (N : xm_Nx K) (hg : ∀ v S, g v S → xm_q K (some (xm_r v)) S)  (h1 : wp_X8_readTest_109 h x1 x2 x5 x6 x7 x8 x9 s0 S g) : xm_W K 0 0 109 [(1, xm_i x1), (2, xm_i x2), (5, xm_i x5), (6, xm_i x6), (7, xm_i x7), (8, xm_i x8), (9, xm_i x9)] [xm_i s0] S := by
  unfold wp_X8_readTest_109 at h1
  refine x_istore (L' := [(10, xm_i s0), (1, xm_i x1), (2, xm_i x2), (5, xm_i x5), (6, xm_i x6), (7, xm_i x7), (8, xm_i x8), (9, xm_i x9)]) C dX8_readTest_109 (by decide) rfl ?_
  refine x_iload C 4 dX8_readTest_111 rfl ?_
  refine x_bipush (v := (nI 10)) C dX8_readTest_113 (by decide) ?_
  refine x_imul C dX8_readTest_115 ?_
  refine x_iload C 3 dX8_readTest_116 rfl ?_
  refine x_iadd C dX8_readTest_118 ?_
  refine x_bipush (v := (nI 10)) C dX8_readTest_119 (by decide) ?_
  refine x_imul C dX8_readTest_121 ?_
  refine x_iload C 6 dX8_readTest_122 rfl ?_
  refine x_iadd C dX8_readTest_124 ?_
  refine x_bipush (v := (nI 10)) C dX8_readTest_125 (by decide) ?_
  refine x_imul C dX8_readTest_127 ?_
  refine x_iload C 7 dX8_readTest_128 rfl ?_
  refine x_iadd C dX8_readTest_130 ?_
  refine x_bipush (v := (nI 10)) C dX8_readTest_131 (by decide) ?_
  refine x_imul C dX8_readTest_133 ?_
  refine x_iload C 0 dX8_readTest_134 rfl ?_
  refine x_iadd C dX8_readTest_136 ?_
  refine x_topi (fun y1 e2 => ?_)
  have h1 := h1 y1 e2
  refine x_istore (L' := [(11, xm_i y1), (10, xm_i s0), (1, xm_i x1), (2, xm_i x2), (5, xm_i x5), (6, xm_i x6), (7, xm_i x7), (8, xm_i x8), (9, xm_i x9)]) C dX8_readTest_137 (by decide) rfl ?_
  obtain ⟨n3, hn4, h1⟩ := h1
  refine x_new (n := n3) C xc_9 gw_217 hn4 (Nat.le_of_ble_eq_true rfl) (Nat.le_of_ble_eq_true rfl) dX8_readTest_139 ?_
  refine x_topS (fun S5 e6 => ?_)
  have h1 := h1 S5 e6
  refine x_dup_r C dX8_readTest_142 ?_
  refine x_iload_n C 3 dX8_readTest_143 rfl rfl ?_
  refine x_iload C 0 dX8_readTest_144 rfl ?_
  refine x_callS (rm' := rm_X9_digitsOf) C (kp_X9_digitsOf_met h1) lk_29 gw_220 rfl (Nat.le_of_ble_eq_true rfl) ⟨Nat.le_of_ble_eq_true rfl, Nat.le_of_ble_eq_true rfl, (Nat.le_of_ble_eq_true rfl), (Nat.le_of_ble_eq_true rfl)⟩ dX8_readTest_146 xm_kx (xm_ki (fun r8 S7 h1 => ?_))
  refine x_iload C 6 dX8_readTest_149 rfl ?_
  refine x_iload_n C 2 dX8_readTest_151 rfl rfl ?_
  obtain ⟨ht9, h1⟩ := h1
  refine x_callI (rm' := rm_X9_init) (n := n3) C (kp_X9_init_met h1) lk_30 gw_223 rfl rfl rfl (Nat.le_of_ble_eq_true rfl) ⟨Nat.le_of_ble_eq_true rfl, Nat.le_of_ble_eq_true rfl, (Nat.le_of_ble_eq_true rfl), (Nat.le_of_ble_eq_true rfl)⟩ dX8_readTest_152 xm_kx (xm_kv (fun S10 h1 => ?_))
  exact x_aret C (Nat.le_of_ble_eq_true rfl) (Nat.le_of_ble_eq_true rfl) rfl (by first | exact Or.inl ⟨_, rfl⟩ | exact Or.inr ⟨_, rfl⟩) dX8_readTest_155 (hg _ _ h1)
def wp_X8_readTest_90 (h : Nat) (x1 : Int32) (x2 : Int32) (x5 : Int32) (x6 : Int32) (x7 : Int32) (x8 : Int32) (s0 : Int32) (S : xm_S) (g : Option Nat → xm_S → Prop) : Prop :=
  st_t S h = some (8, 0) ∧ wp_X8_takes h (nI 45) S (fun r14 S13 => (r14 = 0 → wp_X8_readTest_109 h x1 x2 x5 x6 x7 x8 s0 (0 : Int32) S13 g) ∧ (¬ r14 = 0 → st_t S13 h = some (8, 0) ∧ wp_X8_readDigit h S13 (fun r17 S16 => wp_X8_readTest_109 h x1 x2 x5 x6 x7 x8 s0 r17 S16 g)))
set_option maxRecDepth 100000 in
set_option maxHeartbeats 4000000 in
theorem kp_X8_readTest_90 {K : xm_K} (h : Nat) (x1 : Int32) (x2 : Int32) (x5 : Int32) (x6 : Int32) (x7 : Int32) (x8 : Int32) (s0 : Int32) (S : xm_S) {g : Option Nat → xm_S → Prop} (C : xm_Cx K cX8_readTest RX8 12 (some ((FieldType.object "Portsmith$Test"))) rm_X8_readTest) (N : xm_Nx K) (hg : ∀ v S, g v S → xm_q K (some (xm_r v)) S)  (h1 : wp_X8_readTest_90 h x1 x2 x5 x6 x7 x8 s0 S g) : xm_W K 0 0 90 [(0, xm_r (some h)), (1, xm_i x1), (2, xm_i x2), (5, xm_i x5), (6, xm_i x6), (7, xm_i x7), (8, xm_i x8)] [xm_i s0] S := by
  unfold wp_X8_readTest_90 at h1
  refine x_istore (L' := [(9, xm_i s0), (0, xm_r (some h)), (1, xm_i x1), (2, xm_i x2), (5, xm_i x5), (6, xm_i x6), (7, xm_i x7), (8, xm_i x8)]) C dX8_readTest_90 (by decide) rfl ?_
  refine x_aload_n C 1 dX8_readTest_92 rfl rfl ?_
  refine x_bipush (v := (nI 45)) C dX8_readTest_93 (by decide) ?_
  obtain ⟨ht12, h1⟩ := h1
  refine x_callV (rm' := rm_X8_takes) (n := h) C (kp_X8_takes_met h1) lk_26 gw_206 gw_207 xv_8 rfl rfl ht12 rfl (Nat.le_of_ble_eq_true rfl) ⟨Nat.le_of_ble_eq_true rfl, Nat.le_of_ble_eq_true rfl, (Nat.le_of_ble_eq_true rfl), (Nat.le_of_ble_eq_true rfl)⟩ dX8_readTest_95 xm_kx (xm_ki (fun r14 S13 h1 => ?_))
  refine x_if_eq (tgt := 108) C dX8_readTest_98 (by decide) (fun z9 => ?_) (fun z9 => ?_)
  · have h1 := h1.1 z9
    refine x_iconst (v := (0 : Int32)) C dX8_readTest_108 (by decide) ?_
    refine x_keep (L' := [(1, xm_i x1), (2, xm_i x2), (5, xm_i x5), (6, xm_i x6), (7, xm_i x7), (8, xm_i x8), (9, xm_i s0)]) C [2, 3, 4, 5, 6, 7, 0] rfl ?_
    exact kp_X8_readTest_109 h x1 x2 x5 x6 x7 x8 s0 (0 : Int32) S13 C N hg  h1
  · have h1 := h1.2 z9
    refine x_aload_n C 1 dX8_readTest_101 rfl rfl ?_
    obtain ⟨ht15, h1⟩ := h1
    refine x_callV (rm' := rm_X8_readDigit) (n := h) C (kp_X8_readDigit_met h1) lk_31 gw_226 gw_227 xv_8 rfl rfl ht15 rfl (Nat.le_of_ble_eq_true rfl) ⟨Nat.le_of_ble_eq_true rfl, Nat.le_of_ble_eq_true rfl, (Nat.le_of_ble_eq_true rfl), (Nat.le_of_ble_eq_true rfl)⟩ dX8_readTest_102 xm_kx (xm_ki (fun r17 S16 h1 => ?_))
    refine x_goto (tgt := 109) C dX8_readTest_105 (by decide) ?_
    refine x_keep (L' := [(1, xm_i x1), (2, xm_i x2), (5, xm_i x5), (6, xm_i x6), (7, xm_i x7), (8, xm_i x8), (9, xm_i s0)]) C [2, 3, 4, 5, 6, 7, 0] rfl ?_
    exact kp_X8_readTest_109 h x1 x2 x5 x6 x7 x8 s0 r17 S16 C N hg  h1
def wp_X8_readTest_89 (h : Nat) (x1 : Int32) (x2 : Int32) (x5 : Int32) (x6 : Int32) (x7 : Int32) (x8 : Int32) (S : xm_S) (g : Option Nat → xm_S → Prop) : Prop :=
  wp_X8_readTest_90 h x1 x2 x5 x6 x7 x8 (0 : Int32) S g
set_option maxRecDepth 100000 in
set_option maxHeartbeats 4000000 in
theorem kp_X8_readTest_89 {K : xm_K} (h : Nat) (x1 : Int32) (x2 : Int32) (x5 : Int32) (x6 : Int32) (x7 : Int32) (x8 : Int32) (S : xm_S) {g : Option Nat → xm_S → Prop} (C : xm_Cx K cX8_readTest RX8 12 (some ((FieldType.object "Portsmith$Test"))) rm_X8_readTest) (N : xm_Nx K) (hg : ∀ v S, g v S → xm_q K (some (xm_r v)) S)  (h1 : wp_X8_readTest_89 h x1 x2 x5 x6 x7 x8 S g) : xm_W K 0 0 89 [(0, xm_r (some h)), (1, xm_i x1), (2, xm_i x2), (5, xm_i x5), (6, xm_i x6), (7, xm_i x7), (8, xm_i x8)] [] S := by
  unfold wp_X8_readTest_89 at h1
  refine x_iconst (v := (0 : Int32)) C dX8_readTest_89 (by decide) ?_
  exact kp_X8_readTest_90 h x1 x2 x5 x6 x7 x8 (0 : Int32) S C N hg  h1
def wp_X8_readTest_66 (h : Nat) (x1 : Int32) (x2 : Int32) (x5 : Int32) (x6 : Int32) (x7 : Int32) (s0 : Int32) (S : xm_S) (g : Option Nat → xm_S → Prop) : Prop :=
  (x7 = 0 → wp_X8_readTest_89 h x1 x2 x5 x6 x7 s0 S g) ∧ (¬ x7 = 0 → st_t S h = some (8, 0) ∧ wp_X8_takes h (nI 46) S (fun r20 S19 => (r20 = 0 → wp_X8_readTest_89 h x1 x2 x5 x6 x7 s0 S19 g) ∧ (¬ r20 = 0 → st_t S19 h = some (8, 0) ∧ wp_X8_readDigit h S19 (fun r23 S22 => wp_X8_readTest_90 h x1 x2 x5 x6 x7 s0 r23 S22 g))))
set_option maxRecDepth 100000 in
set_option maxHeartbeats 4000000 in
theorem kp_X8_readTest_66 {K : xm_K} (h : Nat) (x1 : Int32) (x2 : Int32) (x5 : Int32) (x6 : Int32) (x7 : Int32) (s0 : Int32) (S : xm_S) {g : Option Nat → xm_S → Prop} (C : xm_Cx K cX8_readTest RX8 12 (some ((FieldType.object "Portsmith$Test"))) rm_X8_readTest) (N : xm_Nx K) (hg : ∀ v S, g v S → xm_q K (some (xm_r v)) S)  (h1 : wp_X8_readTest_66 h x1 x2 x5 x6 x7 s0 S g) : xm_W K 0 0 66 [(0, xm_r (some h)), (1, xm_i x1), (2, xm_i x2), (5, xm_i x5), (6, xm_i x6), (7, xm_i x7)] [xm_i s0] S := by
  unfold wp_X8_readTest_66 at h1
  refine x_istore (L' := [(8, xm_i s0), (0, xm_r (some h)), (1, xm_i x1), (2, xm_i x2), (5, xm_i x5), (6, xm_i x6), (7, xm_i x7)]) C dX8_readTest_66 (by decide) rfl ?_
  refine x_iload C 6 dX8_readTest_68 rfl ?_
  refine x_if_eq (tgt := 89) C dX8_readTest_70 (by decide) (fun z9 => ?_) (fun z9 => ?_)
  · have h1 := h1.1 z9
    refine x_keep (L' := [(0, xm_r (some h)), (1, xm_i x1), (2, xm_i x2), (5, xm_i x5), (6, xm_i x6), (7, xm_i x7), (8, xm_i s0)]) C [1, 2, 3, 4, 5, 6, 0] rfl ?_
    exact kp_X8_readTest_89 h x1 x2 x5 x6 x7 s0 S C N hg  h1
  · have h1 := h1.2 z9
    refine x_aload_n C 1 dX8_readTest_73 rfl rfl ?_
    refine x_bipush (v := (nI 46)) C dX8_readTest_74 (by decide) ?_
    obtain ⟨ht18, h1⟩ := h1
    refine x_callV (rm' := rm_X8_takes) (n := h) C (kp_X8_takes_met h1) lk_26 gw_206 gw_207 xv_8 rfl rfl ht18 rfl (Nat.le_of_ble_eq_true rfl) ⟨Nat.le_of_ble_eq_true rfl, Nat.le_of_ble_eq_true rfl, (Nat.le_of_ble_eq_true rfl), (Nat.le_of_ble_eq_true rfl)⟩ dX8_readTest_76 xm_kx (xm_ki (fun r20 S19 h1 => ?_))
    refine x_if_eq (tgt := 89) C dX8_readTest_79 (by decide) (fun z9 => ?_) (fun z9 => ?_)
    · have h1 := h1.1 z9
      refine x_keep (L' := [(0, xm_r (some h)), (1, xm_i x1), (2, xm_i x2), (5, xm_i x5), (6, xm_i x6), (7, xm_i x7), (8, xm_i s0)]) C [1, 2, 3, 4, 5, 6, 0] rfl ?_
      exact kp_X8_readTest_89 h x1 x2 x5 x6 x7 s0 S19 C N hg  h1
    · have h1 := h1.2 z9
      refine x_aload_n C 1 dX8_readTest_82 rfl rfl ?_
      obtain ⟨ht21, h1⟩ := h1
      refine x_callV (rm' := rm_X8_readDigit) (n := h) C (kp_X8_readDigit_met h1) lk_31 gw_226 gw_227 xv_8 rfl rfl ht21 rfl (Nat.le_of_ble_eq_true rfl) ⟨Nat.le_of_ble_eq_true rfl, Nat.le_of_ble_eq_true rfl, (Nat.le_of_ble_eq_true rfl), (Nat.le_of_ble_eq_true rfl)⟩ dX8_readTest_83 xm_kx (xm_ki (fun r23 S22 h1 => ?_))
      refine x_goto (tgt := 90) C dX8_readTest_86 (by decide) ?_
      refine x_keep (L' := [(0, xm_r (some h)), (1, xm_i x1), (2, xm_i x2), (5, xm_i x5), (6, xm_i x6), (7, xm_i x7), (8, xm_i s0)]) C [1, 2, 3, 4, 5, 6, 0] rfl ?_
      exact kp_X8_readTest_90 h x1 x2 x5 x6 x7 s0 r23 S22 C N hg  h1
def wp_X8_readTest_43 (h : Nat) (x1 : Int32) (x2 : Int32) (x5 : Int32) (s0 : Int32) (S : xm_S) (g : Option Nat → xm_S → Prop) : Prop :=
  st_t S h = some (8, 0) ∧ wp_X8_takes h (nI 46) S (fun r26 S25 => (r26 = 0 → wp_X8_readTest_66 h x1 x2 x5 s0 r26 (0 : Int32) S25 g) ∧ (¬ r26 = 0 → st_t S25 h = some (8, 0) ∧ wp_X8_readDigit h S25 (fun r29 S28 => wp_X8_readTest_66 h x1 x2 x5 s0 r26 r29 S28 g)))
set_option maxRecDepth 100000 in
set_option maxHeartbeats 4000000 in
theorem kp_X8_readTest_43 {K : xm_K} (h : Nat) (x1 : Int32) (x2 : Int32) (x5 : Int32) (s0 : Int32) (S : xm_S) {g : Option Nat → xm_S → Prop} (C : xm_Cx K cX8_readTest RX8 12 (some ((FieldType.object "Portsmith$Test"))) rm_X8_readTest) (N : xm_Nx K) (hg : ∀ v S, g v S → xm_q K (some (xm_r v)) S)  (h1 : wp_X8_readTest_43 h x1 x2 x5 s0 S g) : xm_W K 0 0 43 [(0, xm_r (some h)), (1, xm_i x1), (2, xm_i x2), (5, xm_i x5)] [xm_i s0] S := by
  unfold wp_X8_readTest_43 at h1
  refine x_istore (L' := [(6, xm_i s0), (0, xm_r (some h)), (1, xm_i x1), (2, xm_i x2), (5, xm_i x5)]) C dX8_readTest_43 (by decide) rfl ?_
  refine x_aload_n C 1 dX8_readTest_45 rfl rfl ?_
  refine x_bipush (v := (nI 46)) C dX8_readTest_46 (by decide) ?_
  obtain ⟨ht24, h1⟩ := h1
  refine x_callV (rm' := rm_X8_takes) (n := h) C (kp_X8_takes_met h1) lk_26 gw_206 gw_207 xv_8 rfl rfl ht24 rfl (Nat.le_of_ble_eq_true rfl) ⟨Nat.le_of_ble_eq_true rfl, Nat.le_of_ble_eq_true rfl, (Nat.le_of_ble_eq_true rfl), (Nat.le_of_ble_eq_true rfl)⟩ dX8_readTest_48 xm_kx (xm_ki (fun r26 S25 h1 => ?_))
  refine x_istore (L' := [(7, xm_i r26), (6, xm_i s0), (0, xm_r (some h)), (1, xm_i x1), (2, xm_i x2), (5, xm_i x5)]) C dX8_readTest_51 (by decide) rfl ?_
  refine x_iload C 0 dX8_readTest_53 rfl ?_
  refine x_if_eq (tgt := 65) C dX8_readTest_55 (by decide) (fun z9 => ?_) (fun z9 => ?_)
  · have h1 := h1.1 z9
    refine x_iconst (v := (0 : Int32)) C dX8_readTest_65 (by decide) ?_
    refine x_keep (L' := [(0, xm_r (some h)), (1, xm_i x1), (2, xm_i x2), (5, xm_i x5), (6, xm_i s0), (7, xm_i r26)]) C [2, 3, 4, 5, 1, 0] rfl ?_
    exact kp_X8_readTest_66 h x1 x2 x5 s0 r26 (0 : Int32) S25 C N hg  h1
  · have h1 := h1.2 z9
    refine x_aload_n C 2 dX8_readTest_58 rfl rfl ?_
    obtain ⟨ht27, h1⟩ := h1
    refine x_callV (rm' := rm_X8_readDigit) (n := h) C (kp_X8_readDigit_met h1) lk_31 gw_226 gw_227 xv_8 rfl rfl ht27 rfl (Nat.le_of_ble_eq_true rfl) ⟨Nat.le_of_ble_eq_true rfl, Nat.le_of_ble_eq_true rfl, (Nat.le_of_ble_eq_true rfl), (Nat.le_of_ble_eq_true rfl)⟩ dX8_readTest_59 xm_kx (xm_ki (fun r29 S28 h1 => ?_))
    refine x_goto (tgt := 66) C dX8_readTest_62 (by decide) ?_
    refine x_keep (L' := [(0, xm_r (some h)), (1, xm_i x1), (2, xm_i x2), (5, xm_i x5), (6, xm_i s0), (7, xm_i r26)]) C [2, 3, 4, 5, 1, 0] rfl ?_
    exact kp_X8_readTest_66 h x1 x2 x5 s0 r26 r29 S28 C N hg  h1
def wp_X8_readTest_31 (h : Nat) (x1 : Int32) (x2 : Int32) (x3 : Int32) (x4 : Int32) (s0 : Int32) (S : xm_S) (g : Option Nat → xm_S → Prop) : Prop :=
  (x4 = 0 → wp_X8_readTest_43 h x1 x2 s0 (0 : Int32) S g) ∧ (¬ x4 = 0 → wp_X8_readTest_43 h x1 x2 s0 x3 S g)
set_option maxRecDepth 100000 in
set_option maxHeartbeats 4000000 in
theorem kp_X8_readTest_31 {K : xm_K} (h : Nat) (x1 : Int32) (x2 : Int32) (x3 : Int32) (x4 : Int32) (s0 : Int32) (S : xm_S) {g : Option Nat → xm_S → Prop} (C : xm_Cx K cX8_readTest RX8 12 (some ((FieldType.object "Portsmith$Test"))) rm_X8_readTest) (N : xm_Nx K) (hg : ∀ v S, g v S → xm_q K (some (xm_r v)) S)  (h1 : wp_X8_readTest_31 h x1 x2 x3 x4 s0 S g) : xm_W K 0 0 31 [(0, xm_r (some h)), (1, xm_i x1), (2, xm_i x2), (3, xm_i x3), (4, xm_i x4)] [xm_i s0] S := by
  unfold wp_X8_readTest_31 at h1
  refine x_istore (L' := [(5, xm_i s0), (0, xm_r (some h)), (1, xm_i x1), (2, xm_i x2), (3, xm_i x3), (4, xm_i x4)]) C dX8_readTest_31 (by decide) rfl ?_
  refine x_iload C 5 dX8_readTest_33 rfl ?_
  refine x_if_eq (tgt := 42) C dX8_readTest_35 (by decide) (fun z9 => ?_) (fun z9 => ?_)
  · have h1 := h1.1 z9
    refine x_iconst (v := (0 : Int32)) C dX8_readTest_42 (by decide) ?_
    refine x_keep (L' := [(0, xm_r (some h)), (1, xm_i x1), (2, xm_i x2), (5, xm_i s0)]) C [1, 2, 3, 0] rfl ?_
    exact kp_X8_readTest_43 h x1 x2 s0 (0 : Int32) S C N hg  h1
  · have h1 := h1.2 z9
    refine x_iload_n C 4 dX8_readTest_38 rfl rfl ?_
    refine x_goto (tgt := 43) C dX8_readTest_39 (by decide) ?_
    refine x_keep (L' := [(0, xm_r (some h)), (1, xm_i x1), (2, xm_i x2), (5, xm_i s0)]) C [1, 2, 3, 0] rfl ?_
    exact kp_X8_readTest_43 h x1 x2 s0 x3 S C N hg  h1
def wp_X8_readTest (h : Nat) (x1 : Int32) (S : xm_S) (g : Option Nat → xm_S → Prop) : Prop :=
  st_t S h = some (8, 0) ∧ wp_X8_readKind h S (fun r32 S31 => st_t S31 h = some (8, 0) ∧ wp_X8_readDigit h S31 (fun r35 S34 => st_t S34 h = some (8, 0) ∧ wp_X8_takes h (nI 58) S34 (fun r38 S37 => (r38 = 0 → wp_X8_readTest_31 h x1 r32 r35 r38 r35 S37 g) ∧ (¬ r38 = 0 → st_t S37 h = some (8, 0) ∧ wp_X8_readDigit h S37 (fun r41 S40 => wp_X8_readTest_31 h x1 r32 r35 r38 r41 S40 g)))))
set_option maxRecDepth 100000 in
set_option maxHeartbeats 4000000 in
theorem kp_X8_readTest {K : xm_K} (h : Nat) (x1 : Int32) (S : xm_S) {g : Option Nat → xm_S → Prop} (C : xm_Cx K cX8_readTest RX8 12 (some ((FieldType.object "Portsmith$Test"))) rm_X8_readTest) (N : xm_Nx K) (hg : ∀ v S, g v S → xm_q K (some (xm_r v)) S)  (h1 : wp_X8_readTest h x1 S g) : xm_W K 0 0 0 [(0, xm_r (some h)), (1, xm_i x1)] [] S := by
  unfold wp_X8_readTest at h1
  refine x_aload_n C 0 dX8_readTest_0 rfl rfl ?_
  obtain ⟨ht30, h1⟩ := h1
  refine x_callV (rm' := rm_X8_readKind) (n := h) C (kp_X8_readKind_met h1) lk_32 gw_230 gw_231 xv_8 rfl rfl ht30 rfl (Nat.le_of_ble_eq_true rfl) ⟨Nat.le_of_ble_eq_true rfl, Nat.le_of_ble_eq_true rfl, (Nat.le_of_ble_eq_true rfl), (Nat.le_of_ble_eq_true rfl)⟩ dX8_readTest_1 xm_kx (xm_ki (fun r32 S31 h1 => ?_))
  refine x_istore_n (L' := [(2, xm_i r32), (0, xm_r (some h)), (1, xm_i x1)]) C dX8_readTest_4 rfl (by decide) rfl ?_
  refine x_aload_n C 1 dX8_readTest_5 rfl rfl ?_
  obtain ⟨ht33, h1⟩ := h1
  refine x_callV (rm' := rm_X8_readDigit) (n := h) C (kp_X8_readDigit_met h1) lk_31 gw_226 gw_227 xv_8 rfl rfl ht33 rfl (Nat.le_of_ble_eq_true rfl) ⟨Nat.le_of_ble_eq_true rfl, Nat.le_of_ble_eq_true rfl, (Nat.le_of_ble_eq_true rfl), (Nat.le_of_ble_eq_true rfl)⟩ dX8_readTest_6 xm_kx (xm_ki (fun r35 S34 h1 => ?_))
  refine x_istore_n (L' := [(3, xm_i r35), (2, xm_i r32), (0, xm_r (some h)), (1, xm_i x1)]) C dX8_readTest_9 rfl (by decide) rfl ?_
  refine x_aload_n C 2 dX8_readTest_10 rfl rfl ?_
  refine x_bipush (v := (nI 58)) C dX8_readTest_11 (by decide) ?_
  obtain ⟨ht36, h1⟩ := h1
  refine x_callV (rm' := rm_X8_takes) (n := h) C (kp_X8_takes_met h1) lk_26 gw_206 gw_207 xv_8 rfl rfl ht36 rfl (Nat.le_of_ble_eq_true rfl) ⟨Nat.le_of_ble_eq_true rfl, Nat.le_of_ble_eq_true rfl, (Nat.le_of_ble_eq_true rfl), (Nat.le_of_ble_eq_true rfl)⟩ dX8_readTest_13 xm_kx (xm_ki (fun r38 S37 h1 => ?_))
  refine x_istore (L' := [(4, xm_i r38), (3, xm_i r35), (2, xm_i r32), (0, xm_r (some h)), (1, xm_i x1)]) C dX8_readTest_16 (by decide) rfl ?_
  refine x_iload C 0 dX8_readTest_18 rfl ?_
  refine x_if_eq (tgt := 30) C dX8_readTest_20 (by decide) (fun z9 => ?_) (fun z9 => ?_)
  · have h1 := h1.1 z9
    refine x_iload_n C 1 dX8_readTest_30 rfl rfl ?_
    refine x_keep (L' := [(0, xm_r (some h)), (1, xm_i x1), (2, xm_i r32), (3, xm_i r35), (4, xm_i r38)]) C [3, 4, 2, 1, 0] rfl ?_
    exact kp_X8_readTest_31 h x1 r32 r35 r38 r35 S37 C N hg  h1
  · have h1 := h1.2 z9
    refine x_aload_n C 3 dX8_readTest_23 rfl rfl ?_
    obtain ⟨ht39, h1⟩ := h1
    refine x_callV (rm' := rm_X8_readDigit) (n := h) C (kp_X8_readDigit_met h1) lk_31 gw_226 gw_227 xv_8 rfl rfl ht39 rfl (Nat.le_of_ble_eq_true rfl) ⟨Nat.le_of_ble_eq_true rfl, Nat.le_of_ble_eq_true rfl, (Nat.le_of_ble_eq_true rfl), (Nat.le_of_ble_eq_true rfl)⟩ dX8_readTest_24 xm_kx (xm_ki (fun r41 S40 h1 => ?_))
    refine x_goto (tgt := 31) C dX8_readTest_27 (by decide) ?_
    refine x_keep (L' := [(0, xm_r (some h)), (1, xm_i x1), (2, xm_i r32), (3, xm_i r35), (4, xm_i r38)]) C [3, 4, 2, 1, 0] rfl ?_
    exact kp_X8_readTest_31 h x1 r32 r35 r38 r41 S40 C N hg  h1
theorem kp_X8_readTest_met {h : Nat} {x1 : Int32} {S : xm_S} {g : Option Nat → xm_S → Prop}  (h1 : wp_X8_readTest h x1 S g) : xm_Met yX8_readTest cX8_readTest 12 (some ((FieldType.object "Portsmith$Test"))) rm_X8_readTest [xm_r (some h), xm_i x1] S (xm_qr g) xm_nox :=
  xm_ofW RX8 (by decide +kernel) rfl (Nat.le_of_ble_eq_true rfl) (fun K C N hq hx hi => kp_X8_readTest h x1 S C N (fun v S h => by rw [hq]; exact ⟨v, rfl, h⟩)  h1)
def rm_X8_init : Room := { frames := 1, cells := 1, slots := 40, locals := 20 }
theorem dX8_init_0 : decode cX8_init 0 = .ok (.aload_n 0, 1) := by decide +kernel
theorem dX8_init_1 : decode cX8_init 1 = .ok (.invokespecial 3, 3) := by decide +kernel
theorem dX8_init_4 : decode cX8_init 4 = .ok (.aload_n 0, 1) := by decide +kernel
theorem dX8_init_5 : decode cX8_init 5 = .ok (.bipush 40, 2) := by decide +kernel
theorem dX8_init_7 : decode cX8_init 7 = .ok (.newarray .char, 2) := by decide +kernel
theorem dX8_init_9 : decode cX8_init 9 = .ok (.putfield 9, 3) := by decide +kernel
theorem dX8_init_12 : decode cX8_init 12 = .ok (.aload_n 0, 1) := by decide +kernel
theorem dX8_init_13 : decode cX8_init 13 = .ok (.iconst 0, 1) := by decide +kernel
theorem dX8_init_14 : decode cX8_init 14 = .ok (.putfield 15, 3) := by decide +kernel
theorem dX8_init_17 : decode cX8_init 17 = .ok (.aload_n 0, 1) := by decide +kernel
theorem dX8_init_18 : decode cX8_init 18 = .ok (.iconst 0, 1) := by decide +kernel
theorem dX8_init_19 : decode cX8_init 19 = .ok (.putfield 19, 3) := by decide +kernel
theorem dX8_init_22 : decode cX8_init 22 = .ok (.aload_n 0, 1) := by decide +kernel
theorem dX8_init_23 : decode cX8_init 23 = .ok (.iconst 0, 1) := by decide +kernel
theorem dX8_init_24 : decode cX8_init 24 = .ok (.putfield 22, 3) := by decide +kernel
theorem dX8_init_27 : decode cX8_init 27 = .ok (.return_, 1) := by decide +kernel
def wp_X8_init (h : Nat)  (S : xm_S) (g : xm_S → Prop) : Prop :=
  ∃ n1, st_t S n1 = none ∧ ∀ S3, S3 = st_nw S n1 (102, 40) → st_t S3 h = some (8, 0) ∧ ∀ S6, S6 = st_pr S3 h 0 (some n1) → ∀ S8, S8 = st_pi S6 h 1 (0 : Int32) → ∀ S10, S10 = st_pi S8 h 2 (0 : Int32) → ∀ S12, S12 = st_pi S10 h 3 (0 : Int32) → g S12
set_option maxRecDepth 100000 in
set_option maxHeartbeats 4000000 in
theorem kp_X8_init {K : xm_K} (h : Nat)  (S : xm_S) {g : xm_S → Prop} (C : xm_Cx K cX8_init RX8 1 none rm_X8_init) (N : xm_Nx K) (hini : xm_init K) (hg : ∀ S, g S → xm_q K none S)  (h1 : wp_X8_init h  S g) : xm_W K 0 0 0 [(0, xm_r (some h))] [] S := by
  unfold wp_X8_init at h1
  refine x_aload_n C 0 dX8_init_0 rfl rfl ?_
  refine x_objInit (n := h) C rfl gw_232 (Nat.le_of_ble_eq_true rfl) (Nat.le_of_ble_eq_true rfl) (Nat.le_of_ble_eq_true rfl) dX8_init_1 gw_1 gw_2 ?_
  refine x_aload_n C 0 dX8_init_4 rfl rfl ?_
  refine x_bipush (v := (nI 40)) C dX8_init_5 (by decide) ?_
  obtain ⟨n1, hn2, h1⟩ := h1
  refine x_newa_c (n := n1) (len := 40) C gw_233 (by decide) (by decide) hn2 (Nat.le_of_ble_eq_true rfl) (Nat.le_of_ble_eq_true rfl) dX8_init_7 ?_
  refine x_topS (fun S3 e4 => ?_)
  have h1 := h1 S3 e4
  obtain ⟨ht5, h1⟩ := h1
  refine x_putfF_r (n := h) C rfl ht5 fd_85 xc_8 (by decide) rfl hini rfl (xm_nr rfl) dX8_init_9 ?_
  refine x_topS (fun S6 e7 => ?_)
  have h1 := h1 S6 e7
  refine x_aload_n C 0 dX8_init_12 rfl rfl ?_
  refine x_iconst (v := (0 : Int32)) C dX8_init_13 (by decide) ?_
  refine x_putf_i (n := h) C rfl (tk_p e7 ht5) fd_84 xc_8 (by decide) rfl ⟨rfl, rfl⟩ dX8_init_14 ?_
  refine x_topS (fun S8 e9 => ?_)
  have h1 := h1 S8 e9
  refine x_aload_n C 0 dX8_init_17 rfl rfl ?_
  refine x_iconst (v := (0 : Int32)) C dX8_init_18 (by decide) ?_
  refine x_putf_i (n := h) C rfl (tk_p e9 (tk_p e7 ht5)) fd_87 xc_8 (by decide) rfl ⟨rfl, rfl⟩ dX8_init_19 ?_
  refine x_topS (fun S10 e11 => ?_)
  have h1 := h1 S10 e11
  refine x_aload_n C 0 dX8_init_22 rfl rfl ?_
  refine x_iconst (v := (0 : Int32)) C dX8_init_23 (by decide) ?_
  refine x_putf_i (n := h) C rfl (tk_p e11 (tk_p e9 (tk_p e7 ht5))) fd_86 xc_8 (by decide) rfl (xm_nz (by decide)) dX8_init_24 ?_
  refine x_topS (fun S12 e13 => ?_)
  have h1 := h1 S12 e13
  exact x_vret C (Nat.le_of_ble_eq_true rfl) (Nat.le_of_ble_eq_true rfl) rfl dX8_init_27 (hg _ h1)
theorem kp_X8_init_met {h : Nat}  {S : xm_S} {g : xm_S → Prop}  (h1 : wp_X8_init h  S g) : xm_Met yX8_init cX8_init 1 none rm_X8_init [xm_r (some h)] S (xm_qv g) xm_nox :=
  xm_ofW RX8 (by decide +kernel) rfl (Nat.le_of_ble_eq_true rfl) (fun K C N hq hx hi => kp_X8_init h  S C N (hi rfl) (fun S h => by rw [hq]; exact ⟨rfl, h⟩)  h1)
