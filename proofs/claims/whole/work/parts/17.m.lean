def rm_X12_changes : Room := { frames := 1, cells := 0, slots := 0, locals := 20 }
theorem dX12_changes_0 : decode cX12_changes 0 = .ok (.iconst 0, 1) := by decide +kernel
theorem dX12_changes_1 : decode cX12_changes 1 = .ok (.istore_n 3, 1) := by decide +kernel
theorem dX12_changes_2 : decode cX12_changes 2 = .ok (.iconst 0, 1) := by decide +kernel
theorem dX12_changes_3 : decode cX12_changes 3 = .ok (.istore 4, 2) := by decide +kernel
theorem dX12_changes_5 : decode cX12_changes 5 = .ok (.iload 4, 2) := by decide +kernel
theorem dX12_changes_7 : decode cX12_changes 7 = .ok (.bipush 6, 2) := by decide +kernel
theorem dX12_changes_9 : decode cX12_changes 9 = .ok (.if_icmp .ge 55, 3) := by decide +kernel
theorem dX12_changes_12 : decode cX12_changes 12 = .ok (.aload_n 0, 1) := by decide +kernel
theorem dX12_changes_13 : decode cX12_changes 13 = .ok (.getfield 90, 3) := by decide +kernel
theorem dX12_changes_16 : decode cX12_changes 16 = .ok (.bipush 6, 2) := by decide +kernel
theorem dX12_changes_18 : decode cX12_changes 18 = .ok (.iload_n 1, 1) := by decide +kernel
theorem dX12_changes_19 : decode cX12_changes 19 = .ok (.imul, 1) := by decide +kernel
theorem dX12_changes_20 : decode cX12_changes 20 = .ok (.iload 4, 2) := by decide +kernel
theorem dX12_changes_22 : decode cX12_changes 22 = .ok (.iadd, 1) := by decide +kernel
theorem dX12_changes_23 : decode cX12_changes 23 = .ok (.iaload, 1) := by decide +kernel
theorem dX12_changes_24 : decode cX12_changes 24 = .ok (.istore 5, 2) := by decide +kernel
theorem dX12_changes_26 : decode cX12_changes 26 = .ok (.iload_n 3, 1) := by decide +kernel
theorem dX12_changes_27 : decode cX12_changes 27 = .ok (.iload 4, 2) := by decide +kernel
theorem dX12_changes_29 : decode cX12_changes 29 = .ok (.iload_n 2, 1) := by decide +kernel
theorem dX12_changes_30 : decode cX12_changes 30 = .ok (.if_icmp .eq 25, 3) := by decide +kernel
theorem dX12_changes_33 : decode cX12_changes 33 = .ok (.iload 5, 2) := by decide +kernel
theorem dX12_changes_35 : decode cX12_changes 35 = .ok (.iconst (-1), 1) := by decide +kernel
theorem dX12_changes_36 : decode cX12_changes 36 = .ok (.if_icmp .eq 19, 3) := by decide +kernel
theorem dX12_changes_39 : decode cX12_changes 39 = .ok (.iload 5, 2) := by decide +kernel
theorem dX12_changes_41 : decode cX12_changes 41 = .ok (.aload_n 0, 1) := by decide +kernel
theorem dX12_changes_42 : decode cX12_changes 42 = .ok (.getfield 103, 3) := by decide +kernel
theorem dX12_changes_45 : decode cX12_changes 45 = .ok (.iload 4, 2) := by decide +kernel
theorem dX12_changes_47 : decode cX12_changes 47 = .ok (.iaload, 1) := by decide +kernel
theorem dX12_changes_48 : decode cX12_changes 48 = .ok (.if_icmp .eq 7, 3) := by decide +kernel
theorem dX12_changes_51 : decode cX12_changes 51 = .ok (.iconst 1, 1) := by decide +kernel
theorem dX12_changes_52 : decode cX12_changes 52 = .ok (.goto 4, 3) := by decide +kernel
theorem dX12_changes_55 : decode cX12_changes 55 = .ok (.iconst 0, 1) := by decide +kernel
theorem dX12_changes_56 : decode cX12_changes 56 = .ok (.iadd, 1) := by decide +kernel
theorem dX12_changes_57 : decode cX12_changes 57 = .ok (.istore_n 3, 1) := by decide +kernel
theorem dX12_changes_58 : decode cX12_changes 58 = .ok (.iinc 4 1, 3) := by decide +kernel
theorem dX12_changes_61 : decode cX12_changes 61 = .ok (.goto (-56), 3) := by decide +kernel
theorem dX12_changes_64 : decode cX12_changes 64 = .ok (.iload_n 3, 1) := by decide +kernel
theorem dX12_changes_65 : decode cX12_changes 65 = .ok (.ireturn, 1) := by decide +kernel
def wp_X12_changes_56 (h : Nat) (x1 : Int32) (x2 : Int32) (x4 : Int32) (s0 : Int32) (s1 : Int32) (S : xm_S) (g : Int32 → xm_S → Prop) (Z5 : Int32 → Int32 → Int32 → Int32 → xm_S → Prop) : Prop :=
  ∀ y1, y1 = (s1 + s0) → ∀ y3, y3 = (x4 + (1 : Int32)) → Z5 x1 x2 y1 y3 S
set_option maxRecDepth 100000 in
set_option maxHeartbeats 4000000 in
theorem kp_X12_changes_56 {K : xm_K} (h : Nat) (x1 : Int32) (x2 : Int32) (x4 : Int32) (s0 : Int32) (s1 : Int32) (S : xm_S) {g : Int32 → xm_S → Prop} {Z5 : Int32 → Int32 → Int32 → Int32 → xm_S → Prop} (C : xm_Cx K cX12_changes RX12 6 (some (FieldType.int)) rm_X12_changes) (N : xm_Nx K) (hg : ∀ v S, g v S → xm_q K (some (xm_i v)) S) (hZ5 : ∀ x1 x2 x3 x4 S, Z5 x1 x2 x3 x4 S → xm_W K 0 0 5 [(0, xm_r (some h)), (1, xm_i x1), (2, xm_i x2), (3, xm_i x3), (4, xm_i x4)] [] S) (h1 : wp_X12_changes_56 h x1 x2 x4 s0 s1 S g Z5) : xm_W K 0 0 56 [(0, xm_r (some h)), (1, xm_i x1), (2, xm_i x2), (4, xm_i x4)] [xm_i s0, xm_i s1] S := by
  unfold wp_X12_changes_56 at h1
  refine x_iadd C dX12_changes_56 ?_
  refine x_topi (fun y1 e2 => ?_)
  have h1 := h1 y1 e2
  refine x_istore_n (L' := [(3, xm_i y1), (0, xm_r (some h)), (1, xm_i x1), (2, xm_i x2), (4, xm_i x4)]) C dX12_changes_57 rfl (by decide) rfl ?_
  obtain ⟨y3, e4⟩ : ∃ y3, y3 = (x4 + (1 : Int32)) := ⟨_, rfl⟩
  have h1 := h1 y3 e4
  refine x_iinc (v := y3) (L' := [(4, xm_i y3), (3, xm_i y1), (0, xm_r (some h)), (1, xm_i x1), (2, xm_i x2)]) C 4 dX12_changes_58 rfl (by rw [e4]; rfl) (by decide) rfl ?_
  refine x_goto (tgt := 5) C dX12_changes_61 (by decide) ?_
  refine x_keep (L' := [(0, xm_r (some h)), (1, xm_i x1), (2, xm_i x2), (3, xm_i y1), (4, xm_i y3)]) C [2, 3, 4, 1, 0] rfl ?_
  exact hZ5 x1 x2 y1 y3 S h1
def wp_X12_changes_55 (h : Nat) (x1 : Int32) (x2 : Int32) (x4 : Int32) (s0 : Int32) (S : xm_S) (g : Int32 → xm_S → Prop) (Z5 : Int32 → Int32 → Int32 → Int32 → xm_S → Prop) : Prop :=
  wp_X12_changes_56 h x1 x2 x4 (0 : Int32) s0 S g Z5
set_option maxRecDepth 100000 in
set_option maxHeartbeats 4000000 in
theorem kp_X12_changes_55 {K : xm_K} (h : Nat) (x1 : Int32) (x2 : Int32) (x4 : Int32) (s0 : Int32) (S : xm_S) {g : Int32 → xm_S → Prop} {Z5 : Int32 → Int32 → Int32 → Int32 → xm_S → Prop} (C : xm_Cx K cX12_changes RX12 6 (some (FieldType.int)) rm_X12_changes) (N : xm_Nx K) (hg : ∀ v S, g v S → xm_q K (some (xm_i v)) S) (hZ5 : ∀ x1 x2 x3 x4 S, Z5 x1 x2 x3 x4 S → xm_W K 0 0 5 [(0, xm_r (some h)), (1, xm_i x1), (2, xm_i x2), (3, xm_i x3), (4, xm_i x4)] [] S) (h1 : wp_X12_changes_55 h x1 x2 x4 s0 S g Z5) : xm_W K 0 0 55 [(0, xm_r (some h)), (1, xm_i x1), (2, xm_i x2), (4, xm_i x4)] [xm_i s0] S := by
  unfold wp_X12_changes_55 at h1
  refine x_iconst (v := (0 : Int32)) C dX12_changes_55 (by decide) ?_
  exact kp_X12_changes_56 h x1 x2 x4 (0 : Int32) s0 S C N hg hZ5 h1
def wp_X12_changes_5B (h : Nat) (x1 : Int32) (x2 : Int32) (x3 : Int32) (x4 : Int32) (S : xm_S) (g : Int32 → xm_S → Prop) (Z5 : Int32 → Int32 → Int32 → Int32 → xm_S → Prop) : Prop :=
  ((nI 6) ≤ x4 → g x3 S) ∧ (¬ (nI 6) ≤ x4 → st_t S h = some (12, 0) ∧ ∃ n6, (st_r S h 29) = some n6 ∧ ∃ z9, st_t S n6 = some (100, z9) ∧ vp_in (((nI 6) * x1) + x4) z9 ∧ ∀ y11, y11 = (st_i S n6 ((((nI 6) * x1) + x4)).toNatClampNeg) → (x4 = x2 → wp_X12_changes_55 h x1 x2 x4 x3 S g Z5) ∧ (¬ x4 = x2 → (y11 = (-1 : Int32) → wp_X12_changes_55 h x1 x2 x4 x3 S g Z5) ∧ (¬ y11 = (-1 : Int32) → ∃ n13, (st_r S h 33) = some n13 ∧ ∃ z16, st_t S n13 = some (100, z16) ∧ vp_in x4 z16 ∧ (y11 = (st_i S n13 (x4).toNatClampNeg) → wp_X12_changes_55 h x1 x2 x4 x3 S g Z5) ∧ (¬ y11 = (st_i S n13 (x4).toNatClampNeg) → wp_X12_changes_56 h x1 x2 x4 (1 : Int32) x3 S g Z5))))
def wp_X12_changes_5 (h : Nat) (x1 : Int32) (x2 : Int32) (x3 : Int32) (x4 : Int32) (S : xm_S) (g : Int32 → xm_S → Prop) : Prop :=
  ∀ Z5 : Int32 → Int32 → Int32 → Int32 → xm_S → Prop, (∀ x1 x2 x3 x4 S, wp_X12_changes_5B h x1 x2 x3 x4 S g Z5 → Z5 x1 x2 x3 x4 S) → Z5 x1 x2 x3 x4 S
set_option maxRecDepth 100000 in
set_option maxHeartbeats 4000000 in
theorem kp_X12_changes_5B {K : xm_K} (h : Nat) (x1 : Int32) (x2 : Int32) (x3 : Int32) (x4 : Int32) (S : xm_S) {g : Int32 → xm_S → Prop} {Z5 : Int32 → Int32 → Int32 → Int32 → xm_S → Prop} (C : xm_Cx K cX12_changes RX12 6 (some (FieldType.int)) rm_X12_changes) (N : xm_Nx K) (hg : ∀ v S, g v S → xm_q K (some (xm_i v)) S) (hZ5 : ∀ x1 x2 x3 x4 S, Z5 x1 x2 x3 x4 S → xm_W K 0 0 5 [(0, xm_r (some h)), (1, xm_i x1), (2, xm_i x2), (3, xm_i x3), (4, xm_i x4)] [] S) (h1 : wp_X12_changes_5B h x1 x2 x3 x4 S g Z5) : xm_W K 0 0 5 [(0, xm_r (some h)), (1, xm_i x1), (2, xm_i x2), (3, xm_i x3), (4, xm_i x4)] [] S := by
  unfold wp_X12_changes_5B at h1
  refine x_iload C 4 dX12_changes_5 rfl ?_
  refine x_bipush (v := (nI 6)) C dX12_changes_7 (by decide) ?_
  refine x_icmp_ge (tgt := 64) C dX12_changes_9 (by decide) (fun z9 => ?_) (fun z9 => ?_)
  · have h1 := h1.1 z9
    refine x_iload_n C 3 dX12_changes_64 rfl rfl ?_
    exact x_iret C (Nat.le_of_ble_eq_true rfl) (Nat.le_of_ble_eq_true rfl) rfl dX12_changes_65 (hg _ _ h1)
  · have h1 := h1.2 z9
    refine x_aload_n C 0 dX12_changes_12 rfl rfl ?_
    obtain ⟨ht5, h1⟩ := h1
    refine x_getf_r (n := h) C rfl ht5 fd_169 (by decide) dX12_changes_13 ?_
    refine x_bipush (v := (nI 6)) C dX12_changes_16 (by decide) ?_
    refine x_iload_n C 1 dX12_changes_18 rfl rfl ?_
    refine x_imul C dX12_changes_19 ?_
    refine x_iload C 4 dX12_changes_20 rfl ?_
    refine x_iadd C dX12_changes_22 ?_
    obtain ⟨n6, hr7, h1⟩ := h1
    obtain ⟨z9, ht8, h1⟩ := h1
    obtain ⟨hi10, h1⟩ := h1
    refine x_iald (n := n6) C hr7 ht8 hi10 dX12_changes_23 ?_
    refine x_topi (fun y11 e12 => ?_)
    have h1 := h1 y11 e12
    refine x_istore (L' := [(5, xm_i y11), (0, xm_r (some h)), (1, xm_i x1), (2, xm_i x2), (3, xm_i x3), (4, xm_i x4)]) C dX12_changes_24 (by decide) rfl ?_
    refine x_iload_n C 4 dX12_changes_26 rfl rfl ?_
    refine x_iload C 5 dX12_changes_27 rfl ?_
    refine x_iload_n C 3 dX12_changes_29 rfl rfl ?_
    refine x_icmp_eq (tgt := 55) C dX12_changes_30 (by decide) (fun z9 => ?_) (fun z9 => ?_)
    · have h1 := h1.1 z9
      refine x_keep (L' := [(0, xm_r (some h)), (1, xm_i x1), (2, xm_i x2), (4, xm_i x4)]) C [1, 2, 3, 5] rfl ?_
      exact kp_X12_changes_55 h x1 x2 x4 x3 S C N hg hZ5 h1
    · have h1 := h1.2 z9
      refine x_iload C 0 dX12_changes_33 rfl ?_
      refine x_iconst (v := (-1 : Int32)) C dX12_changes_35 (by decide) ?_
      refine x_icmp_eq (tgt := 55) C dX12_changes_36 (by decide) (fun z9 => ?_) (fun z9 => ?_)
      · have h1 := h1.1 z9
        refine x_keep (L' := [(0, xm_r (some h)), (1, xm_i x1), (2, xm_i x2), (4, xm_i x4)]) C [1, 2, 3, 5] rfl ?_
        exact kp_X12_changes_55 h x1 x2 x4 x3 S C N hg hZ5 h1
      · have h1 := h1.2 z9
        refine x_iload C 0 dX12_changes_39 rfl ?_
        refine x_aload_n C 1 dX12_changes_41 rfl rfl ?_
        refine x_getf_r (n := h) C rfl ht5 fd_174 (by decide) dX12_changes_42 ?_
        refine x_iload C 5 dX12_changes_45 rfl ?_
        obtain ⟨n13, hr14, h1⟩ := h1
        obtain ⟨z16, ht15, h1⟩ := h1
        obtain ⟨hi17, h1⟩ := h1
        refine x_iald (n := n13) C hr14 ht15 hi17 dX12_changes_47 ?_
        refine x_icmp_eq (tgt := 55) C dX12_changes_48 (by decide) (fun z9 => ?_) (fun z9 => ?_)
        · have h1 := h1.1 z9
          refine x_keep (L' := [(0, xm_r (some h)), (1, xm_i x1), (2, xm_i x2), (4, xm_i x4)]) C [1, 2, 3, 5] rfl ?_
          exact kp_X12_changes_55 h x1 x2 x4 x3 S C N hg hZ5 h1
        · have h1 := h1.2 z9
          refine x_iconst (v := (1 : Int32)) C dX12_changes_51 (by decide) ?_
          refine x_goto (tgt := 56) C dX12_changes_52 (by decide) ?_
          refine x_keep (L' := [(0, xm_r (some h)), (1, xm_i x1), (2, xm_i x2), (4, xm_i x4)]) C [1, 2, 3, 5] rfl ?_
          exact kp_X12_changes_56 h x1 x2 x4 (1 : Int32) x3 S C N hg hZ5 h1
theorem kp_X12_changes_5 {K : xm_K} (h : Nat) (x1 : Int32) (x2 : Int32) (x3 : Int32) (x4 : Int32) (S : xm_S) {g : Int32 → xm_S → Prop} (C : xm_Cx K cX12_changes RX12 6 (some (FieldType.int)) rm_X12_changes) (N : xm_Nx K) (hg : ∀ v S, g v S → xm_q K (some (xm_i v)) S)  (h1 : wp_X12_changes_5 h x1 x2 x3 x4 S g) : xm_W K 0 0 5 [(0, xm_r (some h)), (1, xm_i x1), (2, xm_i x2), (3, xm_i x3), (4, xm_i x4)] [] S :=
  h1 (fun x1 x2 x3 x4 S => xm_W K 0 0 5 [(0, xm_r (some h)), (1, xm_i x1), (2, xm_i x2), (3, xm_i x3), (4, xm_i x4)] [] S) (fun x1 x2 x3 x4 S hb => kp_X12_changes_5B h x1 x2 x3 x4 S C N hg (fun x1 x2 x3 x4 S hz => hz) hb)
def wp_X12_changes (h : Nat) (x1 : Int32) (x2 : Int32) (S : xm_S) (g : Int32 → xm_S → Prop) : Prop :=
  wp_X12_changes_5 h x1 x2 (0 : Int32) (0 : Int32) S g
set_option maxRecDepth 100000 in
set_option maxHeartbeats 4000000 in
theorem kp_X12_changes {K : xm_K} (h : Nat) (x1 : Int32) (x2 : Int32) (S : xm_S) {g : Int32 → xm_S → Prop} (C : xm_Cx K cX12_changes RX12 6 (some (FieldType.int)) rm_X12_changes) (N : xm_Nx K) (hg : ∀ v S, g v S → xm_q K (some (xm_i v)) S)  (h1 : wp_X12_changes h x1 x2 S g) : xm_W K 0 0 0 [(0, xm_r (some h)), (1, xm_i x1), (2, xm_i x2)] [] S := by
  unfold wp_X12_changes at h1
  refine x_iconst (v := (0 : Int32)) C dX12_changes_0 (by decide) ?_
  refine x_istore_n (L' := [(3, xm_i (0 : Int32)), (0, xm_r (some h)), (1, xm_i x1), (2, xm_i x2)]) C dX12_changes_1 rfl (by decide) rfl ?_
  refine x_iconst (v := (0 : Int32)) C dX12_changes_2 (by decide) ?_
  refine x_istore (L' := [(4, xm_i (0 : Int32)), (3, xm_i (0 : Int32)), (0, xm_r (some h)), (1, xm_i x1), (2, xm_i x2)]) C dX12_changes_3 (by decide) rfl ?_
  refine x_keep (L' := [(0, xm_r (some h)), (1, xm_i x1), (2, xm_i x2), (3, xm_i (0 : Int32)), (4, xm_i (0 : Int32))]) C [2, 3, 4, 1, 0] rfl ?_
  exact kp_X12_changes_5 h x1 x2 (0 : Int32) (0 : Int32) S C N hg  h1
theorem kp_X12_changes_met {h : Nat} {x1 : Int32} {x2 : Int32} {S : xm_S} {g : Int32 → xm_S → Prop}  (h1 : wp_X12_changes h x1 x2 S g) : xm_Met yX12_changes cX12_changes 6 (some (FieldType.int)) rm_X12_changes [xm_r (some h), xm_i x1, xm_i x2] S (xm_qi g) xm_nox :=
  xm_ofW RX12 (by decide +kernel) rfl (Nat.le_of_ble_eq_true rfl) (fun K C N hq hx hi => kp_X12_changes h x1 x2 S C N (fun v S h => by rw [hq]; exact ⟨v, rfl, h⟩)  h1)
def rm_X12_chooses : Room := { frames := 1, cells := 0, slots := 0, locals := 20 }
theorem dX12_chooses_0 : decode cX12_chooses 0 = .ok (.iload_n 1, 1) := by decide +kernel
theorem dX12_chooses_1 : decode cX12_chooses 1 = .ok (.istore_n 2, 1) := by decide +kernel
theorem dX12_chooses_2 : decode cX12_chooses 2 = .ok (.iconst 1, 1) := by decide +kernel
theorem dX12_chooses_3 : decode cX12_chooses 3 = .ok (.istore_n 3, 1) := by decide +kernel
theorem dX12_chooses_4 : decode cX12_chooses 4 = .ok (.iconst 5, 1) := by decide +kernel
theorem dX12_chooses_5 : decode cX12_chooses 5 = .ok (.istore 4, 2) := by decide +kernel
theorem dX12_chooses_7 : decode cX12_chooses 7 = .ok (.iload 4, 2) := by decide +kernel
theorem dX12_chooses_9 : decode cX12_chooses 9 = .ok (.ifCond .lt 82, 3) := by decide +kernel
theorem dX12_chooses_12 : decode cX12_chooses 12 = .ok (.iload_n 2, 1) := by decide +kernel
theorem dX12_chooses_13 : decode cX12_chooses 13 = .ok (.iconst 5, 1) := by decide +kernel
theorem dX12_chooses_14 : decode cX12_chooses 14 = .ok (.irem, 1) := by decide +kernel
theorem dX12_chooses_15 : decode cX12_chooses 15 = .ok (.istore 5, 2) := by decide +kernel
theorem dX12_chooses_17 : decode cX12_chooses 17 = .ok (.iload_n 2, 1) := by decide +kernel
theorem dX12_chooses_18 : decode cX12_chooses 18 = .ok (.iconst 5, 1) := by decide +kernel
theorem dX12_chooses_19 : decode cX12_chooses 19 = .ok (.idiv, 1) := by decide +kernel
theorem dX12_chooses_20 : decode cX12_chooses 20 = .ok (.istore_n 2, 1) := by decide +kernel
theorem dX12_chooses_21 : decode cX12_chooses 21 = .ok (.aload_n 0, 1) := by decide +kernel
theorem dX12_chooses_22 : decode cX12_chooses 22 = .ok (.getfield 103, 3) := by decide +kernel
theorem dX12_chooses_25 : decode cX12_chooses 25 = .ok (.iload 4, 2) := by decide +kernel
theorem dX12_chooses_27 : decode cX12_chooses 27 = .ok (.iload 5, 2) := by decide +kernel
theorem dX12_chooses_29 : decode cX12_chooses 29 = .ok (.ifCond .eq 15, 3) := by decide +kernel
theorem dX12_chooses_32 : decode cX12_chooses 32 = .ok (.iload 5, 2) := by decide +kernel
theorem dX12_chooses_34 : decode cX12_chooses 34 = .ok (.aload_n 0, 1) := by decide +kernel
theorem dX12_chooses_35 : decode cX12_chooses 35 = .ok (.getfield 13, 3) := by decide +kernel
theorem dX12_chooses_38 : decode cX12_chooses 38 = .ok (.iload 4, 2) := by decide +kernel
theorem dX12_chooses_40 : decode cX12_chooses 40 = .ok (.iaload, 1) := by decide +kernel
theorem dX12_chooses_41 : decode cX12_chooses 41 = .ok (.if_icmp .le 7, 3) := by decide +kernel
theorem dX12_chooses_44 : decode cX12_chooses 44 = .ok (.iconst (-1), 1) := by decide +kernel
theorem dX12_chooses_45 : decode cX12_chooses 45 = .ok (.goto 17, 3) := by decide +kernel
theorem dX12_chooses_48 : decode cX12_chooses 48 = .ok (.aload_n 0, 1) := by decide +kernel
theorem dX12_chooses_49 : decode cX12_chooses 49 = .ok (.getfield 100, 3) := by decide +kernel
theorem dX12_chooses_52 : decode cX12_chooses 52 = .ok (.iconst 4, 1) := by decide +kernel
theorem dX12_chooses_53 : decode cX12_chooses 53 = .ok (.iload 4, 2) := by decide +kernel
theorem dX12_chooses_55 : decode cX12_chooses 55 = .ok (.imul, 1) := by decide +kernel
theorem dX12_chooses_56 : decode cX12_chooses 56 = .ok (.iload 5, 2) := by decide +kernel
theorem dX12_chooses_58 : decode cX12_chooses 58 = .ok (.iadd, 1) := by decide +kernel
theorem dX12_chooses_59 : decode cX12_chooses 59 = .ok (.iconst 1, 1) := by decide +kernel
theorem dX12_chooses_60 : decode cX12_chooses 60 = .ok (.isub, 1) := by decide +kernel
theorem dX12_chooses_61 : decode cX12_chooses 61 = .ok (.iaload, 1) := by decide +kernel
theorem dX12_chooses_62 : decode cX12_chooses 62 = .ok (.iastore, 1) := by decide +kernel
theorem dX12_chooses_63 : decode cX12_chooses 63 = .ok (.iload_n 3, 1) := by decide +kernel
theorem dX12_chooses_64 : decode cX12_chooses 64 = .ok (.ifCond .eq 19, 3) := by decide +kernel
theorem dX12_chooses_67 : decode cX12_chooses 67 = .ok (.iload 5, 2) := by decide +kernel
theorem dX12_chooses_69 : decode cX12_chooses 69 = .ok (.aload_n 0, 1) := by decide +kernel
theorem dX12_chooses_70 : decode cX12_chooses 70 = .ok (.getfield 13, 3) := by decide +kernel
theorem dX12_chooses_73 : decode cX12_chooses 73 = .ok (.iload 4, 2) := by decide +kernel
theorem dX12_chooses_75 : decode cX12_chooses 75 = .ok (.iaload, 1) := by decide +kernel
theorem dX12_chooses_76 : decode cX12_chooses 76 = .ok (.if_icmp .gt 7, 3) := by decide +kernel
theorem dX12_chooses_79 : decode cX12_chooses 79 = .ok (.iconst 1, 1) := by decide +kernel
theorem dX12_chooses_80 : decode cX12_chooses 80 = .ok (.goto 4, 3) := by decide +kernel
theorem dX12_chooses_83 : decode cX12_chooses 83 = .ok (.iconst 0, 1) := by decide +kernel
theorem dX12_chooses_84 : decode cX12_chooses 84 = .ok (.istore_n 3, 1) := by decide +kernel
theorem dX12_chooses_85 : decode cX12_chooses 85 = .ok (.iinc 4 (-1), 3) := by decide +kernel
theorem dX12_chooses_88 : decode cX12_chooses 88 = .ok (.goto (-81), 3) := by decide +kernel
theorem dX12_chooses_91 : decode cX12_chooses 91 = .ok (.iload_n 3, 1) := by decide +kernel
theorem dX12_chooses_92 : decode cX12_chooses 92 = .ok (.ireturn, 1) := by decide +kernel
def wp_X12_chooses_84 (h : Nat) (x2 : Int32) (x4 : Int32) (s0 : Int32) (S : xm_S) (g : Int32 → xm_S → Prop) (Z7 : Int32 → Int32 → Int32 → xm_S → Prop) : Prop :=
  ∀ y1, y1 = (x4 + (-1 : Int32)) → Z7 x2 s0 y1 S
set_option maxRecDepth 100000 in
set_option maxHeartbeats 4000000 in
theorem kp_X12_chooses_84 {K : xm_K} (h : Nat) (x2 : Int32) (x4 : Int32) (s0 : Int32) (S : xm_S) {g : Int32 → xm_S → Prop} {Z7 : Int32 → Int32 → Int32 → xm_S → Prop} (C : xm_Cx K cX12_chooses RX12 6 (some (FieldType.boolean)) rm_X12_chooses) (N : xm_Nx K) (hg : ∀ v S, g v S → xm_q K (some (xm_i v)) S) (hZ7 : ∀ x2 x3 x4 S, Z7 x2 x3 x4 S → xm_W K 0 0 7 [(0, xm_r (some h)), (2, xm_i x2), (3, xm_i x3), (4, xm_i x4)] [] S) (h1 : wp_X12_chooses_84 h x2 x4 s0 S g Z7) : xm_W K 0 0 84 [(0, xm_r (some h)), (2, xm_i x2), (4, xm_i x4)] [xm_i s0] S := by
  unfold wp_X12_chooses_84 at h1
  refine x_istore_n (L' := [(3, xm_i s0), (0, xm_r (some h)), (2, xm_i x2), (4, xm_i x4)]) C dX12_chooses_84 rfl (by decide) rfl ?_
  obtain ⟨y1, e2⟩ : ∃ y1, y1 = (x4 + (-1 : Int32)) := ⟨_, rfl⟩
  have h1 := h1 y1 e2
  refine x_iinc (v := y1) (L' := [(4, xm_i y1), (3, xm_i s0), (0, xm_r (some h)), (2, xm_i x2)]) C 3 dX12_chooses_85 rfl (by rw [e2]; rfl) (by decide) rfl ?_
  refine x_goto (tgt := 7) C dX12_chooses_88 (by decide) ?_
  refine x_keep (L' := [(0, xm_r (some h)), (2, xm_i x2), (3, xm_i s0), (4, xm_i y1)]) C [2, 3, 1, 0] rfl ?_
  exact hZ7 x2 s0 y1 S h1
def wp_X12_chooses_83 (h : Nat) (x2 : Int32) (x4 : Int32) (S : xm_S) (g : Int32 → xm_S → Prop) (Z7 : Int32 → Int32 → Int32 → xm_S → Prop) : Prop :=
  wp_X12_chooses_84 h x2 x4 (0 : Int32) S g Z7
set_option maxRecDepth 100000 in
set_option maxHeartbeats 4000000 in
theorem kp_X12_chooses_83 {K : xm_K} (h : Nat) (x2 : Int32) (x4 : Int32) (S : xm_S) {g : Int32 → xm_S → Prop} {Z7 : Int32 → Int32 → Int32 → xm_S → Prop} (C : xm_Cx K cX12_chooses RX12 6 (some (FieldType.boolean)) rm_X12_chooses) (N : xm_Nx K) (hg : ∀ v S, g v S → xm_q K (some (xm_i v)) S) (hZ7 : ∀ x2 x3 x4 S, Z7 x2 x3 x4 S → xm_W K 0 0 7 [(0, xm_r (some h)), (2, xm_i x2), (3, xm_i x3), (4, xm_i x4)] [] S) (h1 : wp_X12_chooses_83 h x2 x4 S g Z7) : xm_W K 0 0 83 [(0, xm_r (some h)), (2, xm_i x2), (4, xm_i x4)] [] S := by
  unfold wp_X12_chooses_83 at h1
  refine x_iconst (v := (0 : Int32)) C dX12_chooses_83 (by decide) ?_
  exact kp_X12_chooses_84 h x2 x4 (0 : Int32) S C N hg hZ7 h1
def wp_X12_chooses_62 (h : Nat) (x2 : Int32) (x3 : Int32) (x4 : Int32) (x5 : Int32) (s0 : Int32) (s1 : Int32) (s2 : Option Nat) (S : xm_S) (g : Int32 → xm_S → Prop) (Z7 : Int32 → Int32 → Int32 → xm_S → Prop) : Prop :=
  ∃ n3, s2 = some n3 ∧ ∃ z6, st_t S n3 = some (100, z6) ∧ vp_in s1 z6 ∧ ∀ S8, S8 = st_pi S n3 (s1).toNatClampNeg s0 → (x3 = 0 → wp_X12_chooses_83 h x2 x4 S8 g Z7) ∧ (¬ x3 = 0 → st_t S8 h = some (12, 0) ∧ ∃ n11, (st_r S8 h 2) = some n11 ∧ ∃ z14, st_t S8 n11 = some (100, z14) ∧ vp_in x4 z14 ∧ ((st_i S8 n11 (x4).toNatClampNeg) < x5 → wp_X12_chooses_83 h x2 x4 S8 g Z7) ∧ (¬ (st_i S8 n11 (x4).toNatClampNeg) < x5 → wp_X12_chooses_84 h x2 x4 (1 : Int32) S8 g Z7))
set_option maxRecDepth 100000 in
set_option maxHeartbeats 4000000 in
theorem kp_X12_chooses_62 {K : xm_K} (h : Nat) (x2 : Int32) (x3 : Int32) (x4 : Int32) (x5 : Int32) (s0 : Int32) (s1 : Int32) (s2 : Option Nat) (S : xm_S) {g : Int32 → xm_S → Prop} {Z7 : Int32 → Int32 → Int32 → xm_S → Prop} (C : xm_Cx K cX12_chooses RX12 6 (some (FieldType.boolean)) rm_X12_chooses) (N : xm_Nx K) (hg : ∀ v S, g v S → xm_q K (some (xm_i v)) S) (hZ7 : ∀ x2 x3 x4 S, Z7 x2 x3 x4 S → xm_W K 0 0 7 [(0, xm_r (some h)), (2, xm_i x2), (3, xm_i x3), (4, xm_i x4)] [] S) (h1 : wp_X12_chooses_62 h x2 x3 x4 x5 s0 s1 s2 S g Z7) : xm_W K 0 0 62 [(0, xm_r (some h)), (2, xm_i x2), (3, xm_i x3), (4, xm_i x4), (5, xm_i x5)] [xm_i s0, xm_i s1, xm_r s2] S := by
  unfold wp_X12_chooses_62 at h1
  obtain ⟨n3, hr4, h1⟩ := h1
  obtain ⟨z6, ht5, h1⟩ := h1
  obtain ⟨hi7, h1⟩ := h1
  refine x_iast (n := n3) C hr4 ht5 hi7 dX12_chooses_62 ?_
  refine x_topS (fun S8 e9 => ?_)
  have h1 := h1 S8 e9
  refine x_iload_n C 2 dX12_chooses_63 rfl rfl ?_
  refine x_if_eq (tgt := 83) C dX12_chooses_64 (by decide) (fun z9 => ?_) (fun z9 => ?_)
  · have h1 := h1.1 z9
    refine x_keep (L' := [(0, xm_r (some h)), (2, xm_i x2), (4, xm_i x4)]) C [0, 1, 3] rfl ?_
    exact kp_X12_chooses_83 h x2 x4 S8 C N hg hZ7 h1
  · have h1 := h1.2 z9
    refine x_iload C 4 dX12_chooses_67 rfl ?_
    refine x_aload_n C 0 dX12_chooses_69 rfl rfl ?_
    obtain ⟨ht10, h1⟩ := h1
    refine x_getf_r (n := h) C rfl ht10 fd_175 (by decide) dX12_chooses_70 ?_
    refine x_iload C 3 dX12_chooses_73 rfl ?_
    obtain ⟨n11, hr12, h1⟩ := h1
    obtain ⟨z14, ht13, h1⟩ := h1
    obtain ⟨hi15, h1⟩ := h1
    refine x_iald (n := n11) C hr12 ht13 hi15 dX12_chooses_75 ?_
    refine x_icmp_gt (tgt := 83) C dX12_chooses_76 (by decide) (fun z9 => ?_) (fun z9 => ?_)
    · have h1 := h1.1 z9
      refine x_keep (L' := [(0, xm_r (some h)), (2, xm_i x2), (4, xm_i x4)]) C [0, 1, 3] rfl ?_
      exact kp_X12_chooses_83 h x2 x4 S8 C N hg hZ7 h1
    · have h1 := h1.2 z9
      refine x_iconst (v := (1 : Int32)) C dX12_chooses_79 (by decide) ?_
      refine x_goto (tgt := 84) C dX12_chooses_80 (by decide) ?_
      refine x_keep (L' := [(0, xm_r (some h)), (2, xm_i x2), (4, xm_i x4)]) C [0, 1, 3] rfl ?_
      exact kp_X12_chooses_84 h x2 x4 (1 : Int32) S8 C N hg hZ7 h1
def wp_X12_chooses_44 (h : Nat) (x2 : Int32) (x3 : Int32) (x4 : Int32) (x5 : Int32) (s0 : Int32) (s1 : Option Nat) (S : xm_S) (g : Int32 → xm_S → Prop) (Z7 : Int32 → Int32 → Int32 → xm_S → Prop) : Prop :=
  wp_X12_chooses_62 h x2 x3 x4 x5 (-1 : Int32) s0 s1 S g Z7
set_option maxRecDepth 100000 in
set_option maxHeartbeats 4000000 in
theorem kp_X12_chooses_44 {K : xm_K} (h : Nat) (x2 : Int32) (x3 : Int32) (x4 : Int32) (x5 : Int32) (s0 : Int32) (s1 : Option Nat) (S : xm_S) {g : Int32 → xm_S → Prop} {Z7 : Int32 → Int32 → Int32 → xm_S → Prop} (C : xm_Cx K cX12_chooses RX12 6 (some (FieldType.boolean)) rm_X12_chooses) (N : xm_Nx K) (hg : ∀ v S, g v S → xm_q K (some (xm_i v)) S) (hZ7 : ∀ x2 x3 x4 S, Z7 x2 x3 x4 S → xm_W K 0 0 7 [(0, xm_r (some h)), (2, xm_i x2), (3, xm_i x3), (4, xm_i x4)] [] S) (h1 : wp_X12_chooses_44 h x2 x3 x4 x5 s0 s1 S g Z7) : xm_W K 0 0 44 [(0, xm_r (some h)), (2, xm_i x2), (3, xm_i x3), (4, xm_i x4), (5, xm_i x5)] [xm_i s0, xm_r s1] S := by
  unfold wp_X12_chooses_44 at h1
  refine x_iconst (v := (-1 : Int32)) C dX12_chooses_44 (by decide) ?_
  refine x_goto (tgt := 62) C dX12_chooses_45 (by decide) ?_
  exact kp_X12_chooses_62 h x2 x3 x4 x5 (-1 : Int32) s0 s1 S C N hg hZ7 h1
def wp_X12_chooses_7B (h : Nat) (x2 : Int32) (x3 : Int32) (x4 : Int32) (S : xm_S) (g : Int32 → xm_S → Prop) (Z7 : Int32 → Int32 → Int32 → xm_S → Prop) : Prop :=
  (x4 < 0 → (x3 = 0 ∨ x3 = 1) ∧ g x3 S) ∧ (¬ x4 < 0 → ∀ y16, y16 = (x2 - x2 / (nI 5) * (nI 5)) → ∀ y18, y18 = (x2 / (nI 5)) → st_t S h = some (12, 0) ∧ (y16 = 0 → wp_X12_chooses_44 h y18 x3 x4 y16 x4 (st_r S h 33) S g Z7) ∧ (¬ y16 = 0 → ∃ n21, (st_r S h 2) = some n21 ∧ ∃ z24, st_t S n21 = some (100, z24) ∧ vp_in x4 z24 ∧ (y16 ≤ (st_i S n21 (x4).toNatClampNeg) → ∃ n26, (st_r S h 32) = some n26 ∧ ∃ z29, st_t S n26 = some (100, z29) ∧ vp_in ((((nI 4) * x4) + y16) - (1 : Int32)) z29 ∧ wp_X12_chooses_62 h y18 x3 x4 y16 (st_i S n26 (((((nI 4) * x4) + y16) - (1 : Int32))).toNatClampNeg) x4 (st_r S h 33) S g Z7) ∧ (¬ y16 ≤ (st_i S n21 (x4).toNatClampNeg) → wp_X12_chooses_44 h y18 x3 x4 y16 x4 (st_r S h 33) S g Z7)))
def wp_X12_chooses_7 (h : Nat) (x2 : Int32) (x3 : Int32) (x4 : Int32) (S : xm_S) (g : Int32 → xm_S → Prop) : Prop :=
  ∀ Z7 : Int32 → Int32 → Int32 → xm_S → Prop, (∀ x2 x3 x4 S, wp_X12_chooses_7B h x2 x3 x4 S g Z7 → Z7 x2 x3 x4 S) → Z7 x2 x3 x4 S
set_option maxRecDepth 100000 in
set_option maxHeartbeats 4000000 in
theorem kp_X12_chooses_7B {K : xm_K} (h : Nat) (x2 : Int32) (x3 : Int32) (x4 : Int32) (S : xm_S) {g : Int32 → xm_S → Prop} {Z7 : Int32 → Int32 → Int32 → xm_S → Prop} (C : xm_Cx K cX12_chooses RX12 6 (some (FieldType.boolean)) rm_X12_chooses) (N : xm_Nx K) (hg : ∀ v S, g v S → xm_q K (some (xm_i v)) S) (hZ7 : ∀ x2 x3 x4 S, Z7 x2 x3 x4 S → xm_W K 0 0 7 [(0, xm_r (some h)), (2, xm_i x2), (3, xm_i x3), (4, xm_i x4)] [] S) (h1 : wp_X12_chooses_7B h x2 x3 x4 S g Z7) : xm_W K 0 0 7 [(0, xm_r (some h)), (2, xm_i x2), (3, xm_i x3), (4, xm_i x4)] [] S := by
  unfold wp_X12_chooses_7B at h1
  refine x_iload C 3 dX12_chooses_7 rfl ?_
  refine x_if_lt (tgt := 91) C dX12_chooses_9 (by decide) (fun z9 => ?_) (fun z9 => ?_)
  · have h1 := h1.1 z9
    refine x_iload_n C 2 dX12_chooses_91 rfl rfl ?_
    exact x_zret C (Nat.le_of_ble_eq_true rfl) (Nat.le_of_ble_eq_true rfl) rfl h1.1 dX12_chooses_92 (hg _ _ h1.2)
  · have h1 := h1.2 z9
    refine x_iload_n C 1 dX12_chooses_12 rfl rfl ?_
    refine x_iconst (v := (nI 5)) C dX12_chooses_13 (by decide) ?_
    refine x_irem C dX12_chooses_14 (by decide) ?_
    refine x_topi (fun y16 e17 => ?_)
    have h1 := h1 y16 e17
    refine x_istore (L' := [(5, xm_i y16), (0, xm_r (some h)), (2, xm_i x2), (3, xm_i x3), (4, xm_i x4)]) C dX12_chooses_15 (by decide) rfl ?_
    refine x_iload_n C 2 dX12_chooses_17 rfl rfl ?_
    refine x_iconst (v := (nI 5)) C dX12_chooses_18 (by decide) ?_
    refine x_idiv C dX12_chooses_19 (by decide) ?_
    refine x_topi (fun y18 e19 => ?_)
    have h1 := h1 y18 e19
    refine x_istore_n (L' := [(2, xm_i y18), (5, xm_i y16), (0, xm_r (some h)), (3, xm_i x3), (4, xm_i x4)]) C dX12_chooses_20 rfl (by decide) rfl ?_
    refine x_aload_n C 2 dX12_chooses_21 rfl rfl ?_
    obtain ⟨ht20, h1⟩ := h1
    refine x_getf_r (n := h) C rfl ht20 fd_174 (by decide) dX12_chooses_22 ?_
    refine x_iload C 4 dX12_chooses_25 rfl ?_
    refine x_iload C 1 dX12_chooses_27 rfl ?_
    refine x_if_eq (tgt := 44) C dX12_chooses_29 (by decide) (fun z9 => ?_) (fun z9 => ?_)
    · have h1 := h1.1 z9
      refine x_keep (L' := [(0, xm_r (some h)), (2, xm_i y18), (3, xm_i x3), (4, xm_i x4), (5, xm_i y16)]) C [2, 0, 3, 4, 1] rfl ?_
      exact kp_X12_chooses_44 h y18 x3 x4 y16 x4 (st_r S h 33) S C N hg hZ7 h1
    · have h1 := h1.2 z9
      refine x_iload C 1 dX12_chooses_32 rfl ?_
      refine x_aload_n C 2 dX12_chooses_34 rfl rfl ?_
      refine x_getf_r (n := h) C rfl ht20 fd_175 (by decide) dX12_chooses_35 ?_
      refine x_iload C 4 dX12_chooses_38 rfl ?_
      obtain ⟨n21, hr22, h1⟩ := h1
      obtain ⟨z24, ht23, h1⟩ := h1
      obtain ⟨hi25, h1⟩ := h1
      refine x_iald (n := n21) C hr22 ht23 hi25 dX12_chooses_40 ?_
      refine x_icmp_le (tgt := 48) C dX12_chooses_41 (by decide) (fun z9 => ?_) (fun z9 => ?_)
      · have h1 := h1.1 z9
        refine x_aload_n C 2 dX12_chooses_48 rfl rfl ?_
        refine x_getf_r (n := h) C rfl ht20 fd_176 (by decide) dX12_chooses_49 ?_
        refine x_iconst (v := (nI 4)) C dX12_chooses_52 (by decide) ?_
        refine x_iload C 4 dX12_chooses_53 rfl ?_
        refine x_imul C dX12_chooses_55 ?_
        refine x_iload C 1 dX12_chooses_56 rfl ?_
        refine x_iadd C dX12_chooses_58 ?_
        refine x_iconst (v := (1 : Int32)) C dX12_chooses_59 (by decide) ?_
        refine x_isub C dX12_chooses_60 ?_
        obtain ⟨n26, hr27, h1⟩ := h1
        obtain ⟨z29, ht28, h1⟩ := h1
        obtain ⟨hi30, h1⟩ := h1
        refine x_iald (n := n26) C hr27 ht28 hi30 dX12_chooses_61 ?_
        refine x_keep (L' := [(0, xm_r (some h)), (2, xm_i y18), (3, xm_i x3), (4, xm_i x4), (5, xm_i y16)]) C [2, 0, 3, 4, 1] rfl ?_
        exact kp_X12_chooses_62 h y18 x3 x4 y16 (st_i S n26 (((((nI 4) * x4) + y16) - (1 : Int32))).toNatClampNeg) x4 (st_r S h 33) S C N hg hZ7 h1
      · have h1 := h1.2 z9
        refine x_keep (L' := [(0, xm_r (some h)), (2, xm_i y18), (3, xm_i x3), (4, xm_i x4), (5, xm_i y16)]) C [2, 0, 3, 4, 1] rfl ?_
        exact kp_X12_chooses_44 h y18 x3 x4 y16 x4 (st_r S h 33) S C N hg hZ7 h1
theorem kp_X12_chooses_7 {K : xm_K} (h : Nat) (x2 : Int32) (x3 : Int32) (x4 : Int32) (S : xm_S) {g : Int32 → xm_S → Prop} (C : xm_Cx K cX12_chooses RX12 6 (some (FieldType.boolean)) rm_X12_chooses) (N : xm_Nx K) (hg : ∀ v S, g v S → xm_q K (some (xm_i v)) S)  (h1 : wp_X12_chooses_7 h x2 x3 x4 S g) : xm_W K 0 0 7 [(0, xm_r (some h)), (2, xm_i x2), (3, xm_i x3), (4, xm_i x4)] [] S :=
  h1 (fun x2 x3 x4 S => xm_W K 0 0 7 [(0, xm_r (some h)), (2, xm_i x2), (3, xm_i x3), (4, xm_i x4)] [] S) (fun x2 x3 x4 S hb => kp_X12_chooses_7B h x2 x3 x4 S C N hg (fun x2 x3 x4 S hz => hz) hb)
def wp_X12_chooses (h : Nat) (x1 : Int32) (S : xm_S) (g : Int32 → xm_S → Prop) : Prop :=
  wp_X12_chooses_7 h x1 (1 : Int32) (nI 5) S g
set_option maxRecDepth 100000 in
set_option maxHeartbeats 4000000 in
theorem kp_X12_chooses {K : xm_K} (h : Nat) (x1 : Int32) (S : xm_S) {g : Int32 → xm_S → Prop} (C : xm_Cx K cX12_chooses RX12 6 (some (FieldType.boolean)) rm_X12_chooses) (N : xm_Nx K) (hg : ∀ v S, g v S → xm_q K (some (xm_i v)) S)  (h1 : wp_X12_chooses h x1 S g) : xm_W K 0 0 0 [(0, xm_r (some h)), (1, xm_i x1)] [] S := by
  unfold wp_X12_chooses at h1
  refine x_iload_n C 1 dX12_chooses_0 rfl rfl ?_
  refine x_istore_n (L' := [(2, xm_i x1), (0, xm_r (some h)), (1, xm_i x1)]) C dX12_chooses_1 rfl (by decide) rfl ?_
  refine x_iconst (v := (1 : Int32)) C dX12_chooses_2 (by decide) ?_
  refine x_istore_n (L' := [(3, xm_i (1 : Int32)), (2, xm_i x1), (0, xm_r (some h)), (1, xm_i x1)]) C dX12_chooses_3 rfl (by decide) rfl ?_
  refine x_iconst (v := (nI 5)) C dX12_chooses_4 (by decide) ?_
  refine x_istore (L' := [(4, xm_i (nI 5)), (3, xm_i (1 : Int32)), (2, xm_i x1), (0, xm_r (some h)), (1, xm_i x1)]) C dX12_chooses_5 (by decide) rfl ?_
  refine x_keep (L' := [(0, xm_r (some h)), (2, xm_i x1), (3, xm_i (1 : Int32)), (4, xm_i (nI 5))]) C [3, 2, 1, 0] rfl ?_
  exact kp_X12_chooses_7 h x1 (1 : Int32) (nI 5) S C N hg  h1
theorem kp_X12_chooses_met {h : Nat} {x1 : Int32} {S : xm_S} {g : Int32 → xm_S → Prop}  (h1 : wp_X12_chooses h x1 S g) : xm_Met yX12_chooses cX12_chooses 6 (some (FieldType.boolean)) rm_X12_chooses [xm_r (some h), xm_i x1] S (xm_qi g) xm_nox :=
  xm_ofW RX12 (by decide +kernel) rfl (Nat.le_of_ble_eq_true rfl) (fun K C N hq hx hi => kp_X12_chooses h x1 S C N (fun v S h => by rw [hq]; exact ⟨v, rfl, h⟩)  h1)
def rm_X12_chosenMany : Room := { frames := 1, cells := 0, slots := 0, locals := 20 }
theorem dX12_chosenMany_0 : decode cX12_chosenMany 0 = .ok (.iconst 0, 1) := by decide +kernel
theorem dX12_chosenMany_1 : decode cX12_chosenMany 1 = .ok (.istore_n 1, 1) := by decide +kernel
theorem dX12_chosenMany_2 : decode cX12_chosenMany 2 = .ok (.iconst 0, 1) := by decide +kernel
theorem dX12_chosenMany_3 : decode cX12_chosenMany 3 = .ok (.istore_n 2, 1) := by decide +kernel
theorem dX12_chosenMany_4 : decode cX12_chosenMany 4 = .ok (.iload_n 2, 1) := by decide +kernel
theorem dX12_chosenMany_5 : decode cX12_chosenMany 5 = .ok (.bipush 6, 2) := by decide +kernel
theorem dX12_chosenMany_7 : decode cX12_chosenMany 7 = .ok (.if_icmp .ge 27, 3) := by decide +kernel
theorem dX12_chosenMany_10 : decode cX12_chosenMany 10 = .ok (.iload_n 1, 1) := by decide +kernel
theorem dX12_chosenMany_11 : decode cX12_chosenMany 11 = .ok (.aload_n 0, 1) := by decide +kernel
theorem dX12_chosenMany_12 : decode cX12_chosenMany 12 = .ok (.getfield 103, 3) := by decide +kernel
theorem dX12_chosenMany_15 : decode cX12_chosenMany 15 = .ok (.iload_n 2, 1) := by decide +kernel
theorem dX12_chosenMany_16 : decode cX12_chosenMany 16 = .ok (.iaload, 1) := by decide +kernel
theorem dX12_chosenMany_17 : decode cX12_chosenMany 17 = .ok (.iconst (-1), 1) := by decide +kernel
theorem dX12_chosenMany_18 : decode cX12_chosenMany 18 = .ok (.if_icmp .ne 7, 3) := by decide +kernel
theorem dX12_chosenMany_21 : decode cX12_chosenMany 21 = .ok (.iconst 0, 1) := by decide +kernel
theorem dX12_chosenMany_22 : decode cX12_chosenMany 22 = .ok (.goto 4, 3) := by decide +kernel
theorem dX12_chosenMany_25 : decode cX12_chosenMany 25 = .ok (.iconst 1, 1) := by decide +kernel
theorem dX12_chosenMany_26 : decode cX12_chosenMany 26 = .ok (.iadd, 1) := by decide +kernel
theorem dX12_chosenMany_27 : decode cX12_chosenMany 27 = .ok (.istore_n 1, 1) := by decide +kernel
theorem dX12_chosenMany_28 : decode cX12_chosenMany 28 = .ok (.iinc 2 1, 3) := by decide +kernel
theorem dX12_chosenMany_31 : decode cX12_chosenMany 31 = .ok (.goto (-27), 3) := by decide +kernel
theorem dX12_chosenMany_34 : decode cX12_chosenMany 34 = .ok (.iload_n 1, 1) := by decide +kernel
theorem dX12_chosenMany_35 : decode cX12_chosenMany 35 = .ok (.ireturn, 1) := by decide +kernel
def wp_X12_chosenMany_26 (h : Nat) (x2 : Int32) (s0 : Int32) (s1 : Int32) (S : xm_S) (g : Int32 → xm_S → Prop) (Z4 : Int32 → Int32 → xm_S → Prop) : Prop :=
  ∀ y1, y1 = (s1 + s0) → ∀ y3, y3 = (x2 + (1 : Int32)) → Z4 y1 y3 S
set_option maxRecDepth 100000 in
set_option maxHeartbeats 4000000 in
theorem kp_X12_chosenMany_26 {K : xm_K} (h : Nat) (x2 : Int32) (s0 : Int32) (s1 : Int32) (S : xm_S) {g : Int32 → xm_S → Prop} {Z4 : Int32 → Int32 → xm_S → Prop} (C : xm_Cx K cX12_chosenMany RX12 3 (some (FieldType.int)) rm_X12_chosenMany) (N : xm_Nx K) (hg : ∀ v S, g v S → xm_q K (some (xm_i v)) S) (hZ4 : ∀ x1 x2 S, Z4 x1 x2 S → xm_W K 0 0 4 [(0, xm_r (some h)), (1, xm_i x1), (2, xm_i x2)] [] S) (h1 : wp_X12_chosenMany_26 h x2 s0 s1 S g Z4) : xm_W K 0 0 26 [(0, xm_r (some h)), (2, xm_i x2)] [xm_i s0, xm_i s1] S := by
  unfold wp_X12_chosenMany_26 at h1
  refine x_iadd C dX12_chosenMany_26 ?_
  refine x_topi (fun y1 e2 => ?_)
  have h1 := h1 y1 e2
  refine x_istore_n (L' := [(1, xm_i y1), (0, xm_r (some h)), (2, xm_i x2)]) C dX12_chosenMany_27 rfl (by decide) rfl ?_
  obtain ⟨y3, e4⟩ : ∃ y3, y3 = (x2 + (1 : Int32)) := ⟨_, rfl⟩
  have h1 := h1 y3 e4
  refine x_iinc (v := y3) (L' := [(2, xm_i y3), (1, xm_i y1), (0, xm_r (some h))]) C 2 dX12_chosenMany_28 rfl (by rw [e4]; rfl) (by decide) rfl ?_
  refine x_goto (tgt := 4) C dX12_chosenMany_31 (by decide) ?_
  refine x_keep (L' := [(0, xm_r (some h)), (1, xm_i y1), (2, xm_i y3)]) C [2, 1, 0] rfl ?_
  exact hZ4 y1 y3 S h1
def wp_X12_chosenMany_4B (h : Nat) (x1 : Int32) (x2 : Int32) (S : xm_S) (g : Int32 → xm_S → Prop) (Z4 : Int32 → Int32 → xm_S → Prop) : Prop :=
  ((nI 6) ≤ x2 → g x1 S) ∧ (¬ (nI 6) ≤ x2 → st_t S h = some (12, 0) ∧ ∃ n6, (st_r S h 33) = some n6 ∧ ∃ z9, st_t S n6 = some (100, z9) ∧ vp_in x2 z9 ∧ (¬ (st_i S n6 (x2).toNatClampNeg) = (-1 : Int32) → wp_X12_chosenMany_26 h x2 (1 : Int32) x1 S g Z4) ∧ ((st_i S n6 (x2).toNatClampNeg) = (-1 : Int32) → wp_X12_chosenMany_26 h x2 (0 : Int32) x1 S g Z4))
def wp_X12_chosenMany_4 (h : Nat) (x1 : Int32) (x2 : Int32) (S : xm_S) (g : Int32 → xm_S → Prop) : Prop :=
  ∀ Z4 : Int32 → Int32 → xm_S → Prop, (∀ x1 x2 S, wp_X12_chosenMany_4B h x1 x2 S g Z4 → Z4 x1 x2 S) → Z4 x1 x2 S
set_option maxRecDepth 100000 in
set_option maxHeartbeats 4000000 in
theorem kp_X12_chosenMany_4B {K : xm_K} (h : Nat) (x1 : Int32) (x2 : Int32) (S : xm_S) {g : Int32 → xm_S → Prop} {Z4 : Int32 → Int32 → xm_S → Prop} (C : xm_Cx K cX12_chosenMany RX12 3 (some (FieldType.int)) rm_X12_chosenMany) (N : xm_Nx K) (hg : ∀ v S, g v S → xm_q K (some (xm_i v)) S) (hZ4 : ∀ x1 x2 S, Z4 x1 x2 S → xm_W K 0 0 4 [(0, xm_r (some h)), (1, xm_i x1), (2, xm_i x2)] [] S) (h1 : wp_X12_chosenMany_4B h x1 x2 S g Z4) : xm_W K 0 0 4 [(0, xm_r (some h)), (1, xm_i x1), (2, xm_i x2)] [] S := by
  unfold wp_X12_chosenMany_4B at h1
  refine x_iload_n C 2 dX12_chosenMany_4 rfl rfl ?_
  refine x_bipush (v := (nI 6)) C dX12_chosenMany_5 (by decide) ?_
  refine x_icmp_ge (tgt := 34) C dX12_chosenMany_7 (by decide) (fun z9 => ?_) (fun z9 => ?_)
  · have h1 := h1.1 z9
    refine x_iload_n C 1 dX12_chosenMany_34 rfl rfl ?_
    exact x_iret C (Nat.le_of_ble_eq_true rfl) (Nat.le_of_ble_eq_true rfl) rfl dX12_chosenMany_35 (hg _ _ h1)
  · have h1 := h1.2 z9
    refine x_iload_n C 1 dX12_chosenMany_10 rfl rfl ?_
    refine x_aload_n C 0 dX12_chosenMany_11 rfl rfl ?_
    obtain ⟨ht5, h1⟩ := h1
    refine x_getf_r (n := h) C rfl ht5 fd_174 (by decide) dX12_chosenMany_12 ?_
    refine x_iload_n C 2 dX12_chosenMany_15 rfl rfl ?_
    obtain ⟨n6, hr7, h1⟩ := h1
    obtain ⟨z9, ht8, h1⟩ := h1
    obtain ⟨hi10, h1⟩ := h1
    refine x_iald (n := n6) C hr7 ht8 hi10 dX12_chosenMany_16 ?_
    refine x_iconst (v := (-1 : Int32)) C dX12_chosenMany_17 (by decide) ?_
    refine x_icmp_ne (tgt := 25) C dX12_chosenMany_18 (by decide) (fun z9 => ?_) (fun z9 => ?_)
    · have h1 := h1.1 z9
      refine x_iconst (v := (1 : Int32)) C dX12_chosenMany_25 (by decide) ?_
      refine x_keep (L' := [(0, xm_r (some h)), (2, xm_i x2)]) C [0, 2] rfl ?_
      exact kp_X12_chosenMany_26 h x2 (1 : Int32) x1 S C N hg hZ4 h1
    · have h1 := h1.2 z9
      refine x_iconst (v := (0 : Int32)) C dX12_chosenMany_21 (by decide) ?_
      refine x_goto (tgt := 26) C dX12_chosenMany_22 (by decide) ?_
      refine x_keep (L' := [(0, xm_r (some h)), (2, xm_i x2)]) C [0, 2] rfl ?_
      exact kp_X12_chosenMany_26 h x2 (0 : Int32) x1 S C N hg hZ4 h1
theorem kp_X12_chosenMany_4 {K : xm_K} (h : Nat) (x1 : Int32) (x2 : Int32) (S : xm_S) {g : Int32 → xm_S → Prop} (C : xm_Cx K cX12_chosenMany RX12 3 (some (FieldType.int)) rm_X12_chosenMany) (N : xm_Nx K) (hg : ∀ v S, g v S → xm_q K (some (xm_i v)) S)  (h1 : wp_X12_chosenMany_4 h x1 x2 S g) : xm_W K 0 0 4 [(0, xm_r (some h)), (1, xm_i x1), (2, xm_i x2)] [] S :=
  h1 (fun x1 x2 S => xm_W K 0 0 4 [(0, xm_r (some h)), (1, xm_i x1), (2, xm_i x2)] [] S) (fun x1 x2 S hb => kp_X12_chosenMany_4B h x1 x2 S C N hg (fun x1 x2 S hz => hz) hb)
def wp_X12_chosenMany (h : Nat)  (S : xm_S) (g : Int32 → xm_S → Prop) : Prop :=
  wp_X12_chosenMany_4 h (0 : Int32) (0 : Int32) S g
set_option maxRecDepth 100000 in
set_option maxHeartbeats 4000000 in
theorem kp_X12_chosenMany {K : xm_K} (h : Nat)  (S : xm_S) {g : Int32 → xm_S → Prop} (C : xm_Cx K cX12_chosenMany RX12 3 (some (FieldType.int)) rm_X12_chosenMany) (N : xm_Nx K) (hg : ∀ v S, g v S → xm_q K (some (xm_i v)) S)  (h1 : wp_X12_chosenMany h  S g) : xm_W K 0 0 0 [(0, xm_r (some h))] [] S := by
  unfold wp_X12_chosenMany at h1
  refine x_iconst (v := (0 : Int32)) C dX12_chosenMany_0 (by decide) ?_
  refine x_istore_n (L' := [(1, xm_i (0 : Int32)), (0, xm_r (some h))]) C dX12_chosenMany_1 rfl (by decide) rfl ?_
  refine x_iconst (v := (0 : Int32)) C dX12_chosenMany_2 (by decide) ?_
  refine x_istore_n (L' := [(2, xm_i (0 : Int32)), (1, xm_i (0 : Int32)), (0, xm_r (some h))]) C dX12_chosenMany_3 rfl (by decide) rfl ?_
  refine x_keep (L' := [(0, xm_r (some h)), (1, xm_i (0 : Int32)), (2, xm_i (0 : Int32))]) C [2, 1, 0] rfl ?_
  exact kp_X12_chosenMany_4 h (0 : Int32) (0 : Int32) S C N hg  h1
theorem kp_X12_chosenMany_met {h : Nat}  {S : xm_S} {g : Int32 → xm_S → Prop}  (h1 : wp_X12_chosenMany h  S g) : xm_Met yX12_chosenMany cX12_chosenMany 3 (some (FieldType.int)) rm_X12_chosenMany [xm_r (some h)] S (xm_qi g) xm_nox :=
  xm_ofW RX12 (by decide +kernel) rfl (Nat.le_of_ble_eq_true rfl) (fun K C N hq hx hi => kp_X12_chosenMany h  S C N (fun v S h => by rw [hq]; exact ⟨v, rfl, h⟩)  h1)
def rm_X12_isIn : Room := { frames := 1, cells := 0, slots := 0, locals := 20 }
theorem dX12_isIn_0 : decode cX12_isIn 0 = .ok (.iload_n 0, 1) := by decide +kernel
theorem dX12_isIn_1 : decode cX12_isIn 1 = .ok (.iload_n 1, 1) := by decide +kernel
theorem dX12_isIn_2 : decode cX12_isIn 2 = .ok (.ishr, 1) := by decide +kernel
theorem dX12_isIn_3 : decode cX12_isIn 3 = .ok (.iconst 1, 1) := by decide +kernel
theorem dX12_isIn_4 : decode cX12_isIn 4 = .ok (.iand, 1) := by decide +kernel
theorem dX12_isIn_5 : decode cX12_isIn 5 = .ok (.iconst 1, 1) := by decide +kernel
theorem dX12_isIn_6 : decode cX12_isIn 6 = .ok (.if_icmp .ne 7, 3) := by decide +kernel
theorem dX12_isIn_9 : decode cX12_isIn 9 = .ok (.iconst 1, 1) := by decide +kernel
theorem dX12_isIn_10 : decode cX12_isIn 10 = .ok (.goto 4, 3) := by decide +kernel
theorem dX12_isIn_13 : decode cX12_isIn 13 = .ok (.iconst 0, 1) := by decide +kernel
theorem dX12_isIn_14 : decode cX12_isIn 14 = .ok (.ireturn, 1) := by decide +kernel
def wp_X12_isIn_14 (s0 : Int32) (S : xm_S) (g : Int32 → xm_S → Prop) : Prop :=
  (s0 = 0 ∨ s0 = 1) ∧ g s0 S
set_option maxRecDepth 100000 in
set_option maxHeartbeats 4000000 in
theorem kp_X12_isIn_14 {K : xm_K} (s0 : Int32) (S : xm_S) {g : Int32 → xm_S → Prop} (C : xm_Cx K cX12_isIn RX12 2 (some (FieldType.boolean)) rm_X12_isIn) (N : xm_Nx K) (hg : ∀ v S, g v S → xm_q K (some (xm_i v)) S)  (h1 : wp_X12_isIn_14 s0 S g) : xm_W K 0 0 14 [] [xm_i s0] S := by
  unfold wp_X12_isIn_14 at h1
  exact x_zret C (Nat.le_of_ble_eq_true rfl) (Nat.le_of_ble_eq_true rfl) rfl h1.1 dX12_isIn_14 (hg _ _ h1.2)
def wp_X12_isIn (x0 : Int32) (x1 : Int32) (S : xm_S) (g : Int32 → xm_S → Prop) : Prop :=
  (¬ ((x0 >>> (x1 &&& 31)) &&& (1 : Int32)) = (1 : Int32) → wp_X12_isIn_14 (0 : Int32) S g) ∧ (((x0 >>> (x1 &&& 31)) &&& (1 : Int32)) = (1 : Int32) → wp_X12_isIn_14 (1 : Int32) S g)
set_option maxRecDepth 100000 in
set_option maxHeartbeats 4000000 in
theorem kp_X12_isIn {K : xm_K} (x0 : Int32) (x1 : Int32) (S : xm_S) {g : Int32 → xm_S → Prop} (C : xm_Cx K cX12_isIn RX12 2 (some (FieldType.boolean)) rm_X12_isIn) (N : xm_Nx K) (hg : ∀ v S, g v S → xm_q K (some (xm_i v)) S)  (h1 : wp_X12_isIn x0 x1 S g) : xm_W K 0 0 0 [(0, xm_i x0), (1, xm_i x1)] [] S := by
  unfold wp_X12_isIn at h1
  refine x_iload_n C 0 dX12_isIn_0 rfl rfl ?_
  refine x_iload_n C 1 dX12_isIn_1 rfl rfl ?_
  refine x_ishr C dX12_isIn_2 ?_
  refine x_iconst (v := (1 : Int32)) C dX12_isIn_3 (by decide) ?_
  refine x_iand C dX12_isIn_4 ?_
  refine x_iconst (v := (1 : Int32)) C dX12_isIn_5 (by decide) ?_
  refine x_icmp_ne (tgt := 13) C dX12_isIn_6 (by decide) (fun z9 => ?_) (fun z9 => ?_)
  · have h1 := h1.1 z9
    refine x_iconst (v := (0 : Int32)) C dX12_isIn_13 (by decide) ?_
    refine x_keep (L' := []) C [] rfl ?_
    exact kp_X12_isIn_14 (0 : Int32) S C N hg  h1
  · have h1 := h1.2 z9
    refine x_iconst (v := (1 : Int32)) C dX12_isIn_9 (by decide) ?_
    refine x_goto (tgt := 14) C dX12_isIn_10 (by decide) ?_
    refine x_keep (L' := []) C [] rfl ?_
    exact kp_X12_isIn_14 (1 : Int32) S C N hg  h1
theorem kp_X12_isIn_met {x0 : Int32} {x1 : Int32} {S : xm_S} {g : Int32 → xm_S → Prop}  (h1 : wp_X12_isIn x0 x1 S g) : xm_Met yX12_isIn cX12_isIn 2 (some (FieldType.boolean)) rm_X12_isIn [xm_i x0, xm_i x1] S (xm_qi g) xm_nox :=
  xm_ofW RX12 (by decide +kernel) rfl (Nat.le_of_ble_eq_true rfl) (fun K C N hq hx hi => kp_X12_isIn x0 x1 S C N (fun v S h => by rw [hq]; exact ⟨v, rfl, h⟩)  h1)
def rm_X12_hasConflict : Room := { frames := 2, cells := 0, slots := 0, locals := 41 }
theorem dX12_hasConflict_0 : decode cX12_hasConflict 0 = .ok (.iconst 4, 1) := by decide +kernel
theorem dX12_hasConflict_1 : decode cX12_hasConflict 1 = .ok (.iload_n 1, 1) := by decide +kernel
theorem dX12_hasConflict_2 : decode cX12_hasConflict 2 = .ok (.imul, 1) := by decide +kernel
theorem dX12_hasConflict_3 : decode cX12_hasConflict 3 = .ok (.aload_n 0, 1) := by decide +kernel
theorem dX12_hasConflict_4 : decode cX12_hasConflict 4 = .ok (.getfield 103, 3) := by decide +kernel
theorem dX12_hasConflict_7 : decode cX12_hasConflict 7 = .ok (.iload_n 1, 1) := by decide +kernel
theorem dX12_hasConflict_8 : decode cX12_hasConflict 8 = .ok (.iaload, 1) := by decide +kernel
theorem dX12_hasConflict_9 : decode cX12_hasConflict 9 = .ok (.iadd, 1) := by decide +kernel
theorem dX12_hasConflict_10 : decode cX12_hasConflict 10 = .ok (.istore_n 2, 1) := by decide +kernel
theorem dX12_hasConflict_11 : decode cX12_hasConflict 11 = .ok (.iconst 0, 1) := by decide +kernel
theorem dX12_hasConflict_12 : decode cX12_hasConflict 12 = .ok (.istore_n 3, 1) := by decide +kernel
theorem dX12_hasConflict_13 : decode cX12_hasConflict 13 = .ok (.iconst 2, 1) := by decide +kernel
theorem dX12_hasConflict_14 : decode cX12_hasConflict 14 = .ok (.iload_n 2, 1) := by decide +kernel
theorem dX12_hasConflict_15 : decode cX12_hasConflict 15 = .ok (.imul, 1) := by decide +kernel
theorem dX12_hasConflict_16 : decode cX12_hasConflict 16 = .ok (.istore 4, 2) := by decide +kernel
theorem dX12_hasConflict_18 : decode cX12_hasConflict 18 = .ok (.iload 4, 2) := by decide +kernel
theorem dX12_hasConflict_20 : decode cX12_hasConflict 20 = .ok (.iconst 2, 1) := by decide +kernel
theorem dX12_hasConflict_21 : decode cX12_hasConflict 21 = .ok (.iload_n 2, 1) := by decide +kernel
theorem dX12_hasConflict_22 : decode cX12_hasConflict 22 = .ok (.imul, 1) := by decide +kernel
theorem dX12_hasConflict_23 : decode cX12_hasConflict 23 = .ok (.aload_n 0, 1) := by decide +kernel
theorem dX12_hasConflict_24 : decode cX12_hasConflict 24 = .ok (.getfield 47, 3) := by decide +kernel
theorem dX12_hasConflict_27 : decode cX12_hasConflict 27 = .ok (.iload_n 2, 1) := by decide +kernel
theorem dX12_hasConflict_28 : decode cX12_hasConflict 28 = .ok (.iaload, 1) := by decide +kernel
theorem dX12_hasConflict_29 : decode cX12_hasConflict 29 = .ok (.iadd, 1) := by decide +kernel
theorem dX12_hasConflict_30 : decode cX12_hasConflict 30 = .ok (.if_icmp .ge 158, 3) := by decide +kernel
theorem dX12_hasConflict_33 : decode cX12_hasConflict 33 = .ok (.aload_n 0, 1) := by decide +kernel
theorem dX12_hasConflict_34 : decode cX12_hasConflict 34 = .ok (.getfield 50, 3) := by decide +kernel
theorem dX12_hasConflict_37 : decode cX12_hasConflict 37 = .ok (.iload 4, 2) := by decide +kernel
theorem dX12_hasConflict_39 : decode cX12_hasConflict 39 = .ok (.iaload, 1) := by decide +kernel
theorem dX12_hasConflict_40 : decode cX12_hasConflict 40 = .ok (.istore 5, 2) := by decide +kernel
theorem dX12_hasConflict_42 : decode cX12_hasConflict 42 = .ok (.iload_n 3, 1) := by decide +kernel
theorem dX12_hasConflict_43 : decode cX12_hasConflict 43 = .ok (.ifCond .ne 37, 3) := by decide +kernel
theorem dX12_hasConflict_46 : decode cX12_hasConflict 46 = .ok (.aload_n 0, 1) := by decide +kernel
theorem dX12_hasConflict_47 : decode cX12_hasConflict 47 = .ok (.getfield 103, 3) := by decide +kernel
theorem dX12_hasConflict_50 : decode cX12_hasConflict 50 = .ok (.iload 5, 2) := by decide +kernel
theorem dX12_hasConflict_52 : decode cX12_hasConflict 52 = .ok (.iaload, 1) := by decide +kernel
theorem dX12_hasConflict_53 : decode cX12_hasConflict 53 = .ok (.iconst (-1), 1) := by decide +kernel
theorem dX12_hasConflict_54 : decode cX12_hasConflict 54 = .ok (.if_icmp .eq 30, 3) := by decide +kernel
theorem dX12_hasConflict_57 : decode cX12_hasConflict 57 = .ok (.aload_n 0, 1) := by decide +kernel
theorem dX12_hasConflict_58 : decode cX12_hasConflict 58 = .ok (.getfield 93, 3) := by decide +kernel
theorem dX12_hasConflict_61 : decode cX12_hasConflict 61 = .ok (.bipush 96, 2) := by decide +kernel
theorem dX12_hasConflict_63 : decode cX12_hasConflict 63 = .ok (.iload 4, 2) := by decide +kernel
theorem dX12_hasConflict_65 : decode cX12_hasConflict 65 = .ok (.iadd, 1) := by decide +kernel
theorem dX12_hasConflict_66 : decode cX12_hasConflict 66 = .ok (.iaload, 1) := by decide +kernel
theorem dX12_hasConflict_67 : decode cX12_hasConflict 67 = .ok (.aload_n 0, 1) := by decide +kernel
theorem dX12_hasConflict_68 : decode cX12_hasConflict 68 = .ok (.getfield 103, 3) := by decide +kernel
theorem dX12_hasConflict_71 : decode cX12_hasConflict 71 = .ok (.iload 5, 2) := by decide +kernel
theorem dX12_hasConflict_73 : decode cX12_hasConflict 73 = .ok (.iaload, 1) := by decide +kernel
theorem dX12_hasConflict_74 : decode cX12_hasConflict 74 = .ok (.invokestatic 264, 3) := by decide +kernel
theorem dX12_hasConflict_77 : decode cX12_hasConflict 77 = .ok (.ifCond .eq 7, 3) := by decide +kernel
theorem dX12_hasConflict_80 : decode cX12_hasConflict 80 = .ok (.iconst 1, 1) := by decide +kernel
theorem dX12_hasConflict_81 : decode cX12_hasConflict 81 = .ok (.goto 4, 3) := by decide +kernel
theorem dX12_hasConflict_84 : decode cX12_hasConflict 84 = .ok (.iconst 0, 1) := by decide +kernel
theorem dX12_hasConflict_85 : decode cX12_hasConflict 85 = .ok (.istore_n 3, 1) := by decide +kernel
theorem dX12_hasConflict_86 : decode cX12_hasConflict 86 = .ok (.iconst 0, 1) := by decide +kernel
theorem dX12_hasConflict_87 : decode cX12_hasConflict 87 = .ok (.istore 6, 2) := by decide +kernel
theorem dX12_hasConflict_89 : decode cX12_hasConflict 89 = .ok (.iload 6, 2) := by decide +kernel
theorem dX12_hasConflict_91 : decode cX12_hasConflict 91 = .ok (.bipush 6, 2) := by decide +kernel
theorem dX12_hasConflict_93 : decode cX12_hasConflict 93 = .ok (.if_icmp .ge 89, 3) := by decide +kernel
theorem dX12_hasConflict_96 : decode cX12_hasConflict 96 = .ok (.aload_n 0, 1) := by decide +kernel
theorem dX12_hasConflict_97 : decode cX12_hasConflict 97 = .ok (.getfield 103, 3) := by decide +kernel
theorem dX12_hasConflict_100 : decode cX12_hasConflict 100 = .ok (.iload 6, 2) := by decide +kernel
theorem dX12_hasConflict_102 : decode cX12_hasConflict 102 = .ok (.iaload, 1) := by decide +kernel
theorem dX12_hasConflict_103 : decode cX12_hasConflict 103 = .ok (.iconst (-1), 1) := by decide +kernel
theorem dX12_hasConflict_104 : decode cX12_hasConflict 104 = .ok (.if_icmp .ne 7, 3) := by decide +kernel
theorem dX12_hasConflict_107 : decode cX12_hasConflict 107 = .ok (.iconst 0, 1) := by decide +kernel
theorem dX12_hasConflict_108 : decode cX12_hasConflict 108 = .ok (.goto 15, 3) := by decide +kernel
theorem dX12_hasConflict_111 : decode cX12_hasConflict 111 = .ok (.iconst 4, 1) := by decide +kernel
theorem dX12_hasConflict_112 : decode cX12_hasConflict 112 = .ok (.iload 6, 2) := by decide +kernel
theorem dX12_hasConflict_114 : decode cX12_hasConflict 114 = .ok (.imul, 1) := by decide +kernel
theorem dX12_hasConflict_115 : decode cX12_hasConflict 115 = .ok (.aload_n 0, 1) := by decide +kernel
theorem dX12_hasConflict_116 : decode cX12_hasConflict 116 = .ok (.getfield 103, 3) := by decide +kernel
theorem dX12_hasConflict_119 : decode cX12_hasConflict 119 = .ok (.iload 6, 2) := by decide +kernel
theorem dX12_hasConflict_121 : decode cX12_hasConflict 121 = .ok (.iaload, 1) := by decide +kernel
theorem dX12_hasConflict_122 : decode cX12_hasConflict 122 = .ok (.iadd, 1) := by decide +kernel
theorem dX12_hasConflict_123 : decode cX12_hasConflict 123 = .ok (.istore 7, 2) := by decide +kernel
theorem dX12_hasConflict_125 : decode cX12_hasConflict 125 = .ok (.iload_n 3, 1) := by decide +kernel
theorem dX12_hasConflict_126 : decode cX12_hasConflict 126 = .ok (.ifCond .ne 44, 3) := by decide +kernel
theorem dX12_hasConflict_129 : decode cX12_hasConflict 129 = .ok (.iload 6, 2) := by decide +kernel
theorem dX12_hasConflict_131 : decode cX12_hasConflict 131 = .ok (.iload_n 1, 1) := by decide +kernel
theorem dX12_hasConflict_132 : decode cX12_hasConflict 132 = .ok (.if_icmp .eq 42, 3) := by decide +kernel
theorem dX12_hasConflict_135 : decode cX12_hasConflict 135 = .ok (.aload_n 0, 1) := by decide +kernel
theorem dX12_hasConflict_136 : decode cX12_hasConflict 136 = .ok (.getfield 103, 3) := by decide +kernel
theorem dX12_hasConflict_139 : decode cX12_hasConflict 139 = .ok (.iload 6, 2) := by decide +kernel
theorem dX12_hasConflict_141 : decode cX12_hasConflict 141 = .ok (.iaload, 1) := by decide +kernel
theorem dX12_hasConflict_142 : decode cX12_hasConflict 142 = .ok (.iconst (-1), 1) := by decide +kernel
theorem dX12_hasConflict_143 : decode cX12_hasConflict 143 = .ok (.if_icmp .eq 31, 3) := by decide +kernel
theorem dX12_hasConflict_146 : decode cX12_hasConflict 146 = .ok (.aload_n 0, 1) := by decide +kernel
theorem dX12_hasConflict_147 : decode cX12_hasConflict 147 = .ok (.getfield 96, 3) := by decide +kernel
theorem dX12_hasConflict_150 : decode cX12_hasConflict 150 = .ok (.bipush 96, 2) := by decide +kernel
theorem dX12_hasConflict_152 : decode cX12_hasConflict 152 = .ok (.iload 4, 2) := by decide +kernel
theorem dX12_hasConflict_154 : decode cX12_hasConflict 154 = .ok (.iadd, 1) := by decide +kernel
theorem dX12_hasConflict_155 : decode cX12_hasConflict 155 = .ok (.laload, 1) := by decide +kernel
theorem dX12_hasConflict_156 : decode cX12_hasConflict 156 = .ok (.iconst 2, 1) := by decide +kernel
theorem dX12_hasConflict_157 : decode cX12_hasConflict 157 = .ok (.iload 7, 2) := by decide +kernel
theorem dX12_hasConflict_159 : decode cX12_hasConflict 159 = .ok (.imul, 1) := by decide +kernel
theorem dX12_hasConflict_160 : decode cX12_hasConflict 160 = .ok (.lshr, 1) := by decide +kernel
theorem dX12_hasConflict_161 : decode cX12_hasConflict 161 = .ok (.ldc2_w 267, 3) := by decide +kernel
theorem dX12_hasConflict_164 : decode cX12_hasConflict 164 = .ok (.land, 1) := by decide +kernel
theorem dX12_hasConflict_165 : decode cX12_hasConflict 165 = .ok (.lconst 0, 1) := by decide +kernel
theorem dX12_hasConflict_166 : decode cX12_hasConflict 166 = .ok (.lcmp, 1) := by decide +kernel
theorem dX12_hasConflict_167 : decode cX12_hasConflict 167 = .ok (.ifCond .eq 7, 3) := by decide +kernel
theorem dX12_hasConflict_170 : decode cX12_hasConflict 170 = .ok (.iconst 1, 1) := by decide +kernel
theorem dX12_hasConflict_171 : decode cX12_hasConflict 171 = .ok (.goto 4, 3) := by decide +kernel
theorem dX12_hasConflict_174 : decode cX12_hasConflict 174 = .ok (.iconst 0, 1) := by decide +kernel
theorem dX12_hasConflict_175 : decode cX12_hasConflict 175 = .ok (.istore_n 3, 1) := by decide +kernel
theorem dX12_hasConflict_176 : decode cX12_hasConflict 176 = .ok (.iinc 6 1, 3) := by decide +kernel
theorem dX12_hasConflict_179 : decode cX12_hasConflict 179 = .ok (.goto (-90), 3) := by decide +kernel
theorem dX12_hasConflict_182 : decode cX12_hasConflict 182 = .ok (.iinc 4 1, 3) := by decide +kernel
theorem dX12_hasConflict_185 : decode cX12_hasConflict 185 = .ok (.goto (-167), 3) := by decide +kernel
theorem dX12_hasConflict_188 : decode cX12_hasConflict 188 = .ok (.iload_n 3, 1) := by decide +kernel
theorem dX12_hasConflict_189 : decode cX12_hasConflict 189 = .ok (.ireturn, 1) := by decide +kernel
def wp_X12_hasConflict_175 (h : Nat) (x1 : Int32) (x2 : Int32) (x4 : Int32) (x6 : Int32) (s0 : Int32) (S : xm_S) (g : Int32 → xm_S → Prop) (Z18 : Int32 → Int32 → Int32 → Int32 → xm_S → Prop) (Z89 : Int32 → Int32 → Int32 → Int32 → Int32 → xm_S → Prop) : Prop :=
  ∀ y1, y1 = (x6 + (1 : Int32)) → Z89 x1 x2 s0 x4 y1 S
set_option maxRecDepth 100000 in
set_option maxHeartbeats 4000000 in
theorem kp_X12_hasConflict_175 {K : xm_K} (h : Nat) (x1 : Int32) (x2 : Int32) (x4 : Int32) (x6 : Int32) (s0 : Int32) (S : xm_S) {g : Int32 → xm_S → Prop} {Z18 : Int32 → Int32 → Int32 → Int32 → xm_S → Prop} {Z89 : Int32 → Int32 → Int32 → Int32 → Int32 → xm_S → Prop} (C : xm_Cx K cX12_hasConflict RX12 8 (some (FieldType.boolean)) rm_X12_hasConflict) (N : xm_Nx K) (hg : ∀ v S, g v S → xm_q K (some (xm_i v)) S) (hZ18 : ∀ x1 x2 x3 x4 S, Z18 x1 x2 x3 x4 S → xm_W K 0 0 18 [(0, xm_r (some h)), (1, xm_i x1), (2, xm_i x2), (3, xm_i x3), (4, xm_i x4)] [] S) (hZ89 : ∀ x1 x2 x3 x4 x6 S, Z89 x1 x2 x3 x4 x6 S → xm_W K 0 0 89 [(0, xm_r (some h)), (1, xm_i x1), (2, xm_i x2), (3, xm_i x3), (4, xm_i x4), (6, xm_i x6)] [] S) (h1 : wp_X12_hasConflict_175 h x1 x2 x4 x6 s0 S g Z18 Z89) : xm_W K 0 0 175 [(0, xm_r (some h)), (1, xm_i x1), (2, xm_i x2), (4, xm_i x4), (6, xm_i x6)] [xm_i s0] S := by
  unfold wp_X12_hasConflict_175 at h1
  refine x_istore_n (L' := [(3, xm_i s0), (0, xm_r (some h)), (1, xm_i x1), (2, xm_i x2), (4, xm_i x4), (6, xm_i x6)]) C dX12_hasConflict_175 rfl (by decide) rfl ?_
  obtain ⟨y1, e2⟩ : ∃ y1, y1 = (x6 + (1 : Int32)) := ⟨_, rfl⟩
  have h1 := h1 y1 e2
  refine x_iinc (v := y1) (L' := [(6, xm_i y1), (3, xm_i s0), (0, xm_r (some h)), (1, xm_i x1), (2, xm_i x2), (4, xm_i x4)]) C 5 dX12_hasConflict_176 rfl (by rw [e2]; rfl) (by decide) rfl ?_
  refine x_goto (tgt := 89) C dX12_hasConflict_179 (by decide) ?_
  refine x_keep (L' := [(0, xm_r (some h)), (1, xm_i x1), (2, xm_i x2), (3, xm_i s0), (4, xm_i x4), (6, xm_i y1)]) C [2, 3, 4, 1, 5, 0] rfl ?_
  exact hZ89 x1 x2 s0 x4 y1 S h1
def wp_X12_hasConflict_170 (h : Nat) (x1 : Int32) (x2 : Int32) (x4 : Int32) (x6 : Int32) (S : xm_S) (g : Int32 → xm_S → Prop) (Z18 : Int32 → Int32 → Int32 → Int32 → xm_S → Prop) (Z89 : Int32 → Int32 → Int32 → Int32 → Int32 → xm_S → Prop) : Prop :=
  wp_X12_hasConflict_175 h x1 x2 x4 x6 (1 : Int32) S g Z18 Z89
set_option maxRecDepth 100000 in
set_option maxHeartbeats 4000000 in
theorem kp_X12_hasConflict_170 {K : xm_K} (h : Nat) (x1 : Int32) (x2 : Int32) (x4 : Int32) (x6 : Int32) (S : xm_S) {g : Int32 → xm_S → Prop} {Z18 : Int32 → Int32 → Int32 → Int32 → xm_S → Prop} {Z89 : Int32 → Int32 → Int32 → Int32 → Int32 → xm_S → Prop} (C : xm_Cx K cX12_hasConflict RX12 8 (some (FieldType.boolean)) rm_X12_hasConflict) (N : xm_Nx K) (hg : ∀ v S, g v S → xm_q K (some (xm_i v)) S) (hZ18 : ∀ x1 x2 x3 x4 S, Z18 x1 x2 x3 x4 S → xm_W K 0 0 18 [(0, xm_r (some h)), (1, xm_i x1), (2, xm_i x2), (3, xm_i x3), (4, xm_i x4)] [] S) (hZ89 : ∀ x1 x2 x3 x4 x6 S, Z89 x1 x2 x3 x4 x6 S → xm_W K 0 0 89 [(0, xm_r (some h)), (1, xm_i x1), (2, xm_i x2), (3, xm_i x3), (4, xm_i x4), (6, xm_i x6)] [] S) (h1 : wp_X12_hasConflict_170 h x1 x2 x4 x6 S g Z18 Z89) : xm_W K 0 0 170 [(0, xm_r (some h)), (1, xm_i x1), (2, xm_i x2), (4, xm_i x4), (6, xm_i x6)] [] S := by
  unfold wp_X12_hasConflict_170 at h1
  refine x_iconst (v := (1 : Int32)) C dX12_hasConflict_170 (by decide) ?_
  refine x_goto (tgt := 175) C dX12_hasConflict_171 (by decide) ?_
  exact kp_X12_hasConflict_175 h x1 x2 x4 x6 (1 : Int32) S C N hg hZ18 hZ89 h1
def wp_X12_hasConflict_174 (h : Nat) (x1 : Int32) (x2 : Int32) (x4 : Int32) (x6 : Int32) (S : xm_S) (g : Int32 → xm_S → Prop) (Z18 : Int32 → Int32 → Int32 → Int32 → xm_S → Prop) (Z89 : Int32 → Int32 → Int32 → Int32 → Int32 → xm_S → Prop) : Prop :=
  wp_X12_hasConflict_175 h x1 x2 x4 x6 (0 : Int32) S g Z18 Z89
set_option maxRecDepth 100000 in
set_option maxHeartbeats 4000000 in
theorem kp_X12_hasConflict_174 {K : xm_K} (h : Nat) (x1 : Int32) (x2 : Int32) (x4 : Int32) (x6 : Int32) (S : xm_S) {g : Int32 → xm_S → Prop} {Z18 : Int32 → Int32 → Int32 → Int32 → xm_S → Prop} {Z89 : Int32 → Int32 → Int32 → Int32 → Int32 → xm_S → Prop} (C : xm_Cx K cX12_hasConflict RX12 8 (some (FieldType.boolean)) rm_X12_hasConflict) (N : xm_Nx K) (hg : ∀ v S, g v S → xm_q K (some (xm_i v)) S) (hZ18 : ∀ x1 x2 x3 x4 S, Z18 x1 x2 x3 x4 S → xm_W K 0 0 18 [(0, xm_r (some h)), (1, xm_i x1), (2, xm_i x2), (3, xm_i x3), (4, xm_i x4)] [] S) (hZ89 : ∀ x1 x2 x3 x4 x6 S, Z89 x1 x2 x3 x4 x6 S → xm_W K 0 0 89 [(0, xm_r (some h)), (1, xm_i x1), (2, xm_i x2), (3, xm_i x3), (4, xm_i x4), (6, xm_i x6)] [] S) (h1 : wp_X12_hasConflict_174 h x1 x2 x4 x6 S g Z18 Z89) : xm_W K 0 0 174 [(0, xm_r (some h)), (1, xm_i x1), (2, xm_i x2), (4, xm_i x4), (6, xm_i x6)] [] S := by
  unfold wp_X12_hasConflict_174 at h1
  refine x_iconst (v := (0 : Int32)) C dX12_hasConflict_174 (by decide) ?_
  exact kp_X12_hasConflict_175 h x1 x2 x4 x6 (0 : Int32) S C N hg hZ18 hZ89 h1
def wp_X12_hasConflict_123 (h : Nat) (x1 : Int32) (x2 : Int32) (x3 : Int32) (x4 : Int32) (x6 : Int32) (s0 : Int32) (S : xm_S) (g : Int32 → xm_S → Prop) (Z18 : Int32 → Int32 → Int32 → Int32 → xm_S → Prop) (Z89 : Int32 → Int32 → Int32 → Int32 → Int32 → xm_S → Prop) : Prop :=
  (¬ x3 = 0 → wp_X12_hasConflict_170 h x1 x2 x4 x6 S g Z18 Z89) ∧ (x3 = 0 → (x6 = x1 → wp_X12_hasConflict_174 h x1 x2 x4 x6 S g Z18 Z89) ∧ (¬ x6 = x1 → st_t S h = some (12, 0) ∧ ∃ n4, (st_r S h 33) = some n4 ∧ ∃ z7, st_t S n4 = some (100, z7) ∧ vp_in x6 z7 ∧ ((st_i S n4 (x6).toNatClampNeg) = (-1 : Int32) → wp_X12_hasConflict_174 h x1 x2 x4 x6 S g Z18 Z89) ∧ (¬ (st_i S n4 (x6).toNatClampNeg) = (-1 : Int32) → ∃ n9, (st_r S h 31) = some n9 ∧ ∃ z12, st_t S n9 = some (103, z12) ∧ vp_in ((nI 96) + x4) z12 ∧ ((lg_cmp (((st_l S n9 (((nI 96) + x4)).toNatClampNeg) >>> (((nI 2) * s0).toInt64 &&& 63)) &&& (3 : Int64)) (0 : Int64)) = 0 → wp_X12_hasConflict_174 h x1 x2 x4 x6 S g Z18 Z89) ∧ (¬ (lg_cmp (((st_l S n9 (((nI 96) + x4)).toNatClampNeg) >>> (((nI 2) * s0).toInt64 &&& 63)) &&& (3 : Int64)) (0 : Int64)) = 0 → wp_X12_hasConflict_170 h x1 x2 x4 x6 S g Z18 Z89))))
set_option maxRecDepth 100000 in
set_option maxHeartbeats 4000000 in
theorem kp_X12_hasConflict_123 {K : xm_K} (h : Nat) (x1 : Int32) (x2 : Int32) (x3 : Int32) (x4 : Int32) (x6 : Int32) (s0 : Int32) (S : xm_S) {g : Int32 → xm_S → Prop} {Z18 : Int32 → Int32 → Int32 → Int32 → xm_S → Prop} {Z89 : Int32 → Int32 → Int32 → Int32 → Int32 → xm_S → Prop} (C : xm_Cx K cX12_hasConflict RX12 8 (some (FieldType.boolean)) rm_X12_hasConflict) (N : xm_Nx K) (hg : ∀ v S, g v S → xm_q K (some (xm_i v)) S) (hZ18 : ∀ x1 x2 x3 x4 S, Z18 x1 x2 x3 x4 S → xm_W K 0 0 18 [(0, xm_r (some h)), (1, xm_i x1), (2, xm_i x2), (3, xm_i x3), (4, xm_i x4)] [] S) (hZ89 : ∀ x1 x2 x3 x4 x6 S, Z89 x1 x2 x3 x4 x6 S → xm_W K 0 0 89 [(0, xm_r (some h)), (1, xm_i x1), (2, xm_i x2), (3, xm_i x3), (4, xm_i x4), (6, xm_i x6)] [] S) (h1 : wp_X12_hasConflict_123 h x1 x2 x3 x4 x6 s0 S g Z18 Z89) : xm_W K 0 0 123 [(0, xm_r (some h)), (1, xm_i x1), (2, xm_i x2), (3, xm_i x3), (4, xm_i x4), (6, xm_i x6)] [xm_i s0] S := by
  unfold wp_X12_hasConflict_123 at h1
  refine x_istore (L' := [(7, xm_i s0), (0, xm_r (some h)), (1, xm_i x1), (2, xm_i x2), (3, xm_i x3), (4, xm_i x4), (6, xm_i x6)]) C dX12_hasConflict_123 (by decide) rfl ?_
  refine x_iload_n C 4 dX12_hasConflict_125 rfl rfl ?_
  refine x_if_ne (tgt := 170) C dX12_hasConflict_126 (by decide) (fun z9 => ?_) (fun z9 => ?_)
  · have h1 := h1.1 z9
    refine x_keep (L' := [(0, xm_r (some h)), (1, xm_i x1), (2, xm_i x2), (4, xm_i x4), (6, xm_i x6)]) C [1, 2, 3, 5, 6] rfl ?_
    exact kp_X12_hasConflict_170 h x1 x2 x4 x6 S C N hg hZ18 hZ89 h1
  · have h1 := h1.2 z9
    refine x_iload C 6 dX12_hasConflict_129 rfl ?_
    refine x_iload_n C 2 dX12_hasConflict_131 rfl rfl ?_
    refine x_icmp_eq (tgt := 174) C dX12_hasConflict_132 (by decide) (fun z9 => ?_) (fun z9 => ?_)
    · have h1 := h1.1 z9
      refine x_keep (L' := [(0, xm_r (some h)), (1, xm_i x1), (2, xm_i x2), (4, xm_i x4), (6, xm_i x6)]) C [1, 2, 3, 5, 6] rfl ?_
      exact kp_X12_hasConflict_174 h x1 x2 x4 x6 S C N hg hZ18 hZ89 h1
    · have h1 := h1.2 z9
      refine x_aload_n C 1 dX12_hasConflict_135 rfl rfl ?_
      obtain ⟨ht3, h1⟩ := h1
      refine x_getf_r (n := h) C rfl ht3 fd_174 (by decide) dX12_hasConflict_136 ?_
      refine x_iload C 6 dX12_hasConflict_139 rfl ?_
      obtain ⟨n4, hr5, h1⟩ := h1
      obtain ⟨z7, ht6, h1⟩ := h1
      obtain ⟨hi8, h1⟩ := h1
      refine x_iald (n := n4) C hr5 ht6 hi8 dX12_hasConflict_141 ?_
      refine x_iconst (v := (-1 : Int32)) C dX12_hasConflict_142 (by decide) ?_
      refine x_icmp_eq (tgt := 174) C dX12_hasConflict_143 (by decide) (fun z9 => ?_) (fun z9 => ?_)
      · have h1 := h1.1 z9
        refine x_keep (L' := [(0, xm_r (some h)), (1, xm_i x1), (2, xm_i x2), (4, xm_i x4), (6, xm_i x6)]) C [1, 2, 3, 5, 6] rfl ?_
        exact kp_X12_hasConflict_174 h x1 x2 x4 x6 S C N hg hZ18 hZ89 h1
      · have h1 := h1.2 z9
        refine x_aload_n C 1 dX12_hasConflict_146 rfl rfl ?_
        refine x_getf_r (n := h) C rfl ht3 fd_177 (by decide) dX12_hasConflict_147 ?_
        refine x_bipush (v := (nI 96)) C dX12_hasConflict_150 (by decide) ?_
        refine x_iload C 5 dX12_hasConflict_152 rfl ?_
        refine x_iadd C dX12_hasConflict_154 ?_
        obtain ⟨n9, hr10, h1⟩ := h1
        obtain ⟨z12, ht11, h1⟩ := h1
        obtain ⟨hi13, h1⟩ := h1
        refine x_lald (n := n9) C hr10 ht11 hi13 dX12_hasConflict_155 ?_
        refine x_iconst (v := (nI 2)) C dX12_hasConflict_156 (by decide) ?_
        refine x_iload C 0 dX12_hasConflict_157 rfl ?_
        refine x_imul C dX12_hasConflict_159 ?_
        refine x_lshr C dX12_hasConflict_160 ?_
        refine x_ldc2 (v := (3 : Int64)) C gw_618 dX12_hasConflict_161 ?_
        refine x_land C dX12_hasConflict_164 ?_
        refine x_lconst (v := (0 : Int64)) C dX12_hasConflict_165 (by decide) ?_
        refine x_lcmp C dX12_hasConflict_166 ?_
        refine x_if_eq (tgt := 174) C dX12_hasConflict_167 (by decide) (fun z9 => ?_) (fun z9 => ?_)
        · have h1 := h1.1 z9
          refine x_keep (L' := [(0, xm_r (some h)), (1, xm_i x1), (2, xm_i x2), (4, xm_i x4), (6, xm_i x6)]) C [1, 2, 3, 5, 6] rfl ?_
          exact kp_X12_hasConflict_174 h x1 x2 x4 x6 S C N hg hZ18 hZ89 h1
        · have h1 := h1.2 z9
          refine x_keep (L' := [(0, xm_r (some h)), (1, xm_i x1), (2, xm_i x2), (4, xm_i x4), (6, xm_i x6)]) C [1, 2, 3, 5, 6] rfl ?_
          exact kp_X12_hasConflict_170 h x1 x2 x4 x6 S C N hg hZ18 hZ89 h1
def wp_X12_hasConflict_89B (h : Nat) (x1 : Int32) (x2 : Int32) (x3 : Int32) (x4 : Int32) (x6 : Int32) (S : xm_S) (g : Int32 → xm_S → Prop) (Z18 : Int32 → Int32 → Int32 → Int32 → xm_S → Prop) (Z89 : Int32 → Int32 → Int32 → Int32 → Int32 → xm_S → Prop) : Prop :=
  ((nI 6) ≤ x6 → ∀ y14, y14 = (x4 + (1 : Int32)) → Z18 x1 x2 x3 y14 S) ∧ (¬ (nI 6) ≤ x6 → st_t S h = some (12, 0) ∧ ∃ n17, (st_r S h 33) = some n17 ∧ ∃ z20, st_t S n17 = some (100, z20) ∧ vp_in x6 z20 ∧ (¬ (st_i S n17 (x6).toNatClampNeg) = (-1 : Int32) → ∃ n22, (st_r S h 33) = some n22 ∧ ∃ z25, st_t S n22 = some (100, z25) ∧ vp_in x6 z25 ∧ wp_X12_hasConflict_123 h x1 x2 x3 x4 x6 (((nI 4) * x6) + (st_i S n22 (x6).toNatClampNeg)) S g Z18 Z89) ∧ ((st_i S n17 (x6).toNatClampNeg) = (-1 : Int32) → wp_X12_hasConflict_123 h x1 x2 x3 x4 x6 (0 : Int32) S g Z18 Z89))
def wp_X12_hasConflict_89 (h : Nat) (x1 : Int32) (x2 : Int32) (x3 : Int32) (x4 : Int32) (x6 : Int32) (S : xm_S) (g : Int32 → xm_S → Prop) (Z18 : Int32 → Int32 → Int32 → Int32 → xm_S → Prop) : Prop :=
  ∀ Z89 : Int32 → Int32 → Int32 → Int32 → Int32 → xm_S → Prop, (∀ x1 x2 x3 x4 x6 S, wp_X12_hasConflict_89B h x1 x2 x3 x4 x6 S g Z18 Z89 → Z89 x1 x2 x3 x4 x6 S) → Z89 x1 x2 x3 x4 x6 S
set_option maxRecDepth 100000 in
set_option maxHeartbeats 4000000 in
theorem kp_X12_hasConflict_89B {K : xm_K} (h : Nat) (x1 : Int32) (x2 : Int32) (x3 : Int32) (x4 : Int32) (x6 : Int32) (S : xm_S) {g : Int32 → xm_S → Prop} {Z18 : Int32 → Int32 → Int32 → Int32 → xm_S → Prop} {Z89 : Int32 → Int32 → Int32 → Int32 → Int32 → xm_S → Prop} (C : xm_Cx K cX12_hasConflict RX12 8 (some (FieldType.boolean)) rm_X12_hasConflict) (N : xm_Nx K) (hg : ∀ v S, g v S → xm_q K (some (xm_i v)) S) (hZ18 : ∀ x1 x2 x3 x4 S, Z18 x1 x2 x3 x4 S → xm_W K 0 0 18 [(0, xm_r (some h)), (1, xm_i x1), (2, xm_i x2), (3, xm_i x3), (4, xm_i x4)] [] S) (hZ89 : ∀ x1 x2 x3 x4 x6 S, Z89 x1 x2 x3 x4 x6 S → xm_W K 0 0 89 [(0, xm_r (some h)), (1, xm_i x1), (2, xm_i x2), (3, xm_i x3), (4, xm_i x4), (6, xm_i x6)] [] S) (h1 : wp_X12_hasConflict_89B h x1 x2 x3 x4 x6 S g Z18 Z89) : xm_W K 0 0 89 [(0, xm_r (some h)), (1, xm_i x1), (2, xm_i x2), (3, xm_i x3), (4, xm_i x4), (6, xm_i x6)] [] S := by
  unfold wp_X12_hasConflict_89B at h1
  refine x_iload C 5 dX12_hasConflict_89 rfl ?_
  refine x_bipush (v := (nI 6)) C dX12_hasConflict_91 (by decide) ?_
  refine x_icmp_ge (tgt := 182) C dX12_hasConflict_93 (by decide) (fun z9 => ?_) (fun z9 => ?_)
  · have h1 := h1.1 z9
    obtain ⟨y14, e15⟩ : ∃ y14, y14 = (x4 + (1 : Int32)) := ⟨_, rfl⟩
    have h1 := h1 y14 e15
    refine x_iinc (v := y14) (L' := [(4, xm_i y14), (0, xm_r (some h)), (1, xm_i x1), (2, xm_i x2), (3, xm_i x3), (6, xm_i x6)]) C 4 dX12_hasConflict_182 rfl (by rw [e15]; rfl) (by decide) rfl ?_
    refine x_goto (tgt := 18) C dX12_hasConflict_185 (by decide) ?_
    refine x_keep (L' := [(0, xm_r (some h)), (1, xm_i x1), (2, xm_i x2), (3, xm_i x3), (4, xm_i y14)]) C [1, 2, 3, 4, 0] rfl ?_
    exact hZ18 x1 x2 x3 y14 S h1
  · have h1 := h1.2 z9
    refine x_aload_n C 0 dX12_hasConflict_96 rfl rfl ?_
    obtain ⟨ht16, h1⟩ := h1
    refine x_getf_r (n := h) C rfl ht16 fd_174 (by decide) dX12_hasConflict_97 ?_
    refine x_iload C 5 dX12_hasConflict_100 rfl ?_
    obtain ⟨n17, hr18, h1⟩ := h1
    obtain ⟨z20, ht19, h1⟩ := h1
    obtain ⟨hi21, h1⟩ := h1
    refine x_iald (n := n17) C hr18 ht19 hi21 dX12_hasConflict_102 ?_
    refine x_iconst (v := (-1 : Int32)) C dX12_hasConflict_103 (by decide) ?_
    refine x_icmp_ne (tgt := 111) C dX12_hasConflict_104 (by decide) (fun z9 => ?_) (fun z9 => ?_)
    · have h1 := h1.1 z9
      refine x_iconst (v := (nI 4)) C dX12_hasConflict_111 (by decide) ?_
      refine x_iload C 5 dX12_hasConflict_112 rfl ?_
      refine x_imul C dX12_hasConflict_114 ?_
      refine x_aload_n C 0 dX12_hasConflict_115 rfl rfl ?_
      refine x_getf_r (n := h) C rfl ht16 fd_174 (by decide) dX12_hasConflict_116 ?_
      refine x_iload C 5 dX12_hasConflict_119 rfl ?_
      obtain ⟨n22, hr23, h1⟩ := h1
      obtain ⟨z25, ht24, h1⟩ := h1
      obtain ⟨hi26, h1⟩ := h1
      refine x_iald (n := n22) C hr23 ht24 hi26 dX12_hasConflict_121 ?_
      refine x_iadd C dX12_hasConflict_122 ?_
      exact kp_X12_hasConflict_123 h x1 x2 x3 x4 x6 (((nI 4) * x6) + (st_i S n22 (x6).toNatClampNeg)) S C N hg hZ18 hZ89 h1
    · have h1 := h1.2 z9
      refine x_iconst (v := (0 : Int32)) C dX12_hasConflict_107 (by decide) ?_
      refine x_goto (tgt := 123) C dX12_hasConflict_108 (by decide) ?_
      exact kp_X12_hasConflict_123 h x1 x2 x3 x4 x6 (0 : Int32) S C N hg hZ18 hZ89 h1
theorem kp_X12_hasConflict_89 {K : xm_K} (h : Nat) (x1 : Int32) (x2 : Int32) (x3 : Int32) (x4 : Int32) (x6 : Int32) (S : xm_S) {g : Int32 → xm_S → Prop} {Z18 : Int32 → Int32 → Int32 → Int32 → xm_S → Prop} (C : xm_Cx K cX12_hasConflict RX12 8 (some (FieldType.boolean)) rm_X12_hasConflict) (N : xm_Nx K) (hg : ∀ v S, g v S → xm_q K (some (xm_i v)) S) (hZ18 : ∀ x1 x2 x3 x4 S, Z18 x1 x2 x3 x4 S → xm_W K 0 0 18 [(0, xm_r (some h)), (1, xm_i x1), (2, xm_i x2), (3, xm_i x3), (4, xm_i x4)] [] S) (h1 : wp_X12_hasConflict_89 h x1 x2 x3 x4 x6 S g Z18) : xm_W K 0 0 89 [(0, xm_r (some h)), (1, xm_i x1), (2, xm_i x2), (3, xm_i x3), (4, xm_i x4), (6, xm_i x6)] [] S :=
  h1 (fun x1 x2 x3 x4 x6 S => xm_W K 0 0 89 [(0, xm_r (some h)), (1, xm_i x1), (2, xm_i x2), (3, xm_i x3), (4, xm_i x4), (6, xm_i x6)] [] S) (fun x1 x2 x3 x4 x6 S hb => kp_X12_hasConflict_89B h x1 x2 x3 x4 x6 S C N hg hZ18 (fun x1 x2 x3 x4 x6 S hz => hz) hb)
def wp_X12_hasConflict_85 (h : Nat) (x1 : Int32) (x2 : Int32) (x4 : Int32) (s0 : Int32) (S : xm_S) (g : Int32 → xm_S → Prop) (Z18 : Int32 → Int32 → Int32 → Int32 → xm_S → Prop) : Prop :=
  wp_X12_hasConflict_89 h x1 x2 s0 x4 (0 : Int32) S g Z18
set_option maxRecDepth 100000 in
set_option maxHeartbeats 4000000 in
theorem kp_X12_hasConflict_85 {K : xm_K} (h : Nat) (x1 : Int32) (x2 : Int32) (x4 : Int32) (s0 : Int32) (S : xm_S) {g : Int32 → xm_S → Prop} {Z18 : Int32 → Int32 → Int32 → Int32 → xm_S → Prop} (C : xm_Cx K cX12_hasConflict RX12 8 (some (FieldType.boolean)) rm_X12_hasConflict) (N : xm_Nx K) (hg : ∀ v S, g v S → xm_q K (some (xm_i v)) S) (hZ18 : ∀ x1 x2 x3 x4 S, Z18 x1 x2 x3 x4 S → xm_W K 0 0 18 [(0, xm_r (some h)), (1, xm_i x1), (2, xm_i x2), (3, xm_i x3), (4, xm_i x4)] [] S) (h1 : wp_X12_hasConflict_85 h x1 x2 x4 s0 S g Z18) : xm_W K 0 0 85 [(0, xm_r (some h)), (1, xm_i x1), (2, xm_i x2), (4, xm_i x4)] [xm_i s0] S := by
  unfold wp_X12_hasConflict_85 at h1
  refine x_istore_n (L' := [(3, xm_i s0), (0, xm_r (some h)), (1, xm_i x1), (2, xm_i x2), (4, xm_i x4)]) C dX12_hasConflict_85 rfl (by decide) rfl ?_
  refine x_iconst (v := (0 : Int32)) C dX12_hasConflict_86 (by decide) ?_
  refine x_istore (L' := [(6, xm_i (0 : Int32)), (3, xm_i s0), (0, xm_r (some h)), (1, xm_i x1), (2, xm_i x2), (4, xm_i x4)]) C dX12_hasConflict_87 (by decide) rfl ?_
  refine x_keep (L' := [(0, xm_r (some h)), (1, xm_i x1), (2, xm_i x2), (3, xm_i s0), (4, xm_i x4), (6, xm_i (0 : Int32))]) C [2, 3, 4, 1, 5, 0] rfl ?_
  exact kp_X12_hasConflict_89 h x1 x2 s0 x4 (0 : Int32) S C N hg hZ18 h1
def wp_X12_hasConflict_80 (h : Nat) (x1 : Int32) (x2 : Int32) (x4 : Int32) (S : xm_S) (g : Int32 → xm_S → Prop) (Z18 : Int32 → Int32 → Int32 → Int32 → xm_S → Prop) : Prop :=
  wp_X12_hasConflict_85 h x1 x2 x4 (1 : Int32) S g Z18
set_option maxRecDepth 100000 in
set_option maxHeartbeats 4000000 in
theorem kp_X12_hasConflict_80 {K : xm_K} (h : Nat) (x1 : Int32) (x2 : Int32) (x4 : Int32) (S : xm_S) {g : Int32 → xm_S → Prop} {Z18 : Int32 → Int32 → Int32 → Int32 → xm_S → Prop} (C : xm_Cx K cX12_hasConflict RX12 8 (some (FieldType.boolean)) rm_X12_hasConflict) (N : xm_Nx K) (hg : ∀ v S, g v S → xm_q K (some (xm_i v)) S) (hZ18 : ∀ x1 x2 x3 x4 S, Z18 x1 x2 x3 x4 S → xm_W K 0 0 18 [(0, xm_r (some h)), (1, xm_i x1), (2, xm_i x2), (3, xm_i x3), (4, xm_i x4)] [] S) (h1 : wp_X12_hasConflict_80 h x1 x2 x4 S g Z18) : xm_W K 0 0 80 [(0, xm_r (some h)), (1, xm_i x1), (2, xm_i x2), (4, xm_i x4)] [] S := by
  unfold wp_X12_hasConflict_80 at h1
  refine x_iconst (v := (1 : Int32)) C dX12_hasConflict_80 (by decide) ?_
  refine x_goto (tgt := 85) C dX12_hasConflict_81 (by decide) ?_
  exact kp_X12_hasConflict_85 h x1 x2 x4 (1 : Int32) S C N hg hZ18 h1
def wp_X12_hasConflict_84 (h : Nat) (x1 : Int32) (x2 : Int32) (x4 : Int32) (S : xm_S) (g : Int32 → xm_S → Prop) (Z18 : Int32 → Int32 → Int32 → Int32 → xm_S → Prop) : Prop :=
  wp_X12_hasConflict_85 h x1 x2 x4 (0 : Int32) S g Z18
set_option maxRecDepth 100000 in
set_option maxHeartbeats 4000000 in
theorem kp_X12_hasConflict_84 {K : xm_K} (h : Nat) (x1 : Int32) (x2 : Int32) (x4 : Int32) (S : xm_S) {g : Int32 → xm_S → Prop} {Z18 : Int32 → Int32 → Int32 → Int32 → xm_S → Prop} (C : xm_Cx K cX12_hasConflict RX12 8 (some (FieldType.boolean)) rm_X12_hasConflict) (N : xm_Nx K) (hg : ∀ v S, g v S → xm_q K (some (xm_i v)) S) (hZ18 : ∀ x1 x2 x3 x4 S, Z18 x1 x2 x3 x4 S → xm_W K 0 0 18 [(0, xm_r (some h)), (1, xm_i x1), (2, xm_i x2), (3, xm_i x3), (4, xm_i x4)] [] S) (h1 : wp_X12_hasConflict_84 h x1 x2 x4 S g Z18) : xm_W K 0 0 84 [(0, xm_r (some h)), (1, xm_i x1), (2, xm_i x2), (4, xm_i x4)] [] S := by
  unfold wp_X12_hasConflict_84 at h1
  refine x_iconst (v := (0 : Int32)) C dX12_hasConflict_84 (by decide) ?_
  exact kp_X12_hasConflict_85 h x1 x2 x4 (0 : Int32) S C N hg hZ18 h1
def wp_X12_hasConflict_18B (h : Nat) (x1 : Int32) (x2 : Int32) (x3 : Int32) (x4 : Int32) (S : xm_S) (g : Int32 → xm_S → Prop) (Z18 : Int32 → Int32 → Int32 → Int32 → xm_S → Prop) : Prop :=
  st_t S h = some (12, 0) ∧ ∃ n28, (st_r S h 13) = some n28 ∧ ∃ z31, st_t S n28 = some (100, z31) ∧ vp_in x2 z31 ∧ ((((nI 2) * x2) + (st_i S n28 (x2).toNatClampNeg)) ≤ x4 → (x3 = 0 ∨ x3 = 1) ∧ g x3 S) ∧ (¬ (((nI 2) * x2) + (st_i S n28 (x2).toNatClampNeg)) ≤ x4 → ∃ n33, (st_r S h 14) = some n33 ∧ ∃ z36, st_t S n33 = some (100, z36) ∧ vp_in x4 z36 ∧ ∀ y38, y38 = (st_i S n33 (x4).toNatClampNeg) → (¬ x3 = 0 → wp_X12_hasConflict_80 h x1 x2 x4 S g Z18) ∧ (x3 = 0 → ∃ n40, (st_r S h 33) = some n40 ∧ ∃ z43, st_t S n40 = some (100, z43) ∧ vp_in y38 z43 ∧ ((st_i S n40 (y38).toNatClampNeg) = (-1 : Int32) → wp_X12_hasConflict_84 h x1 x2 x4 S g Z18) ∧ (¬ (st_i S n40 (y38).toNatClampNeg) = (-1 : Int32) → ∃ n45, (st_r S h 30) = some n45 ∧ ∃ z48, st_t S n45 = some (100, z48) ∧ vp_in ((nI 96) + x4) z48 ∧ ∃ n50, (st_r S h 33) = some n50 ∧ ∃ z53, st_t S n50 = some (100, z53) ∧ vp_in y38 z53 ∧ wp_X12_isIn (st_i S n45 (((nI 96) + x4)).toNatClampNeg) (st_i S n50 (y38).toNatClampNeg) S (fun r56 S55 => (r56 = 0 → wp_X12_hasConflict_84 h x1 x2 x4 S55 g Z18) ∧ (¬ r56 = 0 → wp_X12_hasConflict_80 h x1 x2 x4 S55 g Z18)))))
def wp_X12_hasConflict_18 (h : Nat) (x1 : Int32) (x2 : Int32) (x3 : Int32) (x4 : Int32) (S : xm_S) (g : Int32 → xm_S → Prop) : Prop :=
  ∀ Z18 : Int32 → Int32 → Int32 → Int32 → xm_S → Prop, (∀ x1 x2 x3 x4 S, wp_X12_hasConflict_18B h x1 x2 x3 x4 S g Z18 → Z18 x1 x2 x3 x4 S) → Z18 x1 x2 x3 x4 S
set_option maxRecDepth 100000 in
set_option maxHeartbeats 4000000 in
theorem kp_X12_hasConflict_18B {K : xm_K} (h : Nat) (x1 : Int32) (x2 : Int32) (x3 : Int32) (x4 : Int32) (S : xm_S) {g : Int32 → xm_S → Prop} {Z18 : Int32 → Int32 → Int32 → Int32 → xm_S → Prop} (C : xm_Cx K cX12_hasConflict RX12 8 (some (FieldType.boolean)) rm_X12_hasConflict) (N : xm_Nx K) (hg : ∀ v S, g v S → xm_q K (some (xm_i v)) S) (hZ18 : ∀ x1 x2 x3 x4 S, Z18 x1 x2 x3 x4 S → xm_W K 0 0 18 [(0, xm_r (some h)), (1, xm_i x1), (2, xm_i x2), (3, xm_i x3), (4, xm_i x4)] [] S) (h1 : wp_X12_hasConflict_18B h x1 x2 x3 x4 S g Z18) : xm_W K 0 0 18 [(0, xm_r (some h)), (1, xm_i x1), (2, xm_i x2), (3, xm_i x3), (4, xm_i x4)] [] S := by
  unfold wp_X12_hasConflict_18B at h1
  refine x_iload C 4 dX12_hasConflict_18 rfl ?_
  refine x_iconst (v := (nI 2)) C dX12_hasConflict_20 (by decide) ?_
  refine x_iload_n C 2 dX12_hasConflict_21 rfl rfl ?_
  refine x_imul C dX12_hasConflict_22 ?_
  refine x_aload_n C 0 dX12_hasConflict_23 rfl rfl ?_
  obtain ⟨ht27, h1⟩ := h1
  refine x_getf_r (n := h) C rfl ht27 fd_178 (by decide) dX12_hasConflict_24 ?_
  refine x_iload_n C 2 dX12_hasConflict_27 rfl rfl ?_
  obtain ⟨n28, hr29, h1⟩ := h1
  obtain ⟨z31, ht30, h1⟩ := h1
  obtain ⟨hi32, h1⟩ := h1
  refine x_iald (n := n28) C hr29 ht30 hi32 dX12_hasConflict_28 ?_
  refine x_iadd C dX12_hasConflict_29 ?_
  refine x_icmp_ge (tgt := 188) C dX12_hasConflict_30 (by decide) (fun z9 => ?_) (fun z9 => ?_)
  · have h1 := h1.1 z9
    refine x_iload_n C 3 dX12_hasConflict_188 rfl rfl ?_
    exact x_zret C (Nat.le_of_ble_eq_true rfl) (Nat.le_of_ble_eq_true rfl) rfl h1.1 dX12_hasConflict_189 (hg _ _ h1.2)
  · have h1 := h1.2 z9
    refine x_aload_n C 0 dX12_hasConflict_33 rfl rfl ?_
    refine x_getf_r (n := h) C rfl ht27 fd_179 (by decide) dX12_hasConflict_34 ?_
    refine x_iload C 4 dX12_hasConflict_37 rfl ?_
    obtain ⟨n33, hr34, h1⟩ := h1
    obtain ⟨z36, ht35, h1⟩ := h1
    obtain ⟨hi37, h1⟩ := h1
    refine x_iald (n := n33) C hr34 ht35 hi37 dX12_hasConflict_39 ?_
    refine x_topi (fun y38 e39 => ?_)
    have h1 := h1 y38 e39
    refine x_istore (L' := [(5, xm_i y38), (0, xm_r (some h)), (1, xm_i x1), (2, xm_i x2), (3, xm_i x3), (4, xm_i x4)]) C dX12_hasConflict_40 (by decide) rfl ?_
    refine x_iload_n C 4 dX12_hasConflict_42 rfl rfl ?_
    refine x_if_ne (tgt := 80) C dX12_hasConflict_43 (by decide) (fun z9 => ?_) (fun z9 => ?_)
    · have h1 := h1.1 z9
      refine x_keep (L' := [(0, xm_r (some h)), (1, xm_i x1), (2, xm_i x2), (4, xm_i x4)]) C [1, 2, 3, 5] rfl ?_
      exact kp_X12_hasConflict_80 h x1 x2 x4 S C N hg hZ18 h1
    · have h1 := h1.2 z9
      refine x_aload_n C 1 dX12_hasConflict_46 rfl rfl ?_
      refine x_getf_r (n := h) C rfl ht27 fd_174 (by decide) dX12_hasConflict_47 ?_
      refine x_iload C 0 dX12_hasConflict_50 rfl ?_
      obtain ⟨n40, hr41, h1⟩ := h1
      obtain ⟨z43, ht42, h1⟩ := h1
      obtain ⟨hi44, h1⟩ := h1
      refine x_iald (n := n40) C hr41 ht42 hi44 dX12_hasConflict_52 ?_
      refine x_iconst (v := (-1 : Int32)) C dX12_hasConflict_53 (by decide) ?_
      refine x_icmp_eq (tgt := 84) C dX12_hasConflict_54 (by decide) (fun z9 => ?_) (fun z9 => ?_)
      · have h1 := h1.1 z9
        refine x_keep (L' := [(0, xm_r (some h)), (1, xm_i x1), (2, xm_i x2), (4, xm_i x4)]) C [1, 2, 3, 5] rfl ?_
        exact kp_X12_hasConflict_84 h x1 x2 x4 S C N hg hZ18 h1
      · have h1 := h1.2 z9
        refine x_aload_n C 1 dX12_hasConflict_57 rfl rfl ?_
        refine x_getf_r (n := h) C rfl ht27 fd_180 (by decide) dX12_hasConflict_58 ?_
        refine x_bipush (v := (nI 96)) C dX12_hasConflict_61 (by decide) ?_
        refine x_iload C 5 dX12_hasConflict_63 rfl ?_
        refine x_iadd C dX12_hasConflict_65 ?_
        obtain ⟨n45, hr46, h1⟩ := h1
        obtain ⟨z48, ht47, h1⟩ := h1
        obtain ⟨hi49, h1⟩ := h1
        refine x_iald (n := n45) C hr46 ht47 hi49 dX12_hasConflict_66 ?_
        refine x_aload_n C 1 dX12_hasConflict_67 rfl rfl ?_
        refine x_getf_r (n := h) C rfl ht27 fd_174 (by decide) dX12_hasConflict_68 ?_
        refine x_iload C 0 dX12_hasConflict_71 rfl ?_
        obtain ⟨n50, hr51, h1⟩ := h1
        obtain ⟨z53, ht52, h1⟩ := h1
        obtain ⟨hi54, h1⟩ := h1
        refine x_iald (n := n50) C hr51 ht52 hi54 dX12_hasConflict_73 ?_
        refine x_callS (rm' := rm_X12_isIn) C (kp_X12_isIn_met h1) lk_105 gw_624 rfl (Nat.le_of_ble_eq_true rfl) ⟨Nat.le_of_ble_eq_true rfl, Nat.le_of_ble_eq_true rfl, (Nat.le_of_ble_eq_true rfl), (Nat.le_of_ble_eq_true rfl)⟩ dX12_hasConflict_74 xm_kx (xm_ki (fun r56 S55 h1 => ?_))
        refine x_if_eq (tgt := 84) C dX12_hasConflict_77 (by decide) (fun z9 => ?_) (fun z9 => ?_)
        · have h1 := h1.1 z9
          refine x_keep (L' := [(0, xm_r (some h)), (1, xm_i x1), (2, xm_i x2), (4, xm_i x4)]) C [1, 2, 3, 5] rfl ?_
          exact kp_X12_hasConflict_84 h x1 x2 x4 S55 C N hg hZ18 h1
        · have h1 := h1.2 z9
          refine x_keep (L' := [(0, xm_r (some h)), (1, xm_i x1), (2, xm_i x2), (4, xm_i x4)]) C [1, 2, 3, 5] rfl ?_
          exact kp_X12_hasConflict_80 h x1 x2 x4 S55 C N hg hZ18 h1
theorem kp_X12_hasConflict_18 {K : xm_K} (h : Nat) (x1 : Int32) (x2 : Int32) (x3 : Int32) (x4 : Int32) (S : xm_S) {g : Int32 → xm_S → Prop} (C : xm_Cx K cX12_hasConflict RX12 8 (some (FieldType.boolean)) rm_X12_hasConflict) (N : xm_Nx K) (hg : ∀ v S, g v S → xm_q K (some (xm_i v)) S)  (h1 : wp_X12_hasConflict_18 h x1 x2 x3 x4 S g) : xm_W K 0 0 18 [(0, xm_r (some h)), (1, xm_i x1), (2, xm_i x2), (3, xm_i x3), (4, xm_i x4)] [] S :=
  h1 (fun x1 x2 x3 x4 S => xm_W K 0 0 18 [(0, xm_r (some h)), (1, xm_i x1), (2, xm_i x2), (3, xm_i x3), (4, xm_i x4)] [] S) (fun x1 x2 x3 x4 S hb => kp_X12_hasConflict_18B h x1 x2 x3 x4 S C N hg (fun x1 x2 x3 x4 S hz => hz) hb)
def wp_X12_hasConflict (h : Nat) (x1 : Int32) (S : xm_S) (g : Int32 → xm_S → Prop) : Prop :=
  st_t S h = some (12, 0) ∧ ∃ n58, (st_r S h 33) = some n58 ∧ ∃ z61, st_t S n58 = some (100, z61) ∧ vp_in x1 z61 ∧ ∀ y63, y63 = (((nI 4) * x1) + (st_i S n58 (x1).toNatClampNeg)) → ∀ y65, y65 = ((nI 2) * y63) → wp_X12_hasConflict_18 h x1 y63 (0 : Int32) y65 S g
set_option maxRecDepth 100000 in
set_option maxHeartbeats 4000000 in
theorem kp_X12_hasConflict {K : xm_K} (h : Nat) (x1 : Int32) (S : xm_S) {g : Int32 → xm_S → Prop} (C : xm_Cx K cX12_hasConflict RX12 8 (some (FieldType.boolean)) rm_X12_hasConflict) (N : xm_Nx K) (hg : ∀ v S, g v S → xm_q K (some (xm_i v)) S)  (h1 : wp_X12_hasConflict h x1 S g) : xm_W K 0 0 0 [(0, xm_r (some h)), (1, xm_i x1)] [] S := by
  unfold wp_X12_hasConflict at h1
  refine x_iconst (v := (nI 4)) C dX12_hasConflict_0 (by decide) ?_
  refine x_iload_n C 1 dX12_hasConflict_1 rfl rfl ?_
  refine x_imul C dX12_hasConflict_2 ?_
  refine x_aload_n C 0 dX12_hasConflict_3 rfl rfl ?_
  obtain ⟨ht57, h1⟩ := h1
  refine x_getf_r (n := h) C rfl ht57 fd_174 (by decide) dX12_hasConflict_4 ?_
  refine x_iload_n C 1 dX12_hasConflict_7 rfl rfl ?_
  obtain ⟨n58, hr59, h1⟩ := h1
  obtain ⟨z61, ht60, h1⟩ := h1
  obtain ⟨hi62, h1⟩ := h1
  refine x_iald (n := n58) C hr59 ht60 hi62 dX12_hasConflict_8 ?_
  refine x_iadd C dX12_hasConflict_9 ?_
  refine x_topi (fun y63 e64 => ?_)
  have h1 := h1 y63 e64
  refine x_istore_n (L' := [(2, xm_i y63), (0, xm_r (some h)), (1, xm_i x1)]) C dX12_hasConflict_10 rfl (by decide) rfl ?_
  refine x_iconst (v := (0 : Int32)) C dX12_hasConflict_11 (by decide) ?_
  refine x_istore_n (L' := [(3, xm_i (0 : Int32)), (2, xm_i y63), (0, xm_r (some h)), (1, xm_i x1)]) C dX12_hasConflict_12 rfl (by decide) rfl ?_
  refine x_iconst (v := (nI 2)) C dX12_hasConflict_13 (by decide) ?_
  refine x_iload_n C 1 dX12_hasConflict_14 rfl rfl ?_
  refine x_imul C dX12_hasConflict_15 ?_
  refine x_topi (fun y65 e66 => ?_)
  have h1 := h1 y65 e66
  refine x_istore (L' := [(4, xm_i y65), (3, xm_i (0 : Int32)), (2, xm_i y63), (0, xm_r (some h)), (1, xm_i x1)]) C dX12_hasConflict_16 (by decide) rfl ?_
  refine x_keep (L' := [(0, xm_r (some h)), (1, xm_i x1), (2, xm_i y63), (3, xm_i (0 : Int32)), (4, xm_i y65)]) C [3, 4, 2, 1, 0] rfl ?_
  exact kp_X12_hasConflict_18 h x1 y63 (0 : Int32) y65 S C N hg  h1
theorem kp_X12_hasConflict_met {h : Nat} {x1 : Int32} {S : xm_S} {g : Int32 → xm_S → Prop}  (h1 : wp_X12_hasConflict h x1 S g) : xm_Met yX12_hasConflict cX12_hasConflict 8 (some (FieldType.boolean)) rm_X12_hasConflict [xm_r (some h), xm_i x1] S (xm_qi g) xm_nox :=
  xm_ofW RX12 (by decide +kernel) rfl (Nat.le_of_ble_eq_true rfl) (fun K C N hq hx hi => kp_X12_hasConflict h x1 S C N (fun v S h => by rw [hq]; exact ⟨v, rfl, h⟩)  h1)
def rm_X12_isActive : Room := { frames := 2, cells := 0, slots := 0, locals := 41 }
theorem dX12_isActive_0 : decode cX12_isActive 0 = .ok (.aload_n 0, 1) := by decide +kernel
theorem dX12_isActive_1 : decode cX12_isActive 1 = .ok (.getfield 41, 3) := by decide +kernel
theorem dX12_isActive_4 : decode cX12_isActive 4 = .ok (.iload_n 1, 1) := by decide +kernel
theorem dX12_isActive_5 : decode cX12_isActive 5 = .ok (.iaload, 1) := by decide +kernel
theorem dX12_isActive_6 : decode cX12_isActive 6 = .ok (.iload_n 3, 1) := by decide +kernel
theorem dX12_isActive_7 : decode cX12_isActive 7 = .ok (.invokestatic 264, 3) := by decide +kernel
theorem dX12_isActive_10 : decode cX12_isActive 10 = .ok (.ifCond .eq 33, 3) := by decide +kernel
theorem dX12_isActive_13 : decode cX12_isActive 13 = .ok (.aload_n 0, 1) := by decide +kernel
theorem dX12_isActive_14 : decode cX12_isActive 14 = .ok (.getfield 44, 3) := by decide +kernel
theorem dX12_isActive_17 : decode cX12_isActive 17 = .ok (.iload_n 1, 1) := by decide +kernel
theorem dX12_isActive_18 : decode cX12_isActive 18 = .ok (.iaload, 1) := by decide +kernel
theorem dX12_isActive_19 : decode cX12_isActive 19 = .ok (.iconst (-1), 1) := by decide +kernel
theorem dX12_isActive_20 : decode cX12_isActive 20 = .ok (.if_icmp .eq 19, 3) := by decide +kernel
theorem dX12_isActive_23 : decode cX12_isActive 23 = .ok (.aload_n 0, 1) := by decide +kernel
theorem dX12_isActive_24 : decode cX12_isActive 24 = .ok (.getfield 106, 3) := by decide +kernel
theorem dX12_isActive_27 : decode cX12_isActive 27 = .ok (.iload_n 2, 1) := by decide +kernel
theorem dX12_isActive_28 : decode cX12_isActive 28 = .ok (.iaload, 1) := by decide +kernel
theorem dX12_isActive_29 : decode cX12_isActive 29 = .ok (.aload_n 0, 1) := by decide +kernel
theorem dX12_isActive_30 : decode cX12_isActive 30 = .ok (.getfield 44, 3) := by decide +kernel
theorem dX12_isActive_33 : decode cX12_isActive 33 = .ok (.iload_n 1, 1) := by decide +kernel
theorem dX12_isActive_34 : decode cX12_isActive 34 = .ok (.iaload, 1) := by decide +kernel
theorem dX12_isActive_35 : decode cX12_isActive 35 = .ok (.iand, 1) := by decide +kernel
theorem dX12_isActive_36 : decode cX12_isActive 36 = .ok (.ifCond .eq 7, 3) := by decide +kernel
theorem dX12_isActive_39 : decode cX12_isActive 39 = .ok (.iconst 1, 1) := by decide +kernel
theorem dX12_isActive_40 : decode cX12_isActive 40 = .ok (.goto 4, 3) := by decide +kernel
theorem dX12_isActive_43 : decode cX12_isActive 43 = .ok (.iconst 0, 1) := by decide +kernel
theorem dX12_isActive_44 : decode cX12_isActive 44 = .ok (.ireturn, 1) := by decide +kernel
def wp_X12_isActive_44 (h : Nat) (s0 : Int32) (S : xm_S) (g : Int32 → xm_S → Prop) : Prop :=
  (s0 = 0 ∨ s0 = 1) ∧ g s0 S
set_option maxRecDepth 100000 in
set_option maxHeartbeats 4000000 in
theorem kp_X12_isActive_44 {K : xm_K} (h : Nat) (s0 : Int32) (S : xm_S) {g : Int32 → xm_S → Prop} (C : xm_Cx K cX12_isActive RX12 4 (some (FieldType.boolean)) rm_X12_isActive) (N : xm_Nx K) (hg : ∀ v S, g v S → xm_q K (some (xm_i v)) S)  (h1 : wp_X12_isActive_44 h s0 S g) : xm_W K 0 0 44 [] [xm_i s0] S := by
  unfold wp_X12_isActive_44 at h1
  exact x_zret C (Nat.le_of_ble_eq_true rfl) (Nat.le_of_ble_eq_true rfl) rfl h1.1 dX12_isActive_44 (hg _ _ h1.2)
def wp_X12_isActive_43 (h : Nat)  (S : xm_S) (g : Int32 → xm_S → Prop) : Prop :=
  wp_X12_isActive_44 h (0 : Int32) S g
set_option maxRecDepth 100000 in
set_option maxHeartbeats 4000000 in
theorem kp_X12_isActive_43 {K : xm_K} (h : Nat)  (S : xm_S) {g : Int32 → xm_S → Prop} (C : xm_Cx K cX12_isActive RX12 4 (some (FieldType.boolean)) rm_X12_isActive) (N : xm_Nx K) (hg : ∀ v S, g v S → xm_q K (some (xm_i v)) S)  (h1 : wp_X12_isActive_43 h  S g) : xm_W K 0 0 43 [] [] S := by
  unfold wp_X12_isActive_43 at h1
  refine x_iconst (v := (0 : Int32)) C dX12_isActive_43 (by decide) ?_
  exact kp_X12_isActive_44 h (0 : Int32) S C N hg  h1
def wp_X12_isActive_39 (h : Nat)  (S : xm_S) (g : Int32 → xm_S → Prop) : Prop :=
  wp_X12_isActive_44 h (1 : Int32) S g
set_option maxRecDepth 100000 in
set_option maxHeartbeats 4000000 in
theorem kp_X12_isActive_39 {K : xm_K} (h : Nat)  (S : xm_S) {g : Int32 → xm_S → Prop} (C : xm_Cx K cX12_isActive RX12 4 (some (FieldType.boolean)) rm_X12_isActive) (N : xm_Nx K) (hg : ∀ v S, g v S → xm_q K (some (xm_i v)) S)  (h1 : wp_X12_isActive_39 h  S g) : xm_W K 0 0 39 [] [] S := by
  unfold wp_X12_isActive_39 at h1
  refine x_iconst (v := (1 : Int32)) C dX12_isActive_39 (by decide) ?_
  refine x_goto (tgt := 44) C dX12_isActive_40 (by decide) ?_
  exact kp_X12_isActive_44 h (1 : Int32) S C N hg  h1
def wp_X12_isActive (h : Nat) (x1 : Int32) (x2 : Int32) (x3 : Int32) (S : xm_S) (g : Int32 → xm_S → Prop) : Prop :=
  st_t S h = some (12, 0) ∧ ∃ n2, (st_r S h 11) = some n2 ∧ ∃ z5, st_t S n2 = some (100, z5) ∧ vp_in x1 z5 ∧ wp_X12_isIn (st_i S n2 (x1).toNatClampNeg) x3 S (fun r8 S7 => (r8 = 0 → wp_X12_isActive_43 h S7 g) ∧ (¬ r8 = 0 → st_t S7 h = some (12, 0) ∧ ∃ n10, (st_r S7 h 12) = some n10 ∧ ∃ z13, st_t S7 n10 = some (100, z13) ∧ vp_in x1 z13 ∧ ((st_i S7 n10 (x1).toNatClampNeg) = (-1 : Int32) → wp_X12_isActive_39 h S7 g) ∧ (¬ (st_i S7 n10 (x1).toNatClampNeg) = (-1 : Int32) → ∃ n15, (st_r S7 h 34) = some n15 ∧ ∃ z18, st_t S7 n15 = some (100, z18) ∧ vp_in x2 z18 ∧ ∃ n20, (st_r S7 h 12) = some n20 ∧ ∃ z23, st_t S7 n20 = some (100, z23) ∧ vp_in x1 z23 ∧ (((st_i S7 n15 (x2).toNatClampNeg) &&& (st_i S7 n20 (x1).toNatClampNeg)) = 0 → wp_X12_isActive_43 h S7 g) ∧ (¬ ((st_i S7 n15 (x2).toNatClampNeg) &&& (st_i S7 n20 (x1).toNatClampNeg)) = 0 → wp_X12_isActive_39 h S7 g))))
set_option maxRecDepth 100000 in
set_option maxHeartbeats 4000000 in
theorem kp_X12_isActive {K : xm_K} (h : Nat) (x1 : Int32) (x2 : Int32) (x3 : Int32) (S : xm_S) {g : Int32 → xm_S → Prop} (C : xm_Cx K cX12_isActive RX12 4 (some (FieldType.boolean)) rm_X12_isActive) (N : xm_Nx K) (hg : ∀ v S, g v S → xm_q K (some (xm_i v)) S)  (h1 : wp_X12_isActive h x1 x2 x3 S g) : xm_W K 0 0 0 [(0, xm_r (some h)), (1, xm_i x1), (2, xm_i x2), (3, xm_i x3)] [] S := by
  unfold wp_X12_isActive at h1
  refine x_aload_n C 0 dX12_isActive_0 rfl rfl ?_
  obtain ⟨ht1, h1⟩ := h1
  refine x_getf_r (n := h) C rfl ht1 fd_181 (by decide) dX12_isActive_1 ?_
  refine x_iload_n C 1 dX12_isActive_4 rfl rfl ?_
  obtain ⟨n2, hr3, h1⟩ := h1
  obtain ⟨z5, ht4, h1⟩ := h1
  obtain ⟨hi6, h1⟩ := h1
  refine x_iald (n := n2) C hr3 ht4 hi6 dX12_isActive_5 ?_
  refine x_iload_n C 3 dX12_isActive_6 rfl rfl ?_
  refine x_callS (rm' := rm_X12_isIn) C (kp_X12_isIn_met h1) lk_105 gw_624 rfl (Nat.le_of_ble_eq_true rfl) ⟨Nat.le_of_ble_eq_true rfl, Nat.le_of_ble_eq_true rfl, (Nat.le_of_ble_eq_true rfl), (Nat.le_of_ble_eq_true rfl)⟩ dX12_isActive_7 xm_kx (xm_ki (fun r8 S7 h1 => ?_))
  refine x_if_eq (tgt := 43) C dX12_isActive_10 (by decide) (fun z9 => ?_) (fun z9 => ?_)
  · have h1 := h1.1 z9
    refine x_keep (L' := []) C [] rfl ?_
    exact kp_X12_isActive_43 h S7 C N hg  h1
  · have h1 := h1.2 z9
    refine x_aload_n C 0 dX12_isActive_13 rfl rfl ?_
    obtain ⟨ht9, h1⟩ := h1
    refine x_getf_r (n := h) C rfl ht9 fd_182 (by decide) dX12_isActive_14 ?_
    refine x_iload_n C 1 dX12_isActive_17 rfl rfl ?_
    obtain ⟨n10, hr11, h1⟩ := h1
    obtain ⟨z13, ht12, h1⟩ := h1
    obtain ⟨hi14, h1⟩ := h1
    refine x_iald (n := n10) C hr11 ht12 hi14 dX12_isActive_18 ?_
    refine x_iconst (v := (-1 : Int32)) C dX12_isActive_19 (by decide) ?_
    refine x_icmp_eq (tgt := 39) C dX12_isActive_20 (by decide) (fun z9 => ?_) (fun z9 => ?_)
    · have h1 := h1.1 z9
      refine x_keep (L' := []) C [] rfl ?_
      exact kp_X12_isActive_39 h S7 C N hg  h1
    · have h1 := h1.2 z9
      refine x_aload_n C 0 dX12_isActive_23 rfl rfl ?_
      refine x_getf_r (n := h) C rfl ht9 fd_173 (by decide) dX12_isActive_24 ?_
      refine x_iload_n C 2 dX12_isActive_27 rfl rfl ?_
      obtain ⟨n15, hr16, h1⟩ := h1
      obtain ⟨z18, ht17, h1⟩ := h1
      obtain ⟨hi19, h1⟩ := h1
      refine x_iald (n := n15) C hr16 ht17 hi19 dX12_isActive_28 ?_
      refine x_aload_n C 0 dX12_isActive_29 rfl rfl ?_
      refine x_getf_r (n := h) C rfl ht9 fd_182 (by decide) dX12_isActive_30 ?_
      refine x_iload_n C 1 dX12_isActive_33 rfl rfl ?_
      obtain ⟨n20, hr21, h1⟩ := h1
      obtain ⟨z23, ht22, h1⟩ := h1
      obtain ⟨hi24, h1⟩ := h1
      refine x_iald (n := n20) C hr21 ht22 hi24 dX12_isActive_34 ?_
      refine x_iand C dX12_isActive_35 ?_
      refine x_if_eq (tgt := 43) C dX12_isActive_36 (by decide) (fun z9 => ?_) (fun z9 => ?_)
      · have h1 := h1.1 z9
        refine x_keep (L' := []) C [] rfl ?_
        exact kp_X12_isActive_43 h S7 C N hg  h1
      · have h1 := h1.2 z9
        refine x_keep (L' := []) C [] rfl ?_
        exact kp_X12_isActive_39 h S7 C N hg  h1
theorem kp_X12_isActive_met {h : Nat} {x1 : Int32} {x2 : Int32} {x3 : Int32} {S : xm_S} {g : Int32 → xm_S → Prop}  (h1 : wp_X12_isActive h x1 x2 x3 S g) : xm_Met yX12_isActive cX12_isActive 4 (some (FieldType.boolean)) rm_X12_isActive [xm_r (some h), xm_i x1, xm_i x2, xm_i x3] S (xm_qi g) xm_nox :=
  xm_ofW RX12 (by decide +kernel) rfl (Nat.le_of_ble_eq_true rfl) (fun K C N hq hx hi => kp_X12_isActive h x1 x2 x3 S C N (fun v S h => by rw [hq]; exact ⟨v, rfl, h⟩)  h1)
def rm_X12_meeters : Room := { frames := 2, cells := 0, slots := 0, locals := 41 }
theorem dX12_meeters_0 : decode cX12_meeters 0 = .ok (.iconst 0, 1) := by decide +kernel
theorem dX12_meeters_1 : decode cX12_meeters 1 = .ok (.istore 4, 2) := by decide +kernel
theorem dX12_meeters_3 : decode cX12_meeters 3 = .ok (.aload_n 0, 1) := by decide +kernel
theorem dX12_meeters_4 : decode cX12_meeters 4 = .ok (.getfield 103, 3) := by decide +kernel
theorem dX12_meeters_7 : decode cX12_meeters 7 = .ok (.iload_n 2, 1) := by decide +kernel
theorem dX12_meeters_8 : decode cX12_meeters 8 = .ok (.iaload, 1) := by decide +kernel
theorem dX12_meeters_9 : decode cX12_meeters 9 = .ok (.istore 5, 2) := by decide +kernel
theorem dX12_meeters_11 : decode cX12_meeters 11 = .ok (.iload 5, 2) := by decide +kernel
theorem dX12_meeters_13 : decode cX12_meeters 13 = .ok (.iconst (-1), 1) := by decide +kernel
theorem dX12_meeters_14 : decode cX12_meeters 14 = .ok (.if_icmp .eq 42, 3) := by decide +kernel
theorem dX12_meeters_17 : decode cX12_meeters 17 = .ok (.aload_n 0, 1) := by decide +kernel
theorem dX12_meeters_18 : decode cX12_meeters 18 = .ok (.getfield 93, 3) := by decide +kernel
theorem dX12_meeters_21 : decode cX12_meeters 21 = .ok (.iload_n 1, 1) := by decide +kernel
theorem dX12_meeters_22 : decode cX12_meeters 22 = .ok (.iaload, 1) := by decide +kernel
theorem dX12_meeters_23 : decode cX12_meeters 23 = .ok (.iload 5, 2) := by decide +kernel
theorem dX12_meeters_25 : decode cX12_meeters 25 = .ok (.invokestatic 264, 3) := by decide +kernel
theorem dX12_meeters_28 : decode cX12_meeters 28 = .ok (.ifCond .eq 28, 3) := by decide +kernel
theorem dX12_meeters_31 : decode cX12_meeters 31 = .ok (.aload_n 0, 1) := by decide +kernel
theorem dX12_meeters_32 : decode cX12_meeters 32 = .ok (.getfield 19, 3) := by decide +kernel
theorem dX12_meeters_35 : decode cX12_meeters 35 = .ok (.iconst 4, 1) := by decide +kernel
theorem dX12_meeters_36 : decode cX12_meeters 36 = .ok (.iload_n 2, 1) := by decide +kernel
theorem dX12_meeters_37 : decode cX12_meeters 37 = .ok (.imul, 1) := by decide +kernel
theorem dX12_meeters_38 : decode cX12_meeters 38 = .ok (.iload 5, 2) := by decide +kernel
theorem dX12_meeters_40 : decode cX12_meeters 40 = .ok (.iadd, 1) := by decide +kernel
theorem dX12_meeters_41 : decode cX12_meeters 41 = .ok (.iaload, 1) := by decide +kernel
theorem dX12_meeters_42 : decode cX12_meeters 42 = .ok (.iload_n 3, 1) := by decide +kernel
theorem dX12_meeters_43 : decode cX12_meeters 43 = .ok (.iand, 1) := by decide +kernel
theorem dX12_meeters_44 : decode cX12_meeters 44 = .ok (.iload_n 3, 1) := by decide +kernel
theorem dX12_meeters_45 : decode cX12_meeters 45 = .ok (.if_icmp .ne 11, 3) := by decide +kernel
theorem dX12_meeters_48 : decode cX12_meeters 48 = .ok (.iload 4, 2) := by decide +kernel
theorem dX12_meeters_50 : decode cX12_meeters 50 = .ok (.iconst 1, 1) := by decide +kernel
theorem dX12_meeters_51 : decode cX12_meeters 51 = .ok (.iload_n 2, 1) := by decide +kernel
theorem dX12_meeters_52 : decode cX12_meeters 52 = .ok (.ishl, 1) := by decide +kernel
theorem dX12_meeters_53 : decode cX12_meeters 53 = .ok (.ior, 1) := by decide +kernel
theorem dX12_meeters_54 : decode cX12_meeters 54 = .ok (.istore 4, 2) := by decide +kernel
theorem dX12_meeters_56 : decode cX12_meeters 56 = .ok (.iconst 0, 1) := by decide +kernel
theorem dX12_meeters_57 : decode cX12_meeters 57 = .ok (.istore 6, 2) := by decide +kernel
theorem dX12_meeters_59 : decode cX12_meeters 59 = .ok (.iload 6, 2) := by decide +kernel
theorem dX12_meeters_61 : decode cX12_meeters 61 = .ok (.bipush 6, 2) := by decide +kernel
theorem dX12_meeters_63 : decode cX12_meeters 63 = .ok (.if_icmp .ge 98, 3) := by decide +kernel
theorem dX12_meeters_66 : decode cX12_meeters 66 = .ok (.iload_n 3, 1) := by decide +kernel
theorem dX12_meeters_67 : decode cX12_meeters 67 = .ok (.ifCond .ne 94, 3) := by decide +kernel
theorem dX12_meeters_70 : decode cX12_meeters 70 = .ok (.aload_n 0, 1) := by decide +kernel
theorem dX12_meeters_71 : decode cX12_meeters 71 = .ok (.getfield 103, 3) := by decide +kernel
theorem dX12_meeters_74 : decode cX12_meeters 74 = .ok (.iload 6, 2) := by decide +kernel
theorem dX12_meeters_76 : decode cX12_meeters 76 = .ok (.iaload, 1) := by decide +kernel
theorem dX12_meeters_77 : decode cX12_meeters 77 = .ok (.iconst (-1), 1) := by decide +kernel
theorem dX12_meeters_78 : decode cX12_meeters 78 = .ok (.if_icmp .ne 7, 3) := by decide +kernel
theorem dX12_meeters_81 : decode cX12_meeters 81 = .ok (.iconst 0, 1) := by decide +kernel
theorem dX12_meeters_82 : decode cX12_meeters 82 = .ok (.goto 15, 3) := by decide +kernel
theorem dX12_meeters_85 : decode cX12_meeters 85 = .ok (.iconst 4, 1) := by decide +kernel
theorem dX12_meeters_86 : decode cX12_meeters 86 = .ok (.iload 6, 2) := by decide +kernel
theorem dX12_meeters_88 : decode cX12_meeters 88 = .ok (.imul, 1) := by decide +kernel
theorem dX12_meeters_89 : decode cX12_meeters 89 = .ok (.aload_n 0, 1) := by decide +kernel
theorem dX12_meeters_90 : decode cX12_meeters 90 = .ok (.getfield 103, 3) := by decide +kernel
theorem dX12_meeters_93 : decode cX12_meeters 93 = .ok (.iload 6, 2) := by decide +kernel
theorem dX12_meeters_95 : decode cX12_meeters 95 = .ok (.iaload, 1) := by decide +kernel
theorem dX12_meeters_96 : decode cX12_meeters 96 = .ok (.iadd, 1) := by decide +kernel
theorem dX12_meeters_97 : decode cX12_meeters 97 = .ok (.istore 7, 2) := by decide +kernel
theorem dX12_meeters_99 : decode cX12_meeters 99 = .ok (.aload_n 0, 1) := by decide +kernel
theorem dX12_meeters_100 : decode cX12_meeters 100 = .ok (.getfield 103, 3) := by decide +kernel
theorem dX12_meeters_103 : decode cX12_meeters 103 = .ok (.iload 6, 2) := by decide +kernel
theorem dX12_meeters_105 : decode cX12_meeters 105 = .ok (.iaload, 1) := by decide +kernel
theorem dX12_meeters_106 : decode cX12_meeters 106 = .ok (.iconst (-1), 1) := by decide +kernel
theorem dX12_meeters_107 : decode cX12_meeters 107 = .ok (.if_icmp .eq 27, 3) := by decide +kernel
theorem dX12_meeters_110 : decode cX12_meeters 110 = .ok (.aload_n 0, 1) := by decide +kernel
theorem dX12_meeters_111 : decode cX12_meeters 111 = .ok (.getfield 96, 3) := by decide +kernel
theorem dX12_meeters_114 : decode cX12_meeters 114 = .ok (.iload_n 1, 1) := by decide +kernel
theorem dX12_meeters_115 : decode cX12_meeters 115 = .ok (.laload, 1) := by decide +kernel
theorem dX12_meeters_116 : decode cX12_meeters 116 = .ok (.iconst 2, 1) := by decide +kernel
theorem dX12_meeters_117 : decode cX12_meeters 117 = .ok (.iload 7, 2) := by decide +kernel
theorem dX12_meeters_119 : decode cX12_meeters 119 = .ok (.imul, 1) := by decide +kernel
theorem dX12_meeters_120 : decode cX12_meeters 120 = .ok (.lshr, 1) := by decide +kernel
theorem dX12_meeters_121 : decode cX12_meeters 121 = .ok (.ldc2_w 267, 3) := by decide +kernel
theorem dX12_meeters_124 : decode cX12_meeters 124 = .ok (.land, 1) := by decide +kernel
theorem dX12_meeters_125 : decode cX12_meeters 125 = .ok (.lconst 0, 1) := by decide +kernel
theorem dX12_meeters_126 : decode cX12_meeters 126 = .ok (.lcmp, 1) := by decide +kernel
theorem dX12_meeters_127 : decode cX12_meeters 127 = .ok (.ifCond .eq 7, 3) := by decide +kernel
theorem dX12_meeters_130 : decode cX12_meeters 130 = .ok (.iconst 1, 1) := by decide +kernel
theorem dX12_meeters_131 : decode cX12_meeters 131 = .ok (.goto 4, 3) := by decide +kernel
theorem dX12_meeters_134 : decode cX12_meeters 134 = .ok (.iconst 0, 1) := by decide +kernel
theorem dX12_meeters_135 : decode cX12_meeters 135 = .ok (.istore 8, 2) := by decide +kernel
theorem dX12_meeters_137 : decode cX12_meeters 137 = .ok (.iload 4, 2) := by decide +kernel
theorem dX12_meeters_139 : decode cX12_meeters 139 = .ok (.iload 8, 2) := by decide +kernel
theorem dX12_meeters_141 : decode cX12_meeters 141 = .ok (.ifCond .eq 10, 3) := by decide +kernel
theorem dX12_meeters_144 : decode cX12_meeters 144 = .ok (.iconst 1, 1) := by decide +kernel
theorem dX12_meeters_145 : decode cX12_meeters 145 = .ok (.iload 6, 2) := by decide +kernel
theorem dX12_meeters_147 : decode cX12_meeters 147 = .ok (.ishl, 1) := by decide +kernel
theorem dX12_meeters_148 : decode cX12_meeters 148 = .ok (.goto 4, 3) := by decide +kernel
theorem dX12_meeters_151 : decode cX12_meeters 151 = .ok (.iconst 0, 1) := by decide +kernel
theorem dX12_meeters_152 : decode cX12_meeters 152 = .ok (.ior, 1) := by decide +kernel
theorem dX12_meeters_153 : decode cX12_meeters 153 = .ok (.istore 4, 2) := by decide +kernel
theorem dX12_meeters_155 : decode cX12_meeters 155 = .ok (.iinc 6 1, 3) := by decide +kernel
theorem dX12_meeters_158 : decode cX12_meeters 158 = .ok (.goto (-99), 3) := by decide +kernel
theorem dX12_meeters_161 : decode cX12_meeters 161 = .ok (.iload 4, 2) := by decide +kernel
theorem dX12_meeters_163 : decode cX12_meeters 163 = .ok (.ireturn, 1) := by decide +kernel
def wp_X12_meeters_161 (h : Nat) (x4 : Int32) (S : xm_S) (g : Int32 → xm_S → Prop) : Prop :=
  g x4 S
set_option maxRecDepth 100000 in
set_option maxHeartbeats 4000000 in
theorem kp_X12_meeters_161 {K : xm_K} (h : Nat) (x4 : Int32) (S : xm_S) {g : Int32 → xm_S → Prop} (C : xm_Cx K cX12_meeters RX12 9 (some (FieldType.int)) rm_X12_meeters) (N : xm_Nx K) (hg : ∀ v S, g v S → xm_q K (some (xm_i v)) S)  (h1 : wp_X12_meeters_161 h x4 S g) : xm_W K 0 0 161 [(4, xm_i x4)] [] S := by
  unfold wp_X12_meeters_161 at h1
  refine x_iload C 0 dX12_meeters_161 rfl ?_
  exact x_iret C (Nat.le_of_ble_eq_true rfl) (Nat.le_of_ble_eq_true rfl) rfl dX12_meeters_163 (hg _ _ h1)
def wp_X12_meeters_152 (h : Nat) (x1 : Int32) (x3 : Int32) (x6 : Int32) (s0 : Int32) (s1 : Int32) (S : xm_S) (g : Int32 → xm_S → Prop) (Z59 : Int32 → Int32 → Int32 → Int32 → xm_S → Prop) : Prop :=
  ∀ y1, y1 = (s1 ||| s0) → ∀ y3, y3 = (x6 + (1 : Int32)) → Z59 x1 x3 y1 y3 S
set_option maxRecDepth 100000 in
set_option maxHeartbeats 4000000 in
theorem kp_X12_meeters_152 {K : xm_K} (h : Nat) (x1 : Int32) (x3 : Int32) (x6 : Int32) (s0 : Int32) (s1 : Int32) (S : xm_S) {g : Int32 → xm_S → Prop} {Z59 : Int32 → Int32 → Int32 → Int32 → xm_S → Prop} (C : xm_Cx K cX12_meeters RX12 9 (some (FieldType.int)) rm_X12_meeters) (N : xm_Nx K) (hg : ∀ v S, g v S → xm_q K (some (xm_i v)) S) (hZ59 : ∀ x1 x3 x4 x6 S, Z59 x1 x3 x4 x6 S → xm_W K 0 0 59 [(0, xm_r (some h)), (1, xm_i x1), (3, xm_i x3), (4, xm_i x4), (6, xm_i x6)] [] S) (h1 : wp_X12_meeters_152 h x1 x3 x6 s0 s1 S g Z59) : xm_W K 0 0 152 [(0, xm_r (some h)), (1, xm_i x1), (3, xm_i x3), (6, xm_i x6)] [xm_i s0, xm_i s1] S := by
  unfold wp_X12_meeters_152 at h1
  refine x_ior C dX12_meeters_152 ?_
  refine x_topi (fun y1 e2 => ?_)
  have h1 := h1 y1 e2
  refine x_istore (L' := [(4, xm_i y1), (0, xm_r (some h)), (1, xm_i x1), (3, xm_i x3), (6, xm_i x6)]) C dX12_meeters_153 (by decide) rfl ?_
  obtain ⟨y3, e4⟩ : ∃ y3, y3 = (x6 + (1 : Int32)) := ⟨_, rfl⟩
  have h1 := h1 y3 e4
  refine x_iinc (v := y3) (L' := [(6, xm_i y3), (4, xm_i y1), (0, xm_r (some h)), (1, xm_i x1), (3, xm_i x3)]) C 4 dX12_meeters_155 rfl (by rw [e4]; rfl) (by decide) rfl ?_
  refine x_goto (tgt := 59) C dX12_meeters_158 (by decide) ?_
  refine x_keep (L' := [(0, xm_r (some h)), (1, xm_i x1), (3, xm_i x3), (4, xm_i y1), (6, xm_i y3)]) C [2, 3, 4, 1, 0] rfl ?_
  exact hZ59 x1 x3 y1 y3 S h1
def wp_X12_meeters_135 (h : Nat) (x1 : Int32) (x3 : Int32) (x4 : Int32) (x6 : Int32) (s0 : Int32) (S : xm_S) (g : Int32 → xm_S → Prop) (Z59 : Int32 → Int32 → Int32 → Int32 → xm_S → Prop) : Prop :=
  (s0 = 0 → wp_X12_meeters_152 h x1 x3 x6 (0 : Int32) x4 S g Z59) ∧ (¬ s0 = 0 → wp_X12_meeters_152 h x1 x3 x6 ((1 : Int32) <<< (x6 &&& 31)) x4 S g Z59)
set_option maxRecDepth 100000 in
set_option maxHeartbeats 4000000 in
theorem kp_X12_meeters_135 {K : xm_K} (h : Nat) (x1 : Int32) (x3 : Int32) (x4 : Int32) (x6 : Int32) (s0 : Int32) (S : xm_S) {g : Int32 → xm_S → Prop} {Z59 : Int32 → Int32 → Int32 → Int32 → xm_S → Prop} (C : xm_Cx K cX12_meeters RX12 9 (some (FieldType.int)) rm_X12_meeters) (N : xm_Nx K) (hg : ∀ v S, g v S → xm_q K (some (xm_i v)) S) (hZ59 : ∀ x1 x3 x4 x6 S, Z59 x1 x3 x4 x6 S → xm_W K 0 0 59 [(0, xm_r (some h)), (1, xm_i x1), (3, xm_i x3), (4, xm_i x4), (6, xm_i x6)] [] S) (h1 : wp_X12_meeters_135 h x1 x3 x4 x6 s0 S g Z59) : xm_W K 0 0 135 [(0, xm_r (some h)), (1, xm_i x1), (3, xm_i x3), (4, xm_i x4), (6, xm_i x6)] [xm_i s0] S := by
  unfold wp_X12_meeters_135 at h1
  refine x_istore (L' := [(8, xm_i s0), (0, xm_r (some h)), (1, xm_i x1), (3, xm_i x3), (4, xm_i x4), (6, xm_i x6)]) C dX12_meeters_135 (by decide) rfl ?_
  refine x_iload C 4 dX12_meeters_137 rfl ?_
  refine x_iload C 0 dX12_meeters_139 rfl ?_
  refine x_if_eq (tgt := 151) C dX12_meeters_141 (by decide) (fun z9 => ?_) (fun z9 => ?_)
  · have h1 := h1.1 z9
    refine x_iconst (v := (0 : Int32)) C dX12_meeters_151 (by decide) ?_
    refine x_keep (L' := [(0, xm_r (some h)), (1, xm_i x1), (3, xm_i x3), (6, xm_i x6)]) C [1, 2, 3, 5] rfl ?_
    exact kp_X12_meeters_152 h x1 x3 x6 (0 : Int32) x4 S C N hg hZ59 h1
  · have h1 := h1.2 z9
    refine x_iconst (v := (1 : Int32)) C dX12_meeters_144 (by decide) ?_
    refine x_iload C 5 dX12_meeters_145 rfl ?_
    refine x_ishl C dX12_meeters_147 ?_
    refine x_goto (tgt := 152) C dX12_meeters_148 (by decide) ?_
    refine x_keep (L' := [(0, xm_r (some h)), (1, xm_i x1), (3, xm_i x3), (6, xm_i x6)]) C [1, 2, 3, 5] rfl ?_
    exact kp_X12_meeters_152 h x1 x3 x6 ((1 : Int32) <<< (x6 &&& 31)) x4 S C N hg hZ59 h1
def wp_X12_meeters_134 (h : Nat) (x1 : Int32) (x3 : Int32) (x4 : Int32) (x6 : Int32) (S : xm_S) (g : Int32 → xm_S → Prop) (Z59 : Int32 → Int32 → Int32 → Int32 → xm_S → Prop) : Prop :=
  wp_X12_meeters_135 h x1 x3 x4 x6 (0 : Int32) S g Z59
set_option maxRecDepth 100000 in
set_option maxHeartbeats 4000000 in
theorem kp_X12_meeters_134 {K : xm_K} (h : Nat) (x1 : Int32) (x3 : Int32) (x4 : Int32) (x6 : Int32) (S : xm_S) {g : Int32 → xm_S → Prop} {Z59 : Int32 → Int32 → Int32 → Int32 → xm_S → Prop} (C : xm_Cx K cX12_meeters RX12 9 (some (FieldType.int)) rm_X12_meeters) (N : xm_Nx K) (hg : ∀ v S, g v S → xm_q K (some (xm_i v)) S) (hZ59 : ∀ x1 x3 x4 x6 S, Z59 x1 x3 x4 x6 S → xm_W K 0 0 59 [(0, xm_r (some h)), (1, xm_i x1), (3, xm_i x3), (4, xm_i x4), (6, xm_i x6)] [] S) (h1 : wp_X12_meeters_134 h x1 x3 x4 x6 S g Z59) : xm_W K 0 0 134 [(0, xm_r (some h)), (1, xm_i x1), (3, xm_i x3), (4, xm_i x4), (6, xm_i x6)] [] S := by
  unfold wp_X12_meeters_134 at h1
  refine x_iconst (v := (0 : Int32)) C dX12_meeters_134 (by decide) ?_
  exact kp_X12_meeters_135 h x1 x3 x4 x6 (0 : Int32) S C N hg hZ59 h1
def wp_X12_meeters_97 (h : Nat) (x1 : Int32) (x3 : Int32) (x4 : Int32) (x6 : Int32) (s0 : Int32) (S : xm_S) (g : Int32 → xm_S → Prop) (Z59 : Int32 → Int32 → Int32 → Int32 → xm_S → Prop) : Prop :=
  st_t S h = some (12, 0) ∧ ∃ n6, (st_r S h 33) = some n6 ∧ ∃ z9, st_t S n6 = some (100, z9) ∧ vp_in x6 z9 ∧ ((st_i S n6 (x6).toNatClampNeg) = (-1 : Int32) → wp_X12_meeters_134 h x1 x3 x4 x6 S g Z59) ∧ (¬ (st_i S n6 (x6).toNatClampNeg) = (-1 : Int32) → ∃ n11, (st_r S h 31) = some n11 ∧ ∃ z14, st_t S n11 = some (103, z14) ∧ vp_in x1 z14 ∧ ((lg_cmp (((st_l S n11 (x1).toNatClampNeg) >>> (((nI 2) * s0).toInt64 &&& 63)) &&& (3 : Int64)) (0 : Int64)) = 0 → wp_X12_meeters_134 h x1 x3 x4 x6 S g Z59) ∧ (¬ (lg_cmp (((st_l S n11 (x1).toNatClampNeg) >>> (((nI 2) * s0).toInt64 &&& 63)) &&& (3 : Int64)) (0 : Int64)) = 0 → wp_X12_meeters_135 h x1 x3 x4 x6 (1 : Int32) S g Z59))
set_option maxRecDepth 100000 in
set_option maxHeartbeats 4000000 in
theorem kp_X12_meeters_97 {K : xm_K} (h : Nat) (x1 : Int32) (x3 : Int32) (x4 : Int32) (x6 : Int32) (s0 : Int32) (S : xm_S) {g : Int32 → xm_S → Prop} {Z59 : Int32 → Int32 → Int32 → Int32 → xm_S → Prop} (C : xm_Cx K cX12_meeters RX12 9 (some (FieldType.int)) rm_X12_meeters) (N : xm_Nx K) (hg : ∀ v S, g v S → xm_q K (some (xm_i v)) S) (hZ59 : ∀ x1 x3 x4 x6 S, Z59 x1 x3 x4 x6 S → xm_W K 0 0 59 [(0, xm_r (some h)), (1, xm_i x1), (3, xm_i x3), (4, xm_i x4), (6, xm_i x6)] [] S) (h1 : wp_X12_meeters_97 h x1 x3 x4 x6 s0 S g Z59) : xm_W K 0 0 97 [(0, xm_r (some h)), (1, xm_i x1), (3, xm_i x3), (4, xm_i x4), (6, xm_i x6)] [xm_i s0] S := by
  unfold wp_X12_meeters_97 at h1
  refine x_istore (L' := [(7, xm_i s0), (0, xm_r (some h)), (1, xm_i x1), (3, xm_i x3), (4, xm_i x4), (6, xm_i x6)]) C dX12_meeters_97 (by decide) rfl ?_
  refine x_aload_n C 1 dX12_meeters_99 rfl rfl ?_
  obtain ⟨ht5, h1⟩ := h1
  refine x_getf_r (n := h) C rfl ht5 fd_174 (by decide) dX12_meeters_100 ?_
  refine x_iload C 5 dX12_meeters_103 rfl ?_
  obtain ⟨n6, hr7, h1⟩ := h1
  obtain ⟨z9, ht8, h1⟩ := h1
  obtain ⟨hi10, h1⟩ := h1
  refine x_iald (n := n6) C hr7 ht8 hi10 dX12_meeters_105 ?_
  refine x_iconst (v := (-1 : Int32)) C dX12_meeters_106 (by decide) ?_
  refine x_icmp_eq (tgt := 134) C dX12_meeters_107 (by decide) (fun z9 => ?_) (fun z9 => ?_)
  · have h1 := h1.1 z9
    refine x_keep (L' := [(0, xm_r (some h)), (1, xm_i x1), (3, xm_i x3), (4, xm_i x4), (6, xm_i x6)]) C [1, 2, 3, 4, 5] rfl ?_
    exact kp_X12_meeters_134 h x1 x3 x4 x6 S C N hg hZ59 h1
  · have h1 := h1.2 z9
    refine x_aload_n C 1 dX12_meeters_110 rfl rfl ?_
    refine x_getf_r (n := h) C rfl ht5 fd_177 (by decide) dX12_meeters_111 ?_
    refine x_iload_n C 2 dX12_meeters_114 rfl rfl ?_
    obtain ⟨n11, hr12, h1⟩ := h1
    obtain ⟨z14, ht13, h1⟩ := h1
    obtain ⟨hi15, h1⟩ := h1
    refine x_lald (n := n11) C hr12 ht13 hi15 dX12_meeters_115 ?_
    refine x_iconst (v := (nI 2)) C dX12_meeters_116 (by decide) ?_
    refine x_iload C 0 dX12_meeters_117 rfl ?_
    refine x_imul C dX12_meeters_119 ?_
    refine x_lshr C dX12_meeters_120 ?_
    refine x_ldc2 (v := (3 : Int64)) C gw_618 dX12_meeters_121 ?_
    refine x_land C dX12_meeters_124 ?_
    refine x_lconst (v := (0 : Int64)) C dX12_meeters_125 (by decide) ?_
    refine x_lcmp C dX12_meeters_126 ?_
    refine x_if_eq (tgt := 134) C dX12_meeters_127 (by decide) (fun z9 => ?_) (fun z9 => ?_)
    · have h1 := h1.1 z9
      refine x_keep (L' := [(0, xm_r (some h)), (1, xm_i x1), (3, xm_i x3), (4, xm_i x4), (6, xm_i x6)]) C [1, 2, 3, 4, 5] rfl ?_
      exact kp_X12_meeters_134 h x1 x3 x4 x6 S C N hg hZ59 h1
    · have h1 := h1.2 z9
      refine x_iconst (v := (1 : Int32)) C dX12_meeters_130 (by decide) ?_
      refine x_goto (tgt := 135) C dX12_meeters_131 (by decide) ?_
      refine x_keep (L' := [(0, xm_r (some h)), (1, xm_i x1), (3, xm_i x3), (4, xm_i x4), (6, xm_i x6)]) C [1, 2, 3, 4, 5] rfl ?_
      exact kp_X12_meeters_135 h x1 x3 x4 x6 (1 : Int32) S C N hg hZ59 h1
def wp_X12_meeters_59B (h : Nat) (x1 : Int32) (x3 : Int32) (x4 : Int32) (x6 : Int32) (S : xm_S) (g : Int32 → xm_S → Prop) (Z59 : Int32 → Int32 → Int32 → Int32 → xm_S → Prop) : Prop :=
  ((nI 6) ≤ x6 → wp_X12_meeters_161 h x4 S g) ∧ (¬ (nI 6) ≤ x6 → (¬ x3 = 0 → wp_X12_meeters_161 h x4 S g) ∧ (x3 = 0 → st_t S h = some (12, 0) ∧ ∃ n17, (st_r S h 33) = some n17 ∧ ∃ z20, st_t S n17 = some (100, z20) ∧ vp_in x6 z20 ∧ (¬ (st_i S n17 (x6).toNatClampNeg) = (-1 : Int32) → ∃ n22, (st_r S h 33) = some n22 ∧ ∃ z25, st_t S n22 = some (100, z25) ∧ vp_in x6 z25 ∧ wp_X12_meeters_97 h x1 x3 x4 x6 (((nI 4) * x6) + (st_i S n22 (x6).toNatClampNeg)) S g Z59) ∧ ((st_i S n17 (x6).toNatClampNeg) = (-1 : Int32) → wp_X12_meeters_97 h x1 x3 x4 x6 (0 : Int32) S g Z59)))
def wp_X12_meeters_59 (h : Nat) (x1 : Int32) (x3 : Int32) (x4 : Int32) (x6 : Int32) (S : xm_S) (g : Int32 → xm_S → Prop) : Prop :=
  ∀ Z59 : Int32 → Int32 → Int32 → Int32 → xm_S → Prop, (∀ x1 x3 x4 x6 S, wp_X12_meeters_59B h x1 x3 x4 x6 S g Z59 → Z59 x1 x3 x4 x6 S) → Z59 x1 x3 x4 x6 S
set_option maxRecDepth 100000 in
set_option maxHeartbeats 4000000 in
theorem kp_X12_meeters_59B {K : xm_K} (h : Nat) (x1 : Int32) (x3 : Int32) (x4 : Int32) (x6 : Int32) (S : xm_S) {g : Int32 → xm_S → Prop} {Z59 : Int32 → Int32 → Int32 → Int32 → xm_S → Prop} (C : xm_Cx K cX12_meeters RX12 9 (some (FieldType.int)) rm_X12_meeters) (N : xm_Nx K) (hg : ∀ v S, g v S → xm_q K (some (xm_i v)) S) (hZ59 : ∀ x1 x3 x4 x6 S, Z59 x1 x3 x4 x6 S → xm_W K 0 0 59 [(0, xm_r (some h)), (1, xm_i x1), (3, xm_i x3), (4, xm_i x4), (6, xm_i x6)] [] S) (h1 : wp_X12_meeters_59B h x1 x3 x4 x6 S g Z59) : xm_W K 0 0 59 [(0, xm_r (some h)), (1, xm_i x1), (3, xm_i x3), (4, xm_i x4), (6, xm_i x6)] [] S := by
  unfold wp_X12_meeters_59B at h1
  refine x_iload C 4 dX12_meeters_59 rfl ?_
  refine x_bipush (v := (nI 6)) C dX12_meeters_61 (by decide) ?_
  refine x_icmp_ge (tgt := 161) C dX12_meeters_63 (by decide) (fun z9 => ?_) (fun z9 => ?_)
  · have h1 := h1.1 z9
    refine x_keep (L' := [(4, xm_i x4)]) C [3] rfl ?_
    exact kp_X12_meeters_161 h x4 S C N hg  h1
  · have h1 := h1.2 z9
    refine x_iload_n C 2 dX12_meeters_66 rfl rfl ?_
    refine x_if_ne (tgt := 161) C dX12_meeters_67 (by decide) (fun z9 => ?_) (fun z9 => ?_)
    · have h1 := h1.1 z9
      refine x_keep (L' := [(4, xm_i x4)]) C [3] rfl ?_
      exact kp_X12_meeters_161 h x4 S C N hg  h1
    · have h1 := h1.2 z9
      refine x_aload_n C 0 dX12_meeters_70 rfl rfl ?_
      obtain ⟨ht16, h1⟩ := h1
      refine x_getf_r (n := h) C rfl ht16 fd_174 (by decide) dX12_meeters_71 ?_
      refine x_iload C 4 dX12_meeters_74 rfl ?_
      obtain ⟨n17, hr18, h1⟩ := h1
      obtain ⟨z20, ht19, h1⟩ := h1
      obtain ⟨hi21, h1⟩ := h1
      refine x_iald (n := n17) C hr18 ht19 hi21 dX12_meeters_76 ?_
      refine x_iconst (v := (-1 : Int32)) C dX12_meeters_77 (by decide) ?_
      refine x_icmp_ne (tgt := 85) C dX12_meeters_78 (by decide) (fun z9 => ?_) (fun z9 => ?_)
      · have h1 := h1.1 z9
        refine x_iconst (v := (nI 4)) C dX12_meeters_85 (by decide) ?_
        refine x_iload C 4 dX12_meeters_86 rfl ?_
        refine x_imul C dX12_meeters_88 ?_
        refine x_aload_n C 0 dX12_meeters_89 rfl rfl ?_
        refine x_getf_r (n := h) C rfl ht16 fd_174 (by decide) dX12_meeters_90 ?_
        refine x_iload C 4 dX12_meeters_93 rfl ?_
        obtain ⟨n22, hr23, h1⟩ := h1
        obtain ⟨z25, ht24, h1⟩ := h1
        obtain ⟨hi26, h1⟩ := h1
        refine x_iald (n := n22) C hr23 ht24 hi26 dX12_meeters_95 ?_
        refine x_iadd C dX12_meeters_96 ?_
        exact kp_X12_meeters_97 h x1 x3 x4 x6 (((nI 4) * x6) + (st_i S n22 (x6).toNatClampNeg)) S C N hg hZ59 h1
      · have h1 := h1.2 z9
        refine x_iconst (v := (0 : Int32)) C dX12_meeters_81 (by decide) ?_
        refine x_goto (tgt := 97) C dX12_meeters_82 (by decide) ?_
        exact kp_X12_meeters_97 h x1 x3 x4 x6 (0 : Int32) S C N hg hZ59 h1
theorem kp_X12_meeters_59 {K : xm_K} (h : Nat) (x1 : Int32) (x3 : Int32) (x4 : Int32) (x6 : Int32) (S : xm_S) {g : Int32 → xm_S → Prop} (C : xm_Cx K cX12_meeters RX12 9 (some (FieldType.int)) rm_X12_meeters) (N : xm_Nx K) (hg : ∀ v S, g v S → xm_q K (some (xm_i v)) S)  (h1 : wp_X12_meeters_59 h x1 x3 x4 x6 S g) : xm_W K 0 0 59 [(0, xm_r (some h)), (1, xm_i x1), (3, xm_i x3), (4, xm_i x4), (6, xm_i x6)] [] S :=
  h1 (fun x1 x3 x4 x6 S => xm_W K 0 0 59 [(0, xm_r (some h)), (1, xm_i x1), (3, xm_i x3), (4, xm_i x4), (6, xm_i x6)] [] S) (fun x1 x3 x4 x6 S hb => kp_X12_meeters_59B h x1 x3 x4 x6 S C N hg (fun x1 x3 x4 x6 S hz => hz) hb)
def wp_X12_meeters_56 (h : Nat) (x1 : Int32) (x3 : Int32) (x4 : Int32) (S : xm_S) (g : Int32 → xm_S → Prop) : Prop :=
  wp_X12_meeters_59 h x1 x3 x4 (0 : Int32) S g
set_option maxRecDepth 100000 in
set_option maxHeartbeats 4000000 in
theorem kp_X12_meeters_56 {K : xm_K} (h : Nat) (x1 : Int32) (x3 : Int32) (x4 : Int32) (S : xm_S) {g : Int32 → xm_S → Prop} (C : xm_Cx K cX12_meeters RX12 9 (some (FieldType.int)) rm_X12_meeters) (N : xm_Nx K) (hg : ∀ v S, g v S → xm_q K (some (xm_i v)) S)  (h1 : wp_X12_meeters_56 h x1 x3 x4 S g) : xm_W K 0 0 56 [(0, xm_r (some h)), (1, xm_i x1), (3, xm_i x3), (4, xm_i x4)] [] S := by
  unfold wp_X12_meeters_56 at h1
  refine x_iconst (v := (0 : Int32)) C dX12_meeters_56 (by decide) ?_
  refine x_istore (L' := [(6, xm_i (0 : Int32)), (0, xm_r (some h)), (1, xm_i x1), (3, xm_i x3), (4, xm_i x4)]) C dX12_meeters_57 (by decide) rfl ?_
  refine x_keep (L' := [(0, xm_r (some h)), (1, xm_i x1), (3, xm_i x3), (4, xm_i x4), (6, xm_i (0 : Int32))]) C [1, 2, 3, 4, 0] rfl ?_
  exact kp_X12_meeters_59 h x1 x3 x4 (0 : Int32) S C N hg  h1
def wp_X12_meeters (h : Nat) (x1 : Int32) (x2 : Int32) (x3 : Int32) (S : xm_S) (g : Int32 → xm_S → Prop) : Prop :=
  st_t S h = some (12, 0) ∧ ∃ n28, (st_r S h 33) = some n28 ∧ ∃ z31, st_t S n28 = some (100, z31) ∧ vp_in x2 z31 ∧ ∀ y33, y33 = (st_i S n28 (x2).toNatClampNeg) → (y33 = (-1 : Int32) → wp_X12_meeters_56 h x1 x3 (0 : Int32) S g) ∧ (¬ y33 = (-1 : Int32) → ∃ n35, (st_r S h 30) = some n35 ∧ ∃ z38, st_t S n35 = some (100, z38) ∧ vp_in x1 z38 ∧ wp_X12_isIn (st_i S n35 (x1).toNatClampNeg) y33 S (fun r41 S40 => (r41 = 0 → wp_X12_meeters_56 h x1 x3 (0 : Int32) S40 g) ∧ (¬ r41 = 0 → st_t S40 h = some (12, 0) ∧ ∃ n43, (st_r S40 h 4) = some n43 ∧ ∃ z46, st_t S40 n43 = some (100, z46) ∧ vp_in (((nI 4) * x2) + y33) z46 ∧ (¬ ((st_i S40 n43 ((((nI 4) * x2) + y33)).toNatClampNeg) &&& x3) = x3 → wp_X12_meeters_56 h x1 x3 (0 : Int32) S40 g) ∧ (((st_i S40 n43 ((((nI 4) * x2) + y33)).toNatClampNeg) &&& x3) = x3 → ∀ y48, y48 = ((0 : Int32) ||| ((1 : Int32) <<< (x2 &&& 31))) → wp_X12_meeters_56 h x1 x3 y48 S40 g))))
set_option maxRecDepth 100000 in
set_option maxHeartbeats 4000000 in
theorem kp_X12_meeters {K : xm_K} (h : Nat) (x1 : Int32) (x2 : Int32) (x3 : Int32) (S : xm_S) {g : Int32 → xm_S → Prop} (C : xm_Cx K cX12_meeters RX12 9 (some (FieldType.int)) rm_X12_meeters) (N : xm_Nx K) (hg : ∀ v S, g v S → xm_q K (some (xm_i v)) S)  (h1 : wp_X12_meeters h x1 x2 x3 S g) : xm_W K 0 0 0 [(0, xm_r (some h)), (1, xm_i x1), (2, xm_i x2), (3, xm_i x3)] [] S := by
  unfold wp_X12_meeters at h1
  refine x_iconst (v := (0 : Int32)) C dX12_meeters_0 (by decide) ?_
  refine x_istore (L' := [(4, xm_i (0 : Int32)), (0, xm_r (some h)), (1, xm_i x1), (2, xm_i x2), (3, xm_i x3)]) C dX12_meeters_1 (by decide) rfl ?_
  refine x_aload_n C 1 dX12_meeters_3 rfl rfl ?_
  obtain ⟨ht27, h1⟩ := h1
  refine x_getf_r (n := h) C rfl ht27 fd_174 (by decide) dX12_meeters_4 ?_
  refine x_iload_n C 3 dX12_meeters_7 rfl rfl ?_
  obtain ⟨n28, hr29, h1⟩ := h1
  obtain ⟨z31, ht30, h1⟩ := h1
  obtain ⟨hi32, h1⟩ := h1
  refine x_iald (n := n28) C hr29 ht30 hi32 dX12_meeters_8 ?_
  refine x_topi (fun y33 e34 => ?_)
  have h1 := h1 y33 e34
  refine x_istore (L' := [(5, xm_i y33), (4, xm_i (0 : Int32)), (0, xm_r (some h)), (1, xm_i x1), (2, xm_i x2), (3, xm_i x3)]) C dX12_meeters_9 (by decide) rfl ?_
  refine x_iload C 0 dX12_meeters_11 rfl ?_
  refine x_iconst (v := (-1 : Int32)) C dX12_meeters_13 (by decide) ?_
  refine x_icmp_eq (tgt := 56) C dX12_meeters_14 (by decide) (fun z9 => ?_) (fun z9 => ?_)
  · have h1 := h1.1 z9
    refine x_keep (L' := [(0, xm_r (some h)), (1, xm_i x1), (3, xm_i x3), (4, xm_i (0 : Int32))]) C [2, 3, 5, 1] rfl ?_
    exact kp_X12_meeters_56 h x1 x3 (0 : Int32) S C N hg  h1
  · have h1 := h1.2 z9
    refine x_aload_n C 2 dX12_meeters_17 rfl rfl ?_
    refine x_getf_r (n := h) C rfl ht27 fd_180 (by decide) dX12_meeters_18 ?_
    refine x_iload_n C 3 dX12_meeters_21 rfl rfl ?_
    obtain ⟨n35, hr36, h1⟩ := h1
    obtain ⟨z38, ht37, h1⟩ := h1
    obtain ⟨hi39, h1⟩ := h1
    refine x_iald (n := n35) C hr36 ht37 hi39 dX12_meeters_22 ?_
    refine x_iload C 0 dX12_meeters_23 rfl ?_
    refine x_callS (rm' := rm_X12_isIn) C (kp_X12_isIn_met h1) lk_105 gw_624 rfl (Nat.le_of_ble_eq_true rfl) ⟨Nat.le_of_ble_eq_true rfl, Nat.le_of_ble_eq_true rfl, (Nat.le_of_ble_eq_true rfl), (Nat.le_of_ble_eq_true rfl)⟩ dX12_meeters_25 xm_kx (xm_ki (fun r41 S40 h1 => ?_))
    refine x_if_eq (tgt := 56) C dX12_meeters_28 (by decide) (fun z9 => ?_) (fun z9 => ?_)
    · have h1 := h1.1 z9
      refine x_keep (L' := [(0, xm_r (some h)), (1, xm_i x1), (3, xm_i x3), (4, xm_i (0 : Int32))]) C [2, 3, 5, 1] rfl ?_
      exact kp_X12_meeters_56 h x1 x3 (0 : Int32) S40 C N hg  h1
    · have h1 := h1.2 z9
      refine x_aload_n C 2 dX12_meeters_31 rfl rfl ?_
      obtain ⟨ht42, h1⟩ := h1
      refine x_getf_r (n := h) C rfl ht42 fd_183 (by decide) dX12_meeters_32 ?_
      refine x_iconst (v := (nI 4)) C dX12_meeters_35 (by decide) ?_
      refine x_iload_n C 4 dX12_meeters_36 rfl rfl ?_
      refine x_imul C dX12_meeters_37 ?_
      refine x_iload C 0 dX12_meeters_38 rfl ?_
      refine x_iadd C dX12_meeters_40 ?_
      obtain ⟨n43, hr44, h1⟩ := h1
      obtain ⟨z46, ht45, h1⟩ := h1
      obtain ⟨hi47, h1⟩ := h1
      refine x_iald (n := n43) C hr44 ht45 hi47 dX12_meeters_41 ?_
      refine x_iload_n C 5 dX12_meeters_42 rfl rfl ?_
      refine x_iand C dX12_meeters_43 ?_
      refine x_iload_n C 5 dX12_meeters_44 rfl rfl ?_
      refine x_icmp_ne (tgt := 56) C dX12_meeters_45 (by decide) (fun z9 => ?_) (fun z9 => ?_)
      · have h1 := h1.1 z9
        refine x_keep (L' := [(0, xm_r (some h)), (1, xm_i x1), (3, xm_i x3), (4, xm_i (0 : Int32))]) C [2, 3, 5, 1] rfl ?_
        exact kp_X12_meeters_56 h x1 x3 (0 : Int32) S40 C N hg  h1
      · have h1 := h1.2 z9
        refine x_iload C 1 dX12_meeters_48 rfl ?_
        refine x_iconst (v := (1 : Int32)) C dX12_meeters_50 (by decide) ?_
        refine x_iload_n C 4 dX12_meeters_51 rfl rfl ?_
        refine x_ishl C dX12_meeters_52 ?_
        refine x_ior C dX12_meeters_53 ?_
        refine x_topi (fun y48 e49 => ?_)
        have h1 := h1 y48 e49
        refine x_istore (L' := [(4, xm_i y48), (5, xm_i y33), (0, xm_r (some h)), (1, xm_i x1), (2, xm_i x2), (3, xm_i x3)]) C dX12_meeters_54 (by decide) rfl ?_
        refine x_keep (L' := [(0, xm_r (some h)), (1, xm_i x1), (3, xm_i x3), (4, xm_i y48)]) C [2, 3, 5, 0] rfl ?_
        exact kp_X12_meeters_56 h x1 x3 y48 S40 C N hg  h1
theorem kp_X12_meeters_met {h : Nat} {x1 : Int32} {x2 : Int32} {x3 : Int32} {S : xm_S} {g : Int32 → xm_S → Prop}  (h1 : wp_X12_meeters h x1 x2 x3 S g) : xm_Met yX12_meeters cX12_meeters 9 (some (FieldType.int)) rm_X12_meeters [xm_r (some h), xm_i x1, xm_i x2, xm_i x3] S (xm_qi g) xm_nox :=
  xm_ofW RX12 (by decide +kernel) rfl (Nat.le_of_ble_eq_true rfl) (fun K C N hq hx hi => kp_X12_meeters h x1 x2 x3 S C N (fun v S h => by rw [hq]; exact ⟨v, rfl, h⟩)  h1)
def rm_X12_state : Room := { frames := 1, cells := 0, slots := 0, locals := 20 }
theorem dX12_state_0 : decode cX12_state 0 = .ok (.iload_n 1, 1) := by decide +kernel
theorem dX12_state_1 : decode cX12_state 1 = .ok (.istore_n 2, 1) := by decide +kernel
theorem dX12_state_2 : decode cX12_state 2 = .ok (.iconst 0, 1) := by decide +kernel
theorem dX12_state_3 : decode cX12_state 3 = .ok (.istore_n 3, 1) := by decide +kernel
theorem dX12_state_4 : decode cX12_state 4 = .ok (.iload_n 3, 1) := by decide +kernel
theorem dX12_state_5 : decode cX12_state 5 = .ok (.bipush 6, 2) := by decide +kernel
theorem dX12_state_7 : decode cX12_state 7 = .ok (.if_icmp .ge 25, 3) := by decide +kernel
theorem dX12_state_10 : decode cX12_state 10 = .ok (.iload_n 2, 1) := by decide +kernel
theorem dX12_state_11 : decode cX12_state 11 = .ok (.aload_n 0, 1) := by decide +kernel
theorem dX12_state_12 : decode cX12_state 12 = .ok (.getfield 106, 3) := by decide +kernel
theorem dX12_state_15 : decode cX12_state 15 = .ok (.iload_n 3, 1) := by decide +kernel
theorem dX12_state_16 : decode cX12_state 16 = .ok (.iaload, 1) := by decide +kernel
theorem dX12_state_17 : decode cX12_state 17 = .ok (.bipush 6, 2) := by decide +kernel
theorem dX12_state_19 : decode cX12_state 19 = .ok (.iconst 4, 1) := by decide +kernel
theorem dX12_state_20 : decode cX12_state 20 = .ok (.iload_n 3, 1) := by decide +kernel
theorem dX12_state_21 : decode cX12_state 21 = .ok (.imul, 1) := by decide +kernel
theorem dX12_state_22 : decode cX12_state 22 = .ok (.iadd, 1) := by decide +kernel
theorem dX12_state_23 : decode cX12_state 23 = .ok (.ishl, 1) := by decide +kernel
theorem dX12_state_24 : decode cX12_state 24 = .ok (.ior, 1) := by decide +kernel
theorem dX12_state_25 : decode cX12_state 25 = .ok (.istore_n 2, 1) := by decide +kernel
theorem dX12_state_26 : decode cX12_state 26 = .ok (.iinc 3 1, 3) := by decide +kernel
theorem dX12_state_29 : decode cX12_state 29 = .ok (.goto (-25), 3) := by decide +kernel
theorem dX12_state_32 : decode cX12_state 32 = .ok (.iload_n 2, 1) := by decide +kernel
theorem dX12_state_33 : decode cX12_state 33 = .ok (.ireturn, 1) := by decide +kernel
def wp_X12_state_4B (h : Nat) (x2 : Int32) (x3 : Int32) (S : xm_S) (g : Int32 → xm_S → Prop) (Z4 : Int32 → Int32 → xm_S → Prop) : Prop :=
  ((nI 6) ≤ x3 → g x2 S) ∧ (¬ (nI 6) ≤ x3 → st_t S h = some (12, 0) ∧ ∃ n2, (st_r S h 34) = some n2 ∧ ∃ z5, st_t S n2 = some (100, z5) ∧ vp_in x3 z5 ∧ ∀ y7, y7 = (x2 ||| ((st_i S n2 (x3).toNatClampNeg) <<< (((nI 6) + ((nI 4) * x3)) &&& 31))) → ∀ y9, y9 = (x3 + (1 : Int32)) → Z4 y7 y9 S)
def wp_X12_state_4 (h : Nat) (x2 : Int32) (x3 : Int32) (S : xm_S) (g : Int32 → xm_S → Prop) : Prop :=
  ∀ Z4 : Int32 → Int32 → xm_S → Prop, (∀ x2 x3 S, wp_X12_state_4B h x2 x3 S g Z4 → Z4 x2 x3 S) → Z4 x2 x3 S
set_option maxRecDepth 100000 in
set_option maxHeartbeats 4000000 in
theorem kp_X12_state_4B {K : xm_K} (h : Nat) (x2 : Int32) (x3 : Int32) (S : xm_S) {g : Int32 → xm_S → Prop} {Z4 : Int32 → Int32 → xm_S → Prop} (C : xm_Cx K cX12_state RX12 4 (some (FieldType.int)) rm_X12_state) (N : xm_Nx K) (hg : ∀ v S, g v S → xm_q K (some (xm_i v)) S) (hZ4 : ∀ x2 x3 S, Z4 x2 x3 S → xm_W K 0 0 4 [(0, xm_r (some h)), (2, xm_i x2), (3, xm_i x3)] [] S) (h1 : wp_X12_state_4B h x2 x3 S g Z4) : xm_W K 0 0 4 [(0, xm_r (some h)), (2, xm_i x2), (3, xm_i x3)] [] S := by
  unfold wp_X12_state_4B at h1
  refine x_iload_n C 2 dX12_state_4 rfl rfl ?_
  refine x_bipush (v := (nI 6)) C dX12_state_5 (by decide) ?_
  refine x_icmp_ge (tgt := 32) C dX12_state_7 (by decide) (fun z9 => ?_) (fun z9 => ?_)
  · have h1 := h1.1 z9
    refine x_iload_n C 1 dX12_state_32 rfl rfl ?_
    exact x_iret C (Nat.le_of_ble_eq_true rfl) (Nat.le_of_ble_eq_true rfl) rfl dX12_state_33 (hg _ _ h1)
  · have h1 := h1.2 z9
    refine x_iload_n C 1 dX12_state_10 rfl rfl ?_
    refine x_aload_n C 0 dX12_state_11 rfl rfl ?_
    obtain ⟨ht1, h1⟩ := h1
    refine x_getf_r (n := h) C rfl ht1 fd_173 (by decide) dX12_state_12 ?_
    refine x_iload_n C 2 dX12_state_15 rfl rfl ?_
    obtain ⟨n2, hr3, h1⟩ := h1
    obtain ⟨z5, ht4, h1⟩ := h1
    obtain ⟨hi6, h1⟩ := h1
    refine x_iald (n := n2) C hr3 ht4 hi6 dX12_state_16 ?_
    refine x_bipush (v := (nI 6)) C dX12_state_17 (by decide) ?_
    refine x_iconst (v := (nI 4)) C dX12_state_19 (by decide) ?_
    refine x_iload_n C 2 dX12_state_20 rfl rfl ?_
    refine x_imul C dX12_state_21 ?_
    refine x_iadd C dX12_state_22 ?_
    refine x_ishl C dX12_state_23 ?_
    refine x_ior C dX12_state_24 ?_
    refine x_topi (fun y7 e8 => ?_)
    have h1 := h1 y7 e8
    refine x_istore_n (L' := [(2, xm_i y7), (0, xm_r (some h)), (3, xm_i x3)]) C dX12_state_25 rfl (by decide) rfl ?_
    obtain ⟨y9, e10⟩ : ∃ y9, y9 = (x3 + (1 : Int32)) := ⟨_, rfl⟩
    have h1 := h1 y9 e10
    refine x_iinc (v := y9) (L' := [(3, xm_i y9), (2, xm_i y7), (0, xm_r (some h))]) C 2 dX12_state_26 rfl (by rw [e10]; rfl) (by decide) rfl ?_
    refine x_goto (tgt := 4) C dX12_state_29 (by decide) ?_
    refine x_keep (L' := [(0, xm_r (some h)), (2, xm_i y7), (3, xm_i y9)]) C [2, 1, 0] rfl ?_
    exact hZ4 y7 y9 S h1
theorem kp_X12_state_4 {K : xm_K} (h : Nat) (x2 : Int32) (x3 : Int32) (S : xm_S) {g : Int32 → xm_S → Prop} (C : xm_Cx K cX12_state RX12 4 (some (FieldType.int)) rm_X12_state) (N : xm_Nx K) (hg : ∀ v S, g v S → xm_q K (some (xm_i v)) S)  (h1 : wp_X12_state_4 h x2 x3 S g) : xm_W K 0 0 4 [(0, xm_r (some h)), (2, xm_i x2), (3, xm_i x3)] [] S :=
  h1 (fun x2 x3 S => xm_W K 0 0 4 [(0, xm_r (some h)), (2, xm_i x2), (3, xm_i x3)] [] S) (fun x2 x3 S hb => kp_X12_state_4B h x2 x3 S C N hg (fun x2 x3 S hz => hz) hb)
def wp_X12_state (h : Nat) (x1 : Int32) (S : xm_S) (g : Int32 → xm_S → Prop) : Prop :=
  wp_X12_state_4 h x1 (0 : Int32) S g
set_option maxRecDepth 100000 in
set_option maxHeartbeats 4000000 in
theorem kp_X12_state {K : xm_K} (h : Nat) (x1 : Int32) (S : xm_S) {g : Int32 → xm_S → Prop} (C : xm_Cx K cX12_state RX12 4 (some (FieldType.int)) rm_X12_state) (N : xm_Nx K) (hg : ∀ v S, g v S → xm_q K (some (xm_i v)) S)  (h1 : wp_X12_state h x1 S g) : xm_W K 0 0 0 [(0, xm_r (some h)), (1, xm_i x1)] [] S := by
  unfold wp_X12_state at h1
  refine x_iload_n C 1 dX12_state_0 rfl rfl ?_
  refine x_istore_n (L' := [(2, xm_i x1), (0, xm_r (some h)), (1, xm_i x1)]) C dX12_state_1 rfl (by decide) rfl ?_
  refine x_iconst (v := (0 : Int32)) C dX12_state_2 (by decide) ?_
  refine x_istore_n (L' := [(3, xm_i (0 : Int32)), (2, xm_i x1), (0, xm_r (some h)), (1, xm_i x1)]) C dX12_state_3 rfl (by decide) rfl ?_
  refine x_keep (L' := [(0, xm_r (some h)), (2, xm_i x1), (3, xm_i (0 : Int32))]) C [2, 1, 0] rfl ?_
  exact kp_X12_state_4 h x1 (0 : Int32) S C N hg  h1
theorem kp_X12_state_met {h : Nat} {x1 : Int32} {S : xm_S} {g : Int32 → xm_S → Prop}  (h1 : wp_X12_state h x1 S g) : xm_Met yX12_state cX12_state 4 (some (FieldType.int)) rm_X12_state [xm_r (some h), xm_i x1] S (xm_qi g) xm_nox :=
  xm_ofW RX12 (by decide +kernel) rfl (Nat.le_of_ble_eq_true rfl) (fun K C N hq hx hi => kp_X12_state h x1 S C N (fun v S h => by rw [hq]; exact ⟨v, rfl, h⟩)  h1)
def rm_X12_reaches : Room := { frames := 3, cells := 0, slots := 0, locals := 69 }
theorem dX12_reaches_0 : decode cX12_reaches 0 = .ok (.iconst 0, 1) := by decide +kernel
theorem dX12_reaches_1 : decode cX12_reaches 1 = .ok (.istore_n 3, 1) := by decide +kernel
theorem dX12_reaches_2 : decode cX12_reaches 2 = .ok (.iconst 1, 1) := by decide +kernel
theorem dX12_reaches_3 : decode cX12_reaches 3 = .ok (.istore 4, 2) := by decide +kernel
theorem dX12_reaches_5 : decode cX12_reaches 5 = .ok (.iconst 0, 1) := by decide +kernel
theorem dX12_reaches_6 : decode cX12_reaches 6 = .ok (.istore 5, 2) := by decide +kernel
theorem dX12_reaches_8 : decode cX12_reaches 8 = .ok (.iload 5, 2) := by decide +kernel
theorem dX12_reaches_10 : decode cX12_reaches 10 = .ok (.bipush 6, 2) := by decide +kernel
theorem dX12_reaches_12 : decode cX12_reaches 12 = .ok (.if_icmp .ge 17, 3) := by decide +kernel
theorem dX12_reaches_15 : decode cX12_reaches 15 = .ok (.aload_n 0, 1) := by decide +kernel
theorem dX12_reaches_16 : decode cX12_reaches 16 = .ok (.getfield 106, 3) := by decide +kernel
theorem dX12_reaches_19 : decode cX12_reaches 19 = .ok (.iload 5, 2) := by decide +kernel
theorem dX12_reaches_21 : decode cX12_reaches 21 = .ok (.iconst 0, 1) := by decide +kernel
theorem dX12_reaches_22 : decode cX12_reaches 22 = .ok (.iastore, 1) := by decide +kernel
theorem dX12_reaches_23 : decode cX12_reaches 23 = .ok (.iinc 5 1, 3) := by decide +kernel
theorem dX12_reaches_26 : decode cX12_reaches 26 = .ok (.goto (-18), 3) := by decide +kernel
theorem dX12_reaches_29 : decode cX12_reaches 29 = .ok (.iconst 0, 1) := by decide +kernel
theorem dX12_reaches_30 : decode cX12_reaches 30 = .ok (.istore 5, 2) := by decide +kernel
theorem dX12_reaches_32 : decode cX12_reaches 32 = .ok (.iload 5, 2) := by decide +kernel
theorem dX12_reaches_34 : decode cX12_reaches 34 = .ok (.aload_n 0, 1) := by decide +kernel
theorem dX12_reaches_35 : decode cX12_reaches 35 = .ok (.getfield 257, 3) := by decide +kernel
theorem dX12_reaches_38 : decode cX12_reaches 38 = .ok (.if_icmp .ge 84, 3) := by decide +kernel
theorem dX12_reaches_41 : decode cX12_reaches 41 = .ok (.iload_n 2, 1) := by decide +kernel
theorem dX12_reaches_42 : decode cX12_reaches 42 = .ok (.iload 5, 2) := by decide +kernel
theorem dX12_reaches_44 : decode cX12_reaches 44 = .ok (.invokestatic 264, 3) := by decide +kernel
theorem dX12_reaches_47 : decode cX12_reaches 47 = .ok (.ifCond .eq 69, 3) := by decide +kernel
theorem dX12_reaches_50 : decode cX12_reaches 50 = .ok (.aload_n 0, 1) := by decide +kernel
theorem dX12_reaches_51 : decode cX12_reaches 51 = .ok (.sipush 144, 3) := by decide +kernel
theorem dX12_reaches_54 : decode cX12_reaches 54 = .ok (.iload 5, 2) := by decide +kernel
theorem dX12_reaches_56 : decode cX12_reaches 56 = .ok (.iadd, 1) := by decide +kernel
theorem dX12_reaches_57 : decode cX12_reaches 57 = .ok (.aload_n 0, 1) := by decide +kernel
theorem dX12_reaches_58 : decode cX12_reaches 58 = .ok (.getfield 62, 3) := by decide +kernel
theorem dX12_reaches_61 : decode cX12_reaches 61 = .ok (.iload 5, 2) := by decide +kernel
theorem dX12_reaches_63 : decode cX12_reaches 63 = .ok (.iaload, 1) := by decide +kernel
theorem dX12_reaches_64 : decode cX12_reaches 64 = .ok (.aload_n 0, 1) := by decide +kernel
theorem dX12_reaches_65 : decode cX12_reaches 65 = .ok (.getfield 65, 3) := by decide +kernel
theorem dX12_reaches_68 : decode cX12_reaches 68 = .ok (.iload 5, 2) := by decide +kernel
theorem dX12_reaches_70 : decode cX12_reaches 70 = .ok (.iaload, 1) := by decide +kernel
theorem dX12_reaches_71 : decode cX12_reaches 71 = .ok (.invokevirtual 269, 3) := by decide +kernel
theorem dX12_reaches_74 : decode cX12_reaches 74 = .ok (.istore 6, 2) := by decide +kernel
theorem dX12_reaches_76 : decode cX12_reaches 76 = .ok (.aload_n 0, 1) := by decide +kernel
theorem dX12_reaches_77 : decode cX12_reaches 77 = .ok (.aload_n 0, 1) := by decide +kernel
theorem dX12_reaches_78 : decode cX12_reaches 78 = .ok (.getfield 62, 3) := by decide +kernel
theorem dX12_reaches_81 : decode cX12_reaches 81 = .ok (.iload 5, 2) := by decide +kernel
theorem dX12_reaches_83 : decode cX12_reaches 83 = .ok (.iaload, 1) := by decide +kernel
theorem dX12_reaches_84 : decode cX12_reaches 84 = .ok (.aload_n 0, 1) := by decide +kernel
theorem dX12_reaches_85 : decode cX12_reaches 85 = .ok (.getfield 65, 3) := by decide +kernel
theorem dX12_reaches_88 : decode cX12_reaches 88 = .ok (.iload 5, 2) := by decide +kernel
theorem dX12_reaches_90 : decode cX12_reaches 90 = .ok (.iaload, 1) := by decide +kernel
theorem dX12_reaches_91 : decode cX12_reaches 91 = .ok (.invokevirtual 272, 3) := by decide +kernel
theorem dX12_reaches_94 : decode cX12_reaches 94 = .ok (.iload_n 3, 1) := by decide +kernel
theorem dX12_reaches_95 : decode cX12_reaches 95 = .ok (.iload 6, 2) := by decide +kernel
theorem dX12_reaches_97 : decode cX12_reaches 97 = .ok (.ior, 1) := by decide +kernel
theorem dX12_reaches_98 : decode cX12_reaches 98 = .ok (.istore_n 3, 1) := by decide +kernel
theorem dX12_reaches_99 : decode cX12_reaches 99 = .ok (.iload 4, 2) := by decide +kernel
theorem dX12_reaches_101 : decode cX12_reaches 101 = .ok (.ifCond .eq 12, 3) := by decide +kernel
theorem dX12_reaches_104 : decode cX12_reaches 104 = .ok (.iload 6, 2) := by decide +kernel
theorem dX12_reaches_106 : decode cX12_reaches 106 = .ok (.ifCond .eq 7, 3) := by decide +kernel
theorem dX12_reaches_109 : decode cX12_reaches 109 = .ok (.iconst 1, 1) := by decide +kernel
theorem dX12_reaches_110 : decode cX12_reaches 110 = .ok (.goto 4, 3) := by decide +kernel
theorem dX12_reaches_113 : decode cX12_reaches 113 = .ok (.iconst 0, 1) := by decide +kernel
theorem dX12_reaches_114 : decode cX12_reaches 114 = .ok (.istore 4, 2) := by decide +kernel
theorem dX12_reaches_116 : decode cX12_reaches 116 = .ok (.iinc 5 1, 3) := by decide +kernel
theorem dX12_reaches_119 : decode cX12_reaches 119 = .ok (.goto (-87), 3) := by decide +kernel
theorem dX12_reaches_122 : decode cX12_reaches 122 = .ok (.iconst (-1), 1) := by decide +kernel
theorem dX12_reaches_123 : decode cX12_reaches 123 = .ok (.istore 5, 2) := by decide +kernel
theorem dX12_reaches_125 : decode cX12_reaches 125 = .ok (.iload 4, 2) := by decide +kernel
theorem dX12_reaches_127 : decode cX12_reaches 127 = .ok (.ifCond .eq 180, 3) := by decide +kernel
theorem dX12_reaches_130 : decode cX12_reaches 130 = .ok (.iload 5, 2) := by decide +kernel
theorem dX12_reaches_132 : decode cX12_reaches 132 = .ok (.aload_n 0, 1) := by decide +kernel
theorem dX12_reaches_133 : decode cX12_reaches 133 = .ok (.iload_n 3, 1) := by decide +kernel
theorem dX12_reaches_134 : decode cX12_reaches 134 = .ok (.invokevirtual 275, 3) := by decide +kernel
theorem dX12_reaches_137 : decode cX12_reaches 137 = .ok (.if_icmp .eq 170, 3) := by decide +kernel
theorem dX12_reaches_140 : decode cX12_reaches 140 = .ok (.aload_n 0, 1) := by decide +kernel
theorem dX12_reaches_141 : decode cX12_reaches 141 = .ok (.iload_n 3, 1) := by decide +kernel
theorem dX12_reaches_142 : decode cX12_reaches 142 = .ok (.invokevirtual 275, 3) := by decide +kernel
theorem dX12_reaches_145 : decode cX12_reaches 145 = .ok (.istore 5, 2) := by decide +kernel
theorem dX12_reaches_147 : decode cX12_reaches 147 = .ok (.iconst 0, 1) := by decide +kernel
theorem dX12_reaches_148 : decode cX12_reaches 148 = .ok (.istore 6, 2) := by decide +kernel
theorem dX12_reaches_150 : decode cX12_reaches 150 = .ok (.iload 6, 2) := by decide +kernel
theorem dX12_reaches_152 : decode cX12_reaches 152 = .ok (.bipush 6, 2) := by decide +kernel
theorem dX12_reaches_154 : decode cX12_reaches 154 = .ok (.if_icmp .ge 150, 3) := by decide +kernel
theorem dX12_reaches_157 : decode cX12_reaches 157 = .ok (.aload_n 0, 1) := by decide +kernel
theorem dX12_reaches_158 : decode cX12_reaches 158 = .ok (.getfield 103, 3) := by decide +kernel
theorem dX12_reaches_161 : decode cX12_reaches 161 = .ok (.iload 6, 2) := by decide +kernel
theorem dX12_reaches_163 : decode cX12_reaches 163 = .ok (.iaload, 1) := by decide +kernel
theorem dX12_reaches_164 : decode cX12_reaches 164 = .ok (.iconst (-1), 1) := by decide +kernel
theorem dX12_reaches_165 : decode cX12_reaches 165 = .ok (.if_icmp .ne 7, 3) := by decide +kernel
theorem dX12_reaches_168 : decode cX12_reaches 168 = .ok (.iconst 0, 1) := by decide +kernel
theorem dX12_reaches_169 : decode cX12_reaches 169 = .ok (.goto 15, 3) := by decide +kernel
theorem dX12_reaches_172 : decode cX12_reaches 172 = .ok (.iconst 4, 1) := by decide +kernel
theorem dX12_reaches_173 : decode cX12_reaches 173 = .ok (.iload 6, 2) := by decide +kernel
theorem dX12_reaches_175 : decode cX12_reaches 175 = .ok (.imul, 1) := by decide +kernel
theorem dX12_reaches_176 : decode cX12_reaches 176 = .ok (.aload_n 0, 1) := by decide +kernel
theorem dX12_reaches_177 : decode cX12_reaches 177 = .ok (.getfield 103, 3) := by decide +kernel
theorem dX12_reaches_180 : decode cX12_reaches 180 = .ok (.iload 6, 2) := by decide +kernel
theorem dX12_reaches_182 : decode cX12_reaches 182 = .ok (.iaload, 1) := by decide +kernel
theorem dX12_reaches_183 : decode cX12_reaches 183 = .ok (.iadd, 1) := by decide +kernel
theorem dX12_reaches_184 : decode cX12_reaches 184 = .ok (.istore 7, 2) := by decide +kernel
theorem dX12_reaches_186 : decode cX12_reaches 186 = .ok (.iconst 4, 1) := by decide +kernel
theorem dX12_reaches_187 : decode cX12_reaches 187 = .ok (.iload 7, 2) := by decide +kernel
theorem dX12_reaches_189 : decode cX12_reaches 189 = .ok (.imul, 1) := by decide +kernel
theorem dX12_reaches_190 : decode cX12_reaches 190 = .ok (.istore 8, 2) := by decide +kernel
theorem dX12_reaches_192 : decode cX12_reaches 192 = .ok (.iload 8, 2) := by decide +kernel
theorem dX12_reaches_194 : decode cX12_reaches 194 = .ok (.iconst 4, 1) := by decide +kernel
theorem dX12_reaches_195 : decode cX12_reaches 195 = .ok (.iload 7, 2) := by decide +kernel
theorem dX12_reaches_197 : decode cX12_reaches 197 = .ok (.imul, 1) := by decide +kernel
theorem dX12_reaches_198 : decode cX12_reaches 198 = .ok (.aload_n 0, 1) := by decide +kernel
theorem dX12_reaches_199 : decode cX12_reaches 199 = .ok (.getfield 32, 3) := by decide +kernel
theorem dX12_reaches_202 : decode cX12_reaches 202 = .ok (.iload 7, 2) := by decide +kernel
theorem dX12_reaches_204 : decode cX12_reaches 204 = .ok (.iaload, 1) := by decide +kernel
theorem dX12_reaches_205 : decode cX12_reaches 205 = .ok (.iadd, 1) := by decide +kernel
theorem dX12_reaches_206 : decode cX12_reaches 206 = .ok (.if_icmp .ge 92, 3) := by decide +kernel
theorem dX12_reaches_209 : decode cX12_reaches 209 = .ok (.iload_n 3, 1) := by decide +kernel
theorem dX12_reaches_210 : decode cX12_reaches 210 = .ok (.iload 6, 2) := by decide +kernel
theorem dX12_reaches_212 : decode cX12_reaches 212 = .ok (.invokestatic 264, 3) := by decide +kernel
theorem dX12_reaches_215 : decode cX12_reaches 215 = .ok (.ifCond .eq 83, 3) := by decide +kernel
theorem dX12_reaches_218 : decode cX12_reaches 218 = .ok (.aload_n 0, 1) := by decide +kernel
theorem dX12_reaches_219 : decode cX12_reaches 219 = .ok (.iload 8, 2) := by decide +kernel
theorem dX12_reaches_221 : decode cX12_reaches 221 = .ok (.iload 6, 2) := by decide +kernel
theorem dX12_reaches_223 : decode cX12_reaches 223 = .ok (.iload_n 1, 1) := by decide +kernel
theorem dX12_reaches_224 : decode cX12_reaches 224 = .ok (.invokevirtual 278, 3) := by decide +kernel
theorem dX12_reaches_227 : decode cX12_reaches 227 = .ok (.ifCond .eq 65, 3) := by decide +kernel
theorem dX12_reaches_230 : decode cX12_reaches 230 = .ok (.aload_n 0, 1) := by decide +kernel
theorem dX12_reaches_231 : decode cX12_reaches 231 = .ok (.iload 8, 2) := by decide +kernel
theorem dX12_reaches_233 : decode cX12_reaches 233 = .ok (.aload_n 0, 1) := by decide +kernel
theorem dX12_reaches_234 : decode cX12_reaches 234 = .ok (.getfield 35, 3) := by decide +kernel
theorem dX12_reaches_237 : decode cX12_reaches 237 = .ok (.iload 8, 2) := by decide +kernel
theorem dX12_reaches_239 : decode cX12_reaches 239 = .ok (.iaload, 1) := by decide +kernel
theorem dX12_reaches_240 : decode cX12_reaches 240 = .ok (.aload_n 0, 1) := by decide +kernel
theorem dX12_reaches_241 : decode cX12_reaches 241 = .ok (.getfield 38, 3) := by decide +kernel
theorem dX12_reaches_244 : decode cX12_reaches 244 = .ok (.iload 8, 2) := by decide +kernel
theorem dX12_reaches_246 : decode cX12_reaches 246 = .ok (.iaload, 1) := by decide +kernel
theorem dX12_reaches_247 : decode cX12_reaches 247 = .ok (.invokevirtual 269, 3) := by decide +kernel
theorem dX12_reaches_250 : decode cX12_reaches 250 = .ok (.istore 9, 2) := by decide +kernel
theorem dX12_reaches_252 : decode cX12_reaches 252 = .ok (.aload_n 0, 1) := by decide +kernel
theorem dX12_reaches_253 : decode cX12_reaches 253 = .ok (.aload_n 0, 1) := by decide +kernel
theorem dX12_reaches_254 : decode cX12_reaches 254 = .ok (.getfield 35, 3) := by decide +kernel
theorem dX12_reaches_257 : decode cX12_reaches 257 = .ok (.iload 8, 2) := by decide +kernel
theorem dX12_reaches_259 : decode cX12_reaches 259 = .ok (.iaload, 1) := by decide +kernel
theorem dX12_reaches_260 : decode cX12_reaches 260 = .ok (.aload_n 0, 1) := by decide +kernel
theorem dX12_reaches_261 : decode cX12_reaches 261 = .ok (.getfield 38, 3) := by decide +kernel
theorem dX12_reaches_264 : decode cX12_reaches 264 = .ok (.iload 8, 2) := by decide +kernel
theorem dX12_reaches_266 : decode cX12_reaches 266 = .ok (.iaload, 1) := by decide +kernel
theorem dX12_reaches_267 : decode cX12_reaches 267 = .ok (.invokevirtual 272, 3) := by decide +kernel
theorem dX12_reaches_270 : decode cX12_reaches 270 = .ok (.iload_n 3, 1) := by decide +kernel
theorem dX12_reaches_271 : decode cX12_reaches 271 = .ok (.iload 9, 2) := by decide +kernel
theorem dX12_reaches_273 : decode cX12_reaches 273 = .ok (.ior, 1) := by decide +kernel
theorem dX12_reaches_274 : decode cX12_reaches 274 = .ok (.istore_n 3, 1) := by decide +kernel
theorem dX12_reaches_275 : decode cX12_reaches 275 = .ok (.iload 4, 2) := by decide +kernel
theorem dX12_reaches_277 : decode cX12_reaches 277 = .ok (.ifCond .eq 12, 3) := by decide +kernel
theorem dX12_reaches_280 : decode cX12_reaches 280 = .ok (.iload 9, 2) := by decide +kernel
theorem dX12_reaches_282 : decode cX12_reaches 282 = .ok (.ifCond .eq 7, 3) := by decide +kernel
theorem dX12_reaches_285 : decode cX12_reaches 285 = .ok (.iconst 1, 1) := by decide +kernel
theorem dX12_reaches_286 : decode cX12_reaches 286 = .ok (.goto 4, 3) := by decide +kernel
theorem dX12_reaches_289 : decode cX12_reaches 289 = .ok (.iconst 0, 1) := by decide +kernel
theorem dX12_reaches_290 : decode cX12_reaches 290 = .ok (.istore 4, 2) := by decide +kernel
theorem dX12_reaches_292 : decode cX12_reaches 292 = .ok (.iinc 8 1, 3) := by decide +kernel
theorem dX12_reaches_295 : decode cX12_reaches 295 = .ok (.goto (-103), 3) := by decide +kernel
theorem dX12_reaches_298 : decode cX12_reaches 298 = .ok (.iinc 6 1, 3) := by decide +kernel
theorem dX12_reaches_301 : decode cX12_reaches 301 = .ok (.goto (-151), 3) := by decide +kernel
theorem dX12_reaches_304 : decode cX12_reaches 304 = .ok (.goto (-179), 3) := by decide +kernel
theorem dX12_reaches_307 : decode cX12_reaches 307 = .ok (.iload 4, 2) := by decide +kernel
theorem dX12_reaches_309 : decode cX12_reaches 309 = .ok (.ifCond .eq 7, 3) := by decide +kernel
theorem dX12_reaches_312 : decode cX12_reaches 312 = .ok (.iload_n 3, 1) := by decide +kernel
theorem dX12_reaches_313 : decode cX12_reaches 313 = .ok (.goto 4, 3) := by decide +kernel
theorem dX12_reaches_316 : decode cX12_reaches 316 = .ok (.iconst (-1), 1) := by decide +kernel
theorem dX12_reaches_317 : decode cX12_reaches 317 = .ok (.ireturn, 1) := by decide +kernel
def wp_X12_reaches_116 (h : Nat) (x1 : Int32) (x2 : Int32) (x3 : Int32) (x4 : Int32) (x5 : Int32) (S : xm_S) (g : Int32 → xm_S → Prop) (Z32 : Int32 → Int32 → Int32 → Int32 → Int32 → xm_S → Prop) : Prop :=
  ∀ y1, y1 = (x5 + (1 : Int32)) → Z32 x1 x2 x3 x4 y1 S
set_option maxRecDepth 100000 in
set_option maxHeartbeats 4000000 in
theorem kp_X12_reaches_116 {K : xm_K} (h : Nat) (x1 : Int32) (x2 : Int32) (x3 : Int32) (x4 : Int32) (x5 : Int32) (S : xm_S) {g : Int32 → xm_S → Prop} {Z32 : Int32 → Int32 → Int32 → Int32 → Int32 → xm_S → Prop} (C : xm_Cx K cX12_reaches RX12 10 (some (FieldType.int)) rm_X12_reaches) (N : xm_Nx K) (hg : ∀ v S, g v S → xm_q K (some (xm_i v)) S) (hZ32 : ∀ x1 x2 x3 x4 x5 S, Z32 x1 x2 x3 x4 x5 S → xm_W K 0 0 32 [(0, xm_r (some h)), (1, xm_i x1), (2, xm_i x2), (3, xm_i x3), (4, xm_i x4), (5, xm_i x5)] [] S) (h1 : wp_X12_reaches_116 h x1 x2 x3 x4 x5 S g Z32) : xm_W K 0 0 116 [(0, xm_r (some h)), (1, xm_i x1), (2, xm_i x2), (3, xm_i x3), (4, xm_i x4), (5, xm_i x5)] [] S := by
  unfold wp_X12_reaches_116 at h1
  obtain ⟨y1, e2⟩ : ∃ y1, y1 = (x5 + (1 : Int32)) := ⟨_, rfl⟩
  have h1 := h1 y1 e2
  refine x_iinc (v := y1) (L' := [(5, xm_i y1), (0, xm_r (some h)), (1, xm_i x1), (2, xm_i x2), (3, xm_i x3), (4, xm_i x4)]) C 5 dX12_reaches_116 rfl (by rw [e2]; rfl) (by decide) rfl ?_
  refine x_goto (tgt := 32) C dX12_reaches_119 (by decide) ?_
  refine x_keep (L' := [(0, xm_r (some h)), (1, xm_i x1), (2, xm_i x2), (3, xm_i x3), (4, xm_i x4), (5, xm_i y1)]) C [1, 2, 3, 4, 5, 0] rfl ?_
  exact hZ32 x1 x2 x3 x4 y1 S h1
def wp_X12_reaches_114 (h : Nat) (x1 : Int32) (x2 : Int32) (x3 : Int32) (x5 : Int32) (s0 : Int32) (S : xm_S) (g : Int32 → xm_S → Prop) (Z32 : Int32 → Int32 → Int32 → Int32 → Int32 → xm_S → Prop) : Prop :=
  wp_X12_reaches_116 h x1 x2 x3 s0 x5 S g Z32
set_option maxRecDepth 100000 in
set_option maxHeartbeats 4000000 in
theorem kp_X12_reaches_114 {K : xm_K} (h : Nat) (x1 : Int32) (x2 : Int32) (x3 : Int32) (x5 : Int32) (s0 : Int32) (S : xm_S) {g : Int32 → xm_S → Prop} {Z32 : Int32 → Int32 → Int32 → Int32 → Int32 → xm_S → Prop} (C : xm_Cx K cX12_reaches RX12 10 (some (FieldType.int)) rm_X12_reaches) (N : xm_Nx K) (hg : ∀ v S, g v S → xm_q K (some (xm_i v)) S) (hZ32 : ∀ x1 x2 x3 x4 x5 S, Z32 x1 x2 x3 x4 x5 S → xm_W K 0 0 32 [(0, xm_r (some h)), (1, xm_i x1), (2, xm_i x2), (3, xm_i x3), (4, xm_i x4), (5, xm_i x5)] [] S) (h1 : wp_X12_reaches_114 h x1 x2 x3 x5 s0 S g Z32) : xm_W K 0 0 114 [(0, xm_r (some h)), (1, xm_i x1), (2, xm_i x2), (3, xm_i x3), (5, xm_i x5)] [xm_i s0] S := by
  unfold wp_X12_reaches_114 at h1
  refine x_istore (L' := [(4, xm_i s0), (0, xm_r (some h)), (1, xm_i x1), (2, xm_i x2), (3, xm_i x3), (5, xm_i x5)]) C dX12_reaches_114 (by decide) rfl ?_
  refine x_keep (L' := [(0, xm_r (some h)), (1, xm_i x1), (2, xm_i x2), (3, xm_i x3), (4, xm_i s0), (5, xm_i x5)]) C [1, 2, 3, 4, 0, 5] rfl ?_
  exact kp_X12_reaches_116 h x1 x2 x3 s0 x5 S C N hg hZ32 h1
def wp_X12_reaches_113 (h : Nat) (x1 : Int32) (x2 : Int32) (x3 : Int32) (x5 : Int32) (S : xm_S) (g : Int32 → xm_S → Prop) (Z32 : Int32 → Int32 → Int32 → Int32 → Int32 → xm_S → Prop) : Prop :=
  wp_X12_reaches_114 h x1 x2 x3 x5 (0 : Int32) S g Z32
set_option maxRecDepth 100000 in
set_option maxHeartbeats 4000000 in
theorem kp_X12_reaches_113 {K : xm_K} (h : Nat) (x1 : Int32) (x2 : Int32) (x3 : Int32) (x5 : Int32) (S : xm_S) {g : Int32 → xm_S → Prop} {Z32 : Int32 → Int32 → Int32 → Int32 → Int32 → xm_S → Prop} (C : xm_Cx K cX12_reaches RX12 10 (some (FieldType.int)) rm_X12_reaches) (N : xm_Nx K) (hg : ∀ v S, g v S → xm_q K (some (xm_i v)) S) (hZ32 : ∀ x1 x2 x3 x4 x5 S, Z32 x1 x2 x3 x4 x5 S → xm_W K 0 0 32 [(0, xm_r (some h)), (1, xm_i x1), (2, xm_i x2), (3, xm_i x3), (4, xm_i x4), (5, xm_i x5)] [] S) (h1 : wp_X12_reaches_113 h x1 x2 x3 x5 S g Z32) : xm_W K 0 0 113 [(0, xm_r (some h)), (1, xm_i x1), (2, xm_i x2), (3, xm_i x3), (5, xm_i x5)] [] S := by
  unfold wp_X12_reaches_113 at h1
  refine x_iconst (v := (0 : Int32)) C dX12_reaches_113 (by decide) ?_
  exact kp_X12_reaches_114 h x1 x2 x3 x5 (0 : Int32) S C N hg hZ32 h1
def wp_X12_reaches_317 (h : Nat) (s0 : Int32) (S : xm_S) (g : Int32 → xm_S → Prop) : Prop :=
  g s0 S
set_option maxRecDepth 100000 in
set_option maxHeartbeats 4000000 in
theorem kp_X12_reaches_317 {K : xm_K} (h : Nat) (s0 : Int32) (S : xm_S) {g : Int32 → xm_S → Prop} (C : xm_Cx K cX12_reaches RX12 10 (some (FieldType.int)) rm_X12_reaches) (N : xm_Nx K) (hg : ∀ v S, g v S → xm_q K (some (xm_i v)) S)  (h1 : wp_X12_reaches_317 h s0 S g) : xm_W K 0 0 317 [] [xm_i s0] S := by
  unfold wp_X12_reaches_317 at h1
  exact x_iret C (Nat.le_of_ble_eq_true rfl) (Nat.le_of_ble_eq_true rfl) rfl dX12_reaches_317 (hg _ _ h1)
def wp_X12_reaches_307 (h : Nat) (x3 : Int32) (x4 : Int32) (S : xm_S) (g : Int32 → xm_S → Prop) : Prop :=
  (x4 = 0 → wp_X12_reaches_317 h (-1 : Int32) S g) ∧ (¬ x4 = 0 → wp_X12_reaches_317 h x3 S g)
set_option maxRecDepth 100000 in
set_option maxHeartbeats 4000000 in
theorem kp_X12_reaches_307 {K : xm_K} (h : Nat) (x3 : Int32) (x4 : Int32) (S : xm_S) {g : Int32 → xm_S → Prop} (C : xm_Cx K cX12_reaches RX12 10 (some (FieldType.int)) rm_X12_reaches) (N : xm_Nx K) (hg : ∀ v S, g v S → xm_q K (some (xm_i v)) S)  (h1 : wp_X12_reaches_307 h x3 x4 S g) : xm_W K 0 0 307 [(3, xm_i x3), (4, xm_i x4)] [] S := by
  unfold wp_X12_reaches_307 at h1
  refine x_iload C 1 dX12_reaches_307 rfl ?_
  refine x_if_eq (tgt := 316) C dX12_reaches_309 (by decide) (fun z9 => ?_) (fun z9 => ?_)
  · have h1 := h1.1 z9
    refine x_iconst (v := (-1 : Int32)) C dX12_reaches_316 (by decide) ?_
    refine x_keep (L' := []) C [] rfl ?_
    exact kp_X12_reaches_317 h (-1 : Int32) S C N hg  h1
  · have h1 := h1.2 z9
    refine x_iload_n C 0 dX12_reaches_312 rfl rfl ?_
    refine x_goto (tgt := 317) C dX12_reaches_313 (by decide) ?_
    refine x_keep (L' := []) C [] rfl ?_
    exact kp_X12_reaches_317 h x3 S C N hg  h1
def wp_X12_reaches_298 (h : Nat) (x1 : Int32) (x3 : Int32) (x4 : Int32) (x5 : Int32) (x6 : Int32) (S : xm_S) (g : Int32 → xm_S → Prop) (Z125 : Int32 → Int32 → Int32 → Int32 → xm_S → Prop) (Z150 : Int32 → Int32 → Int32 → Int32 → Int32 → xm_S → Prop) : Prop :=
  ∀ y3, y3 = (x6 + (1 : Int32)) → Z150 x1 x3 x4 x5 y3 S
set_option maxRecDepth 100000 in
set_option maxHeartbeats 4000000 in
theorem kp_X12_reaches_298 {K : xm_K} (h : Nat) (x1 : Int32) (x3 : Int32) (x4 : Int32) (x5 : Int32) (x6 : Int32) (S : xm_S) {g : Int32 → xm_S → Prop} {Z125 : Int32 → Int32 → Int32 → Int32 → xm_S → Prop} {Z150 : Int32 → Int32 → Int32 → Int32 → Int32 → xm_S → Prop} (C : xm_Cx K cX12_reaches RX12 10 (some (FieldType.int)) rm_X12_reaches) (N : xm_Nx K) (hg : ∀ v S, g v S → xm_q K (some (xm_i v)) S) (hZ125 : ∀ x1 x3 x4 x5 S, Z125 x1 x3 x4 x5 S → xm_W K 0 0 125 [(0, xm_r (some h)), (1, xm_i x1), (3, xm_i x3), (4, xm_i x4), (5, xm_i x5)] [] S) (hZ150 : ∀ x1 x3 x4 x5 x6 S, Z150 x1 x3 x4 x5 x6 S → xm_W K 0 0 150 [(0, xm_r (some h)), (1, xm_i x1), (3, xm_i x3), (4, xm_i x4), (5, xm_i x5), (6, xm_i x6)] [] S) (h1 : wp_X12_reaches_298 h x1 x3 x4 x5 x6 S g Z125 Z150) : xm_W K 0 0 298 [(0, xm_r (some h)), (1, xm_i x1), (3, xm_i x3), (4, xm_i x4), (5, xm_i x5), (6, xm_i x6)] [] S := by
  unfold wp_X12_reaches_298 at h1
  obtain ⟨y3, e4⟩ : ∃ y3, y3 = (x6 + (1 : Int32)) := ⟨_, rfl⟩
  have h1 := h1 y3 e4
  refine x_iinc (v := y3) (L' := [(6, xm_i y3), (0, xm_r (some h)), (1, xm_i x1), (3, xm_i x3), (4, xm_i x4), (5, xm_i x5)]) C 5 dX12_reaches_298 rfl (by rw [e4]; rfl) (by decide) rfl ?_
  refine x_goto (tgt := 150) C dX12_reaches_301 (by decide) ?_
  refine x_keep (L' := [(0, xm_r (some h)), (1, xm_i x1), (3, xm_i x3), (4, xm_i x4), (5, xm_i x5), (6, xm_i y3)]) C [1, 2, 3, 4, 5, 0] rfl ?_
  exact hZ150 x1 x3 x4 x5 y3 S h1
def wp_X12_reaches_292 (h : Nat) (x1 : Int32) (x3 : Int32) (x4 : Int32) (x5 : Int32) (x6 : Int32) (x7 : Int32) (x8 : Int32) (S : xm_S) (g : Int32 → xm_S → Prop) (Z125 : Int32 → Int32 → Int32 → Int32 → xm_S → Prop) (Z150 : Int32 → Int32 → Int32 → Int32 → Int32 → xm_S → Prop) (Z192 : Int32 → Int32 → Int32 → Int32 → Int32 → Int32 → Int32 → xm_S → Prop) : Prop :=
  ∀ y5, y5 = (x8 + (1 : Int32)) → Z192 x1 x3 x4 x5 x6 x7 y5 S
set_option maxRecDepth 100000 in
set_option maxHeartbeats 4000000 in
theorem kp_X12_reaches_292 {K : xm_K} (h : Nat) (x1 : Int32) (x3 : Int32) (x4 : Int32) (x5 : Int32) (x6 : Int32) (x7 : Int32) (x8 : Int32) (S : xm_S) {g : Int32 → xm_S → Prop} {Z125 : Int32 → Int32 → Int32 → Int32 → xm_S → Prop} {Z150 : Int32 → Int32 → Int32 → Int32 → Int32 → xm_S → Prop} {Z192 : Int32 → Int32 → Int32 → Int32 → Int32 → Int32 → Int32 → xm_S → Prop} (C : xm_Cx K cX12_reaches RX12 10 (some (FieldType.int)) rm_X12_reaches) (N : xm_Nx K) (hg : ∀ v S, g v S → xm_q K (some (xm_i v)) S) (hZ125 : ∀ x1 x3 x4 x5 S, Z125 x1 x3 x4 x5 S → xm_W K 0 0 125 [(0, xm_r (some h)), (1, xm_i x1), (3, xm_i x3), (4, xm_i x4), (5, xm_i x5)] [] S) (hZ150 : ∀ x1 x3 x4 x5 x6 S, Z150 x1 x3 x4 x5 x6 S → xm_W K 0 0 150 [(0, xm_r (some h)), (1, xm_i x1), (3, xm_i x3), (4, xm_i x4), (5, xm_i x5), (6, xm_i x6)] [] S) (hZ192 : ∀ x1 x3 x4 x5 x6 x7 x8 S, Z192 x1 x3 x4 x5 x6 x7 x8 S → xm_W K 0 0 192 [(0, xm_r (some h)), (1, xm_i x1), (3, xm_i x3), (4, xm_i x4), (5, xm_i x5), (6, xm_i x6), (7, xm_i x7), (8, xm_i x8)] [] S) (h1 : wp_X12_reaches_292 h x1 x3 x4 x5 x6 x7 x8 S g Z125 Z150 Z192) : xm_W K 0 0 292 [(0, xm_r (some h)), (1, xm_i x1), (3, xm_i x3), (4, xm_i x4), (5, xm_i x5), (6, xm_i x6), (7, xm_i x7), (8, xm_i x8)] [] S := by
  unfold wp_X12_reaches_292 at h1
  obtain ⟨y5, e6⟩ : ∃ y5, y5 = (x8 + (1 : Int32)) := ⟨_, rfl⟩
  have h1 := h1 y5 e6
  refine x_iinc (v := y5) (L' := [(8, xm_i y5), (0, xm_r (some h)), (1, xm_i x1), (3, xm_i x3), (4, xm_i x4), (5, xm_i x5), (6, xm_i x6), (7, xm_i x7)]) C 7 dX12_reaches_292 rfl (by rw [e6]; rfl) (by decide) rfl ?_
  refine x_goto (tgt := 192) C dX12_reaches_295 (by decide) ?_
  refine x_keep (L' := [(0, xm_r (some h)), (1, xm_i x1), (3, xm_i x3), (4, xm_i x4), (5, xm_i x5), (6, xm_i x6), (7, xm_i x7), (8, xm_i y5)]) C [1, 2, 3, 4, 5, 6, 7, 0] rfl ?_
  exact hZ192 x1 x3 x4 x5 x6 x7 y5 S h1
def wp_X12_reaches_290 (h : Nat) (x1 : Int32) (x3 : Int32) (x5 : Int32) (x6 : Int32) (x7 : Int32) (x8 : Int32) (s0 : Int32) (S : xm_S) (g : Int32 → xm_S → Prop) (Z125 : Int32 → Int32 → Int32 → Int32 → xm_S → Prop) (Z150 : Int32 → Int32 → Int32 → Int32 → Int32 → xm_S → Prop) (Z192 : Int32 → Int32 → Int32 → Int32 → Int32 → Int32 → Int32 → xm_S → Prop) : Prop :=
  wp_X12_reaches_292 h x1 x3 s0 x5 x6 x7 x8 S g Z125 Z150 Z192
set_option maxRecDepth 100000 in
set_option maxHeartbeats 4000000 in
theorem kp_X12_reaches_290 {K : xm_K} (h : Nat) (x1 : Int32) (x3 : Int32) (x5 : Int32) (x6 : Int32) (x7 : Int32) (x8 : Int32) (s0 : Int32) (S : xm_S) {g : Int32 → xm_S → Prop} {Z125 : Int32 → Int32 → Int32 → Int32 → xm_S → Prop} {Z150 : Int32 → Int32 → Int32 → Int32 → Int32 → xm_S → Prop} {Z192 : Int32 → Int32 → Int32 → Int32 → Int32 → Int32 → Int32 → xm_S → Prop} (C : xm_Cx K cX12_reaches RX12 10 (some (FieldType.int)) rm_X12_reaches) (N : xm_Nx K) (hg : ∀ v S, g v S → xm_q K (some (xm_i v)) S) (hZ125 : ∀ x1 x3 x4 x5 S, Z125 x1 x3 x4 x5 S → xm_W K 0 0 125 [(0, xm_r (some h)), (1, xm_i x1), (3, xm_i x3), (4, xm_i x4), (5, xm_i x5)] [] S) (hZ150 : ∀ x1 x3 x4 x5 x6 S, Z150 x1 x3 x4 x5 x6 S → xm_W K 0 0 150 [(0, xm_r (some h)), (1, xm_i x1), (3, xm_i x3), (4, xm_i x4), (5, xm_i x5), (6, xm_i x6)] [] S) (hZ192 : ∀ x1 x3 x4 x5 x6 x7 x8 S, Z192 x1 x3 x4 x5 x6 x7 x8 S → xm_W K 0 0 192 [(0, xm_r (some h)), (1, xm_i x1), (3, xm_i x3), (4, xm_i x4), (5, xm_i x5), (6, xm_i x6), (7, xm_i x7), (8, xm_i x8)] [] S) (h1 : wp_X12_reaches_290 h x1 x3 x5 x6 x7 x8 s0 S g Z125 Z150 Z192) : xm_W K 0 0 290 [(0, xm_r (some h)), (1, xm_i x1), (3, xm_i x3), (5, xm_i x5), (6, xm_i x6), (7, xm_i x7), (8, xm_i x8)] [xm_i s0] S := by
  unfold wp_X12_reaches_290 at h1
  refine x_istore (L' := [(4, xm_i s0), (0, xm_r (some h)), (1, xm_i x1), (3, xm_i x3), (5, xm_i x5), (6, xm_i x6), (7, xm_i x7), (8, xm_i x8)]) C dX12_reaches_290 (by decide) rfl ?_
  refine x_keep (L' := [(0, xm_r (some h)), (1, xm_i x1), (3, xm_i x3), (4, xm_i s0), (5, xm_i x5), (6, xm_i x6), (7, xm_i x7), (8, xm_i x8)]) C [1, 2, 3, 0, 4, 5, 6, 7] rfl ?_
  exact kp_X12_reaches_292 h x1 x3 s0 x5 x6 x7 x8 S C N hg hZ125 hZ150 hZ192 h1
def wp_X12_reaches_289 (h : Nat) (x1 : Int32) (x3 : Int32) (x5 : Int32) (x6 : Int32) (x7 : Int32) (x8 : Int32) (S : xm_S) (g : Int32 → xm_S → Prop) (Z125 : Int32 → Int32 → Int32 → Int32 → xm_S → Prop) (Z150 : Int32 → Int32 → Int32 → Int32 → Int32 → xm_S → Prop) (Z192 : Int32 → Int32 → Int32 → Int32 → Int32 → Int32 → Int32 → xm_S → Prop) : Prop :=
  wp_X12_reaches_290 h x1 x3 x5 x6 x7 x8 (0 : Int32) S g Z125 Z150 Z192
set_option maxRecDepth 100000 in
set_option maxHeartbeats 4000000 in
theorem kp_X12_reaches_289 {K : xm_K} (h : Nat) (x1 : Int32) (x3 : Int32) (x5 : Int32) (x6 : Int32) (x7 : Int32) (x8 : Int32) (S : xm_S) {g : Int32 → xm_S → Prop} {Z125 : Int32 → Int32 → Int32 → Int32 → xm_S → Prop} {Z150 : Int32 → Int32 → Int32 → Int32 → Int32 → xm_S → Prop} {Z192 : Int32 → Int32 → Int32 → Int32 → Int32 → Int32 → Int32 → xm_S → Prop} (C : xm_Cx K cX12_reaches RX12 10 (some (FieldType.int)) rm_X12_reaches) (N : xm_Nx K) (hg : ∀ v S, g v S → xm_q K (some (xm_i v)) S) (hZ125 : ∀ x1 x3 x4 x5 S, Z125 x1 x3 x4 x5 S → xm_W K 0 0 125 [(0, xm_r (some h)), (1, xm_i x1), (3, xm_i x3), (4, xm_i x4), (5, xm_i x5)] [] S) (hZ150 : ∀ x1 x3 x4 x5 x6 S, Z150 x1 x3 x4 x5 x6 S → xm_W K 0 0 150 [(0, xm_r (some h)), (1, xm_i x1), (3, xm_i x3), (4, xm_i x4), (5, xm_i x5), (6, xm_i x6)] [] S) (hZ192 : ∀ x1 x3 x4 x5 x6 x7 x8 S, Z192 x1 x3 x4 x5 x6 x7 x8 S → xm_W K 0 0 192 [(0, xm_r (some h)), (1, xm_i x1), (3, xm_i x3), (4, xm_i x4), (5, xm_i x5), (6, xm_i x6), (7, xm_i x7), (8, xm_i x8)] [] S) (h1 : wp_X12_reaches_289 h x1 x3 x5 x6 x7 x8 S g Z125 Z150 Z192) : xm_W K 0 0 289 [(0, xm_r (some h)), (1, xm_i x1), (3, xm_i x3), (5, xm_i x5), (6, xm_i x6), (7, xm_i x7), (8, xm_i x8)] [] S := by
  unfold wp_X12_reaches_289 at h1
  refine x_iconst (v := (0 : Int32)) C dX12_reaches_289 (by decide) ?_
  exact kp_X12_reaches_290 h x1 x3 x5 x6 x7 x8 (0 : Int32) S C N hg hZ125 hZ150 hZ192 h1
def wp_X12_reaches_192B (h : Nat) (x1 : Int32) (x3 : Int32) (x4 : Int32) (x5 : Int32) (x6 : Int32) (x7 : Int32) (x8 : Int32) (S : xm_S) (g : Int32 → xm_S → Prop) (Z125 : Int32 → Int32 → Int32 → Int32 → xm_S → Prop) (Z150 : Int32 → Int32 → Int32 → Int32 → Int32 → xm_S → Prop) (Z192 : Int32 → Int32 → Int32 → Int32 → Int32 → Int32 → Int32 → xm_S → Prop) : Prop :=
  st_t S h = some (12, 0) ∧ ∃ n8, (st_r S h 8) = some n8 ∧ ∃ z11, st_t S n8 = some (100, z11) ∧ vp_in x7 z11 ∧ ((((nI 4) * x7) + (st_i S n8 (x7).toNatClampNeg)) ≤ x8 → wp_X12_reaches_298 h x1 x3 x4 x5 x6 S g Z125 Z150) ∧ (¬ (((nI 4) * x7) + (st_i S n8 (x7).toNatClampNeg)) ≤ x8 → wp_X12_isIn x3 x6 S (fun r14 S13 => (r14 = 0 → wp_X12_reaches_298 h x1 x3 x4 x5 x6 S13 g Z125 Z150) ∧ (¬ r14 = 0 → st_t S13 h = some (12, 0) ∧ wp_X12_isActive h x8 x6 x1 S13 (fun r17 S16 => (r17 = 0 → wp_X12_reaches_292 h x1 x3 x4 x5 x6 x7 x8 S16 g Z125 Z150 Z192) ∧ (¬ r17 = 0 → st_t S16 h = some (12, 0) ∧ ∃ n19, (st_r S16 h 9) = some n19 ∧ ∃ z22, st_t S16 n19 = some (100, z22) ∧ vp_in x8 z22 ∧ ∃ n24, (st_r S16 h 10) = some n24 ∧ ∃ z27, st_t S16 n24 = some (100, z27) ∧ vp_in x8 z27 ∧ wp_X12_meeters h x8 (st_i S16 n19 (x8).toNatClampNeg) (st_i S16 n24 (x8).toNatClampNeg) S16 (fun r30 S29 => st_t S29 h = some (12, 0) ∧ ∃ n32, (st_r S29 h 9) = some n32 ∧ ∃ z35, st_t S29 n32 = some (100, z35) ∧ vp_in x8 z35 ∧ ∃ n37, (st_r S29 h 10) = some n37 ∧ ∃ z40, st_t S29 n37 = some (100, z40) ∧ vp_in x8 z40 ∧ wp_X12_asks h (st_i S29 n32 (x8).toNatClampNeg) (st_i S29 n37 (x8).toNatClampNeg) S29 (fun S42 => ∀ y44, y44 = (x3 ||| r30) → (x4 = 0 → wp_X12_reaches_289 h x1 y44 x5 x6 x7 x8 S42 g Z125 Z150 Z192) ∧ (¬ x4 = 0 → (r30 = 0 → wp_X12_reaches_289 h x1 y44 x5 x6 x7 x8 S42 g Z125 Z150 Z192) ∧ (¬ r30 = 0 → wp_X12_reaches_290 h x1 y44 x5 x6 x7 x8 (1 : Int32) S42 g Z125 Z150 Z192)))))))))
def wp_X12_reaches_192 (h : Nat) (x1 : Int32) (x3 : Int32) (x4 : Int32) (x5 : Int32) (x6 : Int32) (x7 : Int32) (x8 : Int32) (S : xm_S) (g : Int32 → xm_S → Prop) (Z125 : Int32 → Int32 → Int32 → Int32 → xm_S → Prop) (Z150 : Int32 → Int32 → Int32 → Int32 → Int32 → xm_S → Prop) : Prop :=
  ∀ Z192 : Int32 → Int32 → Int32 → Int32 → Int32 → Int32 → Int32 → xm_S → Prop, (∀ x1 x3 x4 x5 x6 x7 x8 S, wp_X12_reaches_192B h x1 x3 x4 x5 x6 x7 x8 S g Z125 Z150 Z192 → Z192 x1 x3 x4 x5 x6 x7 x8 S) → Z192 x1 x3 x4 x5 x6 x7 x8 S
set_option maxRecDepth 100000 in
set_option maxHeartbeats 4000000 in
theorem kp_X12_reaches_192B {K : xm_K} (h : Nat) (x1 : Int32) (x3 : Int32) (x4 : Int32) (x5 : Int32) (x6 : Int32) (x7 : Int32) (x8 : Int32) (S : xm_S) {g : Int32 → xm_S → Prop} {Z125 : Int32 → Int32 → Int32 → Int32 → xm_S → Prop} {Z150 : Int32 → Int32 → Int32 → Int32 → Int32 → xm_S → Prop} {Z192 : Int32 → Int32 → Int32 → Int32 → Int32 → Int32 → Int32 → xm_S → Prop} (C : xm_Cx K cX12_reaches RX12 10 (some (FieldType.int)) rm_X12_reaches) (N : xm_Nx K) (hg : ∀ v S, g v S → xm_q K (some (xm_i v)) S) (hZ125 : ∀ x1 x3 x4 x5 S, Z125 x1 x3 x4 x5 S → xm_W K 0 0 125 [(0, xm_r (some h)), (1, xm_i x1), (3, xm_i x3), (4, xm_i x4), (5, xm_i x5)] [] S) (hZ150 : ∀ x1 x3 x4 x5 x6 S, Z150 x1 x3 x4 x5 x6 S → xm_W K 0 0 150 [(0, xm_r (some h)), (1, xm_i x1), (3, xm_i x3), (4, xm_i x4), (5, xm_i x5), (6, xm_i x6)] [] S) (hZ192 : ∀ x1 x3 x4 x5 x6 x7 x8 S, Z192 x1 x3 x4 x5 x6 x7 x8 S → xm_W K 0 0 192 [(0, xm_r (some h)), (1, xm_i x1), (3, xm_i x3), (4, xm_i x4), (5, xm_i x5), (6, xm_i x6), (7, xm_i x7), (8, xm_i x8)] [] S) (h1 : wp_X12_reaches_192B h x1 x3 x4 x5 x6 x7 x8 S g Z125 Z150 Z192) : xm_W K 0 0 192 [(0, xm_r (some h)), (1, xm_i x1), (3, xm_i x3), (4, xm_i x4), (5, xm_i x5), (6, xm_i x6), (7, xm_i x7), (8, xm_i x8)] [] S := by
  unfold wp_X12_reaches_192B at h1
  refine x_iload C 7 dX12_reaches_192 rfl ?_
  refine x_iconst (v := (nI 4)) C dX12_reaches_194 (by decide) ?_
  refine x_iload C 6 dX12_reaches_195 rfl ?_
  refine x_imul C dX12_reaches_197 ?_
  refine x_aload_n C 0 dX12_reaches_198 rfl rfl ?_
  obtain ⟨ht7, h1⟩ := h1
  refine x_getf_r (n := h) C rfl ht7 fd_184 (by decide) dX12_reaches_199 ?_
  refine x_iload C 6 dX12_reaches_202 rfl ?_
  obtain ⟨n8, hr9, h1⟩ := h1
  obtain ⟨z11, ht10, h1⟩ := h1
  obtain ⟨hi12, h1⟩ := h1
  refine x_iald (n := n8) C hr9 ht10 hi12 dX12_reaches_204 ?_
  refine x_iadd C dX12_reaches_205 ?_
  refine x_icmp_ge (tgt := 298) C dX12_reaches_206 (by decide) (fun z9 => ?_) (fun z9 => ?_)
  · have h1 := h1.1 z9
    refine x_keep (L' := [(0, xm_r (some h)), (1, xm_i x1), (3, xm_i x3), (4, xm_i x4), (5, xm_i x5), (6, xm_i x6)]) C [0, 1, 2, 3, 4, 5] rfl ?_
    exact kp_X12_reaches_298 h x1 x3 x4 x5 x6 S C N hg hZ125 hZ150 h1
  · have h1 := h1.2 z9
    refine x_iload_n C 2 dX12_reaches_209 rfl rfl ?_
    refine x_iload C 5 dX12_reaches_210 rfl ?_
    refine x_callS (rm' := rm_X12_isIn) C (kp_X12_isIn_met h1) lk_105 gw_624 rfl (Nat.le_of_ble_eq_true rfl) ⟨Nat.le_of_ble_eq_true rfl, Nat.le_of_ble_eq_true rfl, (Nat.le_of_ble_eq_true rfl), (Nat.le_of_ble_eq_true rfl)⟩ dX12_reaches_212 xm_kx (xm_ki (fun r14 S13 h1 => ?_))
    refine x_if_eq (tgt := 298) C dX12_reaches_215 (by decide) (fun z9 => ?_) (fun z9 => ?_)
    · have h1 := h1.1 z9
      refine x_keep (L' := [(0, xm_r (some h)), (1, xm_i x1), (3, xm_i x3), (4, xm_i x4), (5, xm_i x5), (6, xm_i x6)]) C [0, 1, 2, 3, 4, 5] rfl ?_
      exact kp_X12_reaches_298 h x1 x3 x4 x5 x6 S13 C N hg hZ125 hZ150 h1
    · have h1 := h1.2 z9
      refine x_aload_n C 0 dX12_reaches_218 rfl rfl ?_
      refine x_iload C 7 dX12_reaches_219 rfl ?_
      refine x_iload C 5 dX12_reaches_221 rfl ?_
      refine x_iload_n C 1 dX12_reaches_223 rfl rfl ?_
      obtain ⟨ht15, h1⟩ := h1
      refine x_callV (rm' := rm_X12_isActive) (n := h) C (kp_X12_isActive_met h1) lk_106 gw_631 gw_632 xv_12 rfl rfl ht15 rfl (Nat.le_of_ble_eq_true rfl) ⟨Nat.le_of_ble_eq_true rfl, Nat.le_of_ble_eq_true rfl, (Nat.le_of_ble_eq_true rfl), (Nat.le_of_ble_eq_true rfl)⟩ dX12_reaches_224 xm_kx (xm_ki (fun r17 S16 h1 => ?_))
      refine x_if_eq (tgt := 292) C dX12_reaches_227 (by decide) (fun z9 => ?_) (fun z9 => ?_)
      · have h1 := h1.1 z9
        exact kp_X12_reaches_292 h x1 x3 x4 x5 x6 x7 x8 S16 C N hg hZ125 hZ150 hZ192 h1
      · have h1 := h1.2 z9
        refine x_aload_n C 0 dX12_reaches_230 rfl rfl ?_
        refine x_iload C 7 dX12_reaches_231 rfl ?_
        refine x_aload_n C 0 dX12_reaches_233 rfl rfl ?_
        obtain ⟨ht18, h1⟩ := h1
        refine x_getf_r (n := h) C rfl ht18 fd_185 (by decide) dX12_reaches_234 ?_
        refine x_iload C 7 dX12_reaches_237 rfl ?_
        obtain ⟨n19, hr20, h1⟩ := h1
        obtain ⟨z22, ht21, h1⟩ := h1
        obtain ⟨hi23, h1⟩ := h1
        refine x_iald (n := n19) C hr20 ht21 hi23 dX12_reaches_239 ?_
        refine x_aload_n C 0 dX12_reaches_240 rfl rfl ?_
        refine x_getf_r (n := h) C rfl ht18 fd_186 (by decide) dX12_reaches_241 ?_
        refine x_iload C 7 dX12_reaches_244 rfl ?_
        obtain ⟨n24, hr25, h1⟩ := h1
        obtain ⟨z27, ht26, h1⟩ := h1
        obtain ⟨hi28, h1⟩ := h1
        refine x_iald (n := n24) C hr25 ht26 hi28 dX12_reaches_246 ?_
        refine x_callV (rm' := rm_X12_meeters) (n := h) C (kp_X12_meeters_met h1) lk_107 gw_637 gw_638 xv_12 rfl rfl ht18 rfl (Nat.le_of_ble_eq_true rfl) ⟨Nat.le_of_ble_eq_true rfl, Nat.le_of_ble_eq_true rfl, (Nat.le_of_ble_eq_true rfl), (Nat.le_of_ble_eq_true rfl)⟩ dX12_reaches_247 xm_kx (xm_ki (fun r30 S29 h1 => ?_))
        refine x_istore (L' := [(9, xm_i r30), (0, xm_r (some h)), (1, xm_i x1), (3, xm_i x3), (4, xm_i x4), (5, xm_i x5), (6, xm_i x6), (7, xm_i x7), (8, xm_i x8)]) C dX12_reaches_250 (by decide) rfl ?_
        refine x_aload_n C 1 dX12_reaches_252 rfl rfl ?_
        refine x_aload_n C 1 dX12_reaches_253 rfl rfl ?_
        obtain ⟨ht31, h1⟩ := h1
        refine x_getf_r (n := h) C rfl ht31 fd_185 (by decide) dX12_reaches_254 ?_
        refine x_iload C 8 dX12_reaches_257 rfl ?_
        obtain ⟨n32, hr33, h1⟩ := h1
        obtain ⟨z35, ht34, h1⟩ := h1
        obtain ⟨hi36, h1⟩ := h1
        refine x_iald (n := n32) C hr33 ht34 hi36 dX12_reaches_259 ?_
        refine x_aload_n C 1 dX12_reaches_260 rfl rfl ?_
        refine x_getf_r (n := h) C rfl ht31 fd_186 (by decide) dX12_reaches_261 ?_
        refine x_iload C 8 dX12_reaches_264 rfl ?_
        obtain ⟨n37, hr38, h1⟩ := h1
        obtain ⟨z40, ht39, h1⟩ := h1
        obtain ⟨hi41, h1⟩ := h1
        refine x_iald (n := n37) C hr38 ht39 hi41 dX12_reaches_266 ?_
        refine x_callV (rm' := rm_X12_asks) (n := h) C (kp_X12_asks_met h1) lk_108 gw_641 gw_642 xv_12 rfl rfl ht31 rfl (Nat.le_of_ble_eq_true rfl) ⟨Nat.le_of_ble_eq_true rfl, Nat.le_of_ble_eq_true rfl, (Nat.le_of_ble_eq_true rfl), (Nat.le_of_ble_eq_true rfl)⟩ dX12_reaches_267 xm_kx (xm_kv (fun S42 h1 => ?_))
        refine x_iload_n C 3 dX12_reaches_270 rfl rfl ?_
        refine x_iload C 0 dX12_reaches_271 rfl ?_
        refine x_ior C dX12_reaches_273 ?_
        refine x_topi (fun y44 e45 => ?_)
        have h1 := h1 y44 e45
        refine x_istore_n (L' := [(3, xm_i y44), (9, xm_i r30), (0, xm_r (some h)), (1, xm_i x1), (4, xm_i x4), (5, xm_i x5), (6, xm_i x6), (7, xm_i x7), (8, xm_i x8)]) C dX12_reaches_274 rfl (by decide) rfl ?_
        refine x_iload C 4 dX12_reaches_275 rfl ?_
        refine x_if_eq (tgt := 289) C dX12_reaches_277 (by decide) (fun z9 => ?_) (fun z9 => ?_)
        · have h1 := h1.1 z9
          refine x_keep (L' := [(0, xm_r (some h)), (1, xm_i x1), (3, xm_i y44), (5, xm_i x5), (6, xm_i x6), (7, xm_i x7), (8, xm_i x8)]) C [2, 3, 0, 5, 6, 7, 8] rfl ?_
          exact kp_X12_reaches_289 h x1 y44 x5 x6 x7 x8 S42 C N hg hZ125 hZ150 hZ192 h1
        · have h1 := h1.2 z9
          refine x_iload C 1 dX12_reaches_280 rfl ?_
          refine x_if_eq (tgt := 289) C dX12_reaches_282 (by decide) (fun z9 => ?_) (fun z9 => ?_)
          · have h1 := h1.1 z9
            refine x_keep (L' := [(0, xm_r (some h)), (1, xm_i x1), (3, xm_i y44), (5, xm_i x5), (6, xm_i x6), (7, xm_i x7), (8, xm_i x8)]) C [2, 3, 0, 5, 6, 7, 8] rfl ?_
            exact kp_X12_reaches_289 h x1 y44 x5 x6 x7 x8 S42 C N hg hZ125 hZ150 hZ192 h1
          · have h1 := h1.2 z9
            refine x_iconst (v := (1 : Int32)) C dX12_reaches_285 (by decide) ?_
            refine x_goto (tgt := 290) C dX12_reaches_286 (by decide) ?_
            refine x_keep (L' := [(0, xm_r (some h)), (1, xm_i x1), (3, xm_i y44), (5, xm_i x5), (6, xm_i x6), (7, xm_i x7), (8, xm_i x8)]) C [2, 3, 0, 5, 6, 7, 8] rfl ?_
            exact kp_X12_reaches_290 h x1 y44 x5 x6 x7 x8 (1 : Int32) S42 C N hg hZ125 hZ150 hZ192 h1
theorem kp_X12_reaches_192 {K : xm_K} (h : Nat) (x1 : Int32) (x3 : Int32) (x4 : Int32) (x5 : Int32) (x6 : Int32) (x7 : Int32) (x8 : Int32) (S : xm_S) {g : Int32 → xm_S → Prop} {Z125 : Int32 → Int32 → Int32 → Int32 → xm_S → Prop} {Z150 : Int32 → Int32 → Int32 → Int32 → Int32 → xm_S → Prop} (C : xm_Cx K cX12_reaches RX12 10 (some (FieldType.int)) rm_X12_reaches) (N : xm_Nx K) (hg : ∀ v S, g v S → xm_q K (some (xm_i v)) S) (hZ125 : ∀ x1 x3 x4 x5 S, Z125 x1 x3 x4 x5 S → xm_W K 0 0 125 [(0, xm_r (some h)), (1, xm_i x1), (3, xm_i x3), (4, xm_i x4), (5, xm_i x5)] [] S) (hZ150 : ∀ x1 x3 x4 x5 x6 S, Z150 x1 x3 x4 x5 x6 S → xm_W K 0 0 150 [(0, xm_r (some h)), (1, xm_i x1), (3, xm_i x3), (4, xm_i x4), (5, xm_i x5), (6, xm_i x6)] [] S) (h1 : wp_X12_reaches_192 h x1 x3 x4 x5 x6 x7 x8 S g Z125 Z150) : xm_W K 0 0 192 [(0, xm_r (some h)), (1, xm_i x1), (3, xm_i x3), (4, xm_i x4), (5, xm_i x5), (6, xm_i x6), (7, xm_i x7), (8, xm_i x8)] [] S :=
  h1 (fun x1 x3 x4 x5 x6 x7 x8 S => xm_W K 0 0 192 [(0, xm_r (some h)), (1, xm_i x1), (3, xm_i x3), (4, xm_i x4), (5, xm_i x5), (6, xm_i x6), (7, xm_i x7), (8, xm_i x8)] [] S) (fun x1 x3 x4 x5 x6 x7 x8 S hb => kp_X12_reaches_192B h x1 x3 x4 x5 x6 x7 x8 S C N hg hZ125 hZ150 (fun x1 x3 x4 x5 x6 x7 x8 S hz => hz) hb)
def wp_X12_reaches_184 (h : Nat) (x1 : Int32) (x3 : Int32) (x4 : Int32) (x5 : Int32) (x6 : Int32) (s0 : Int32) (S : xm_S) (g : Int32 → xm_S → Prop) (Z125 : Int32 → Int32 → Int32 → Int32 → xm_S → Prop) (Z150 : Int32 → Int32 → Int32 → Int32 → Int32 → xm_S → Prop) : Prop :=
  ∀ y46, y46 = ((nI 4) * s0) → wp_X12_reaches_192 h x1 x3 x4 x5 x6 s0 y46 S g Z125 Z150
set_option maxRecDepth 100000 in
set_option maxHeartbeats 4000000 in
theorem kp_X12_reaches_184 {K : xm_K} (h : Nat) (x1 : Int32) (x3 : Int32) (x4 : Int32) (x5 : Int32) (x6 : Int32) (s0 : Int32) (S : xm_S) {g : Int32 → xm_S → Prop} {Z125 : Int32 → Int32 → Int32 → Int32 → xm_S → Prop} {Z150 : Int32 → Int32 → Int32 → Int32 → Int32 → xm_S → Prop} (C : xm_Cx K cX12_reaches RX12 10 (some (FieldType.int)) rm_X12_reaches) (N : xm_Nx K) (hg : ∀ v S, g v S → xm_q K (some (xm_i v)) S) (hZ125 : ∀ x1 x3 x4 x5 S, Z125 x1 x3 x4 x5 S → xm_W K 0 0 125 [(0, xm_r (some h)), (1, xm_i x1), (3, xm_i x3), (4, xm_i x4), (5, xm_i x5)] [] S) (hZ150 : ∀ x1 x3 x4 x5 x6 S, Z150 x1 x3 x4 x5 x6 S → xm_W K 0 0 150 [(0, xm_r (some h)), (1, xm_i x1), (3, xm_i x3), (4, xm_i x4), (5, xm_i x5), (6, xm_i x6)] [] S) (h1 : wp_X12_reaches_184 h x1 x3 x4 x5 x6 s0 S g Z125 Z150) : xm_W K 0 0 184 [(0, xm_r (some h)), (1, xm_i x1), (3, xm_i x3), (4, xm_i x4), (5, xm_i x5), (6, xm_i x6)] [xm_i s0] S := by
  unfold wp_X12_reaches_184 at h1
  refine x_istore (L' := [(7, xm_i s0), (0, xm_r (some h)), (1, xm_i x1), (3, xm_i x3), (4, xm_i x4), (5, xm_i x5), (6, xm_i x6)]) C dX12_reaches_184 (by decide) rfl ?_
  refine x_iconst (v := (nI 4)) C dX12_reaches_186 (by decide) ?_
  refine x_iload C 0 dX12_reaches_187 rfl ?_
  refine x_imul C dX12_reaches_189 ?_
  refine x_topi (fun y46 e47 => ?_)
  have h1 := h1 y46 e47
  refine x_istore (L' := [(8, xm_i y46), (7, xm_i s0), (0, xm_r (some h)), (1, xm_i x1), (3, xm_i x3), (4, xm_i x4), (5, xm_i x5), (6, xm_i x6)]) C dX12_reaches_190 (by decide) rfl ?_
  refine x_keep (L' := [(0, xm_r (some h)), (1, xm_i x1), (3, xm_i x3), (4, xm_i x4), (5, xm_i x5), (6, xm_i x6), (7, xm_i s0), (8, xm_i y46)]) C [2, 3, 4, 5, 6, 7, 1, 0] rfl ?_
  exact kp_X12_reaches_192 h x1 x3 x4 x5 x6 s0 y46 S C N hg hZ125 hZ150 h1
def wp_X12_reaches_150B (h : Nat) (x1 : Int32) (x3 : Int32) (x4 : Int32) (x5 : Int32) (x6 : Int32) (S : xm_S) (g : Int32 → xm_S → Prop) (Z125 : Int32 → Int32 → Int32 → Int32 → xm_S → Prop) (Z150 : Int32 → Int32 → Int32 → Int32 → Int32 → xm_S → Prop) : Prop :=
  ((nI 6) ≤ x6 → Z125 x1 x3 x4 x5 S) ∧ (¬ (nI 6) ≤ x6 → st_t S h = some (12, 0) ∧ ∃ n49, (st_r S h 33) = some n49 ∧ ∃ z52, st_t S n49 = some (100, z52) ∧ vp_in x6 z52 ∧ (¬ (st_i S n49 (x6).toNatClampNeg) = (-1 : Int32) → ∃ n54, (st_r S h 33) = some n54 ∧ ∃ z57, st_t S n54 = some (100, z57) ∧ vp_in x6 z57 ∧ wp_X12_reaches_184 h x1 x3 x4 x5 x6 (((nI 4) * x6) + (st_i S n54 (x6).toNatClampNeg)) S g Z125 Z150) ∧ ((st_i S n49 (x6).toNatClampNeg) = (-1 : Int32) → wp_X12_reaches_184 h x1 x3 x4 x5 x6 (0 : Int32) S g Z125 Z150))
def wp_X12_reaches_150 (h : Nat) (x1 : Int32) (x3 : Int32) (x4 : Int32) (x5 : Int32) (x6 : Int32) (S : xm_S) (g : Int32 → xm_S → Prop) (Z125 : Int32 → Int32 → Int32 → Int32 → xm_S → Prop) : Prop :=
  ∀ Z150 : Int32 → Int32 → Int32 → Int32 → Int32 → xm_S → Prop, (∀ x1 x3 x4 x5 x6 S, wp_X12_reaches_150B h x1 x3 x4 x5 x6 S g Z125 Z150 → Z150 x1 x3 x4 x5 x6 S) → Z150 x1 x3 x4 x5 x6 S
set_option maxRecDepth 100000 in
set_option maxHeartbeats 4000000 in
theorem kp_X12_reaches_150B {K : xm_K} (h : Nat) (x1 : Int32) (x3 : Int32) (x4 : Int32) (x5 : Int32) (x6 : Int32) (S : xm_S) {g : Int32 → xm_S → Prop} {Z125 : Int32 → Int32 → Int32 → Int32 → xm_S → Prop} {Z150 : Int32 → Int32 → Int32 → Int32 → Int32 → xm_S → Prop} (C : xm_Cx K cX12_reaches RX12 10 (some (FieldType.int)) rm_X12_reaches) (N : xm_Nx K) (hg : ∀ v S, g v S → xm_q K (some (xm_i v)) S) (hZ125 : ∀ x1 x3 x4 x5 S, Z125 x1 x3 x4 x5 S → xm_W K 0 0 125 [(0, xm_r (some h)), (1, xm_i x1), (3, xm_i x3), (4, xm_i x4), (5, xm_i x5)] [] S) (hZ150 : ∀ x1 x3 x4 x5 x6 S, Z150 x1 x3 x4 x5 x6 S → xm_W K 0 0 150 [(0, xm_r (some h)), (1, xm_i x1), (3, xm_i x3), (4, xm_i x4), (5, xm_i x5), (6, xm_i x6)] [] S) (h1 : wp_X12_reaches_150B h x1 x3 x4 x5 x6 S g Z125 Z150) : xm_W K 0 0 150 [(0, xm_r (some h)), (1, xm_i x1), (3, xm_i x3), (4, xm_i x4), (5, xm_i x5), (6, xm_i x6)] [] S := by
  unfold wp_X12_reaches_150B at h1
  refine x_iload C 5 dX12_reaches_150 rfl ?_
  refine x_bipush (v := (nI 6)) C dX12_reaches_152 (by decide) ?_
  refine x_icmp_ge (tgt := 304) C dX12_reaches_154 (by decide) (fun z9 => ?_) (fun z9 => ?_)
  · have h1 := h1.1 z9
    refine x_goto (tgt := 125) C dX12_reaches_304 (by decide) ?_
    refine x_keep (L' := [(0, xm_r (some h)), (1, xm_i x1), (3, xm_i x3), (4, xm_i x4), (5, xm_i x5)]) C [0, 1, 2, 3, 4] rfl ?_
    exact hZ125 x1 x3 x4 x5 S h1
  · have h1 := h1.2 z9
    refine x_aload_n C 0 dX12_reaches_157 rfl rfl ?_
    obtain ⟨ht48, h1⟩ := h1
    refine x_getf_r (n := h) C rfl ht48 fd_174 (by decide) dX12_reaches_158 ?_
    refine x_iload C 5 dX12_reaches_161 rfl ?_
    obtain ⟨n49, hr50, h1⟩ := h1
    obtain ⟨z52, ht51, h1⟩ := h1
    obtain ⟨hi53, h1⟩ := h1
    refine x_iald (n := n49) C hr50 ht51 hi53 dX12_reaches_163 ?_
    refine x_iconst (v := (-1 : Int32)) C dX12_reaches_164 (by decide) ?_
    refine x_icmp_ne (tgt := 172) C dX12_reaches_165 (by decide) (fun z9 => ?_) (fun z9 => ?_)
    · have h1 := h1.1 z9
      refine x_iconst (v := (nI 4)) C dX12_reaches_172 (by decide) ?_
      refine x_iload C 5 dX12_reaches_173 rfl ?_
      refine x_imul C dX12_reaches_175 ?_
      refine x_aload_n C 0 dX12_reaches_176 rfl rfl ?_
      refine x_getf_r (n := h) C rfl ht48 fd_174 (by decide) dX12_reaches_177 ?_
      refine x_iload C 5 dX12_reaches_180 rfl ?_
      obtain ⟨n54, hr55, h1⟩ := h1
      obtain ⟨z57, ht56, h1⟩ := h1
      obtain ⟨hi58, h1⟩ := h1
      refine x_iald (n := n54) C hr55 ht56 hi58 dX12_reaches_182 ?_
      refine x_iadd C dX12_reaches_183 ?_
      exact kp_X12_reaches_184 h x1 x3 x4 x5 x6 (((nI 4) * x6) + (st_i S n54 (x6).toNatClampNeg)) S C N hg hZ125 hZ150 h1
    · have h1 := h1.2 z9
      refine x_iconst (v := (0 : Int32)) C dX12_reaches_168 (by decide) ?_
      refine x_goto (tgt := 184) C dX12_reaches_169 (by decide) ?_
      exact kp_X12_reaches_184 h x1 x3 x4 x5 x6 (0 : Int32) S C N hg hZ125 hZ150 h1
theorem kp_X12_reaches_150 {K : xm_K} (h : Nat) (x1 : Int32) (x3 : Int32) (x4 : Int32) (x5 : Int32) (x6 : Int32) (S : xm_S) {g : Int32 → xm_S → Prop} {Z125 : Int32 → Int32 → Int32 → Int32 → xm_S → Prop} (C : xm_Cx K cX12_reaches RX12 10 (some (FieldType.int)) rm_X12_reaches) (N : xm_Nx K) (hg : ∀ v S, g v S → xm_q K (some (xm_i v)) S) (hZ125 : ∀ x1 x3 x4 x5 S, Z125 x1 x3 x4 x5 S → xm_W K 0 0 125 [(0, xm_r (some h)), (1, xm_i x1), (3, xm_i x3), (4, xm_i x4), (5, xm_i x5)] [] S) (h1 : wp_X12_reaches_150 h x1 x3 x4 x5 x6 S g Z125) : xm_W K 0 0 150 [(0, xm_r (some h)), (1, xm_i x1), (3, xm_i x3), (4, xm_i x4), (5, xm_i x5), (6, xm_i x6)] [] S :=
  h1 (fun x1 x3 x4 x5 x6 S => xm_W K 0 0 150 [(0, xm_r (some h)), (1, xm_i x1), (3, xm_i x3), (4, xm_i x4), (5, xm_i x5), (6, xm_i x6)] [] S) (fun x1 x3 x4 x5 x6 S hb => kp_X12_reaches_150B h x1 x3 x4 x5 x6 S C N hg hZ125 (fun x1 x3 x4 x5 x6 S hz => hz) hb)
def wp_X12_reaches_125B (h : Nat) (x1 : Int32) (x3 : Int32) (x4 : Int32) (x5 : Int32) (S : xm_S) (g : Int32 → xm_S → Prop) (Z125 : Int32 → Int32 → Int32 → Int32 → xm_S → Prop) : Prop :=
  (x4 = 0 → wp_X12_reaches_307 h x3 x4 S g) ∧ (¬ x4 = 0 → st_t S h = some (12, 0) ∧ wp_X12_state h x3 S (fun r61 S60 => (x5 = r61 → wp_X12_reaches_307 h x3 x4 S60 g) ∧ (¬ x5 = r61 → st_t S60 h = some (12, 0) ∧ wp_X12_state h x3 S60 (fun r64 S63 => wp_X12_reaches_150 h x1 x3 x4 r64 (0 : Int32) S63 g Z125))))
def wp_X12_reaches_125 (h : Nat) (x1 : Int32) (x3 : Int32) (x4 : Int32) (x5 : Int32) (S : xm_S) (g : Int32 → xm_S → Prop) : Prop :=
  ∀ Z125 : Int32 → Int32 → Int32 → Int32 → xm_S → Prop, (∀ x1 x3 x4 x5 S, wp_X12_reaches_125B h x1 x3 x4 x5 S g Z125 → Z125 x1 x3 x4 x5 S) → Z125 x1 x3 x4 x5 S
set_option maxRecDepth 100000 in
set_option maxHeartbeats 4000000 in
theorem kp_X12_reaches_125B {K : xm_K} (h : Nat) (x1 : Int32) (x3 : Int32) (x4 : Int32) (x5 : Int32) (S : xm_S) {g : Int32 → xm_S → Prop} {Z125 : Int32 → Int32 → Int32 → Int32 → xm_S → Prop} (C : xm_Cx K cX12_reaches RX12 10 (some (FieldType.int)) rm_X12_reaches) (N : xm_Nx K) (hg : ∀ v S, g v S → xm_q K (some (xm_i v)) S) (hZ125 : ∀ x1 x3 x4 x5 S, Z125 x1 x3 x4 x5 S → xm_W K 0 0 125 [(0, xm_r (some h)), (1, xm_i x1), (3, xm_i x3), (4, xm_i x4), (5, xm_i x5)] [] S) (h1 : wp_X12_reaches_125B h x1 x3 x4 x5 S g Z125) : xm_W K 0 0 125 [(0, xm_r (some h)), (1, xm_i x1), (3, xm_i x3), (4, xm_i x4), (5, xm_i x5)] [] S := by
  unfold wp_X12_reaches_125B at h1
  refine x_iload C 3 dX12_reaches_125 rfl ?_
  refine x_if_eq (tgt := 307) C dX12_reaches_127 (by decide) (fun z9 => ?_) (fun z9 => ?_)
  · have h1 := h1.1 z9
    refine x_keep (L' := [(3, xm_i x3), (4, xm_i x4)]) C [2, 3] rfl ?_
    exact kp_X12_reaches_307 h x3 x4 S C N hg  h1
  · have h1 := h1.2 z9
    refine x_iload C 4 dX12_reaches_130 rfl ?_
    refine x_aload_n C 0 dX12_reaches_132 rfl rfl ?_
    refine x_iload_n C 2 dX12_reaches_133 rfl rfl ?_
    obtain ⟨ht59, h1⟩ := h1
    refine x_callV (rm' := rm_X12_state) (n := h) C (kp_X12_state_met h1) lk_109 gw_645 gw_646 xv_12 rfl rfl ht59 rfl (Nat.le_of_ble_eq_true rfl) ⟨Nat.le_of_ble_eq_true rfl, Nat.le_of_ble_eq_true rfl, (Nat.le_of_ble_eq_true rfl), (Nat.le_of_ble_eq_true rfl)⟩ dX12_reaches_134 xm_kx (xm_ki (fun r61 S60 h1 => ?_))
    refine x_icmp_eq (tgt := 307) C dX12_reaches_137 (by decide) (fun z9 => ?_) (fun z9 => ?_)
    · have h1 := h1.1 z9
      refine x_keep (L' := [(3, xm_i x3), (4, xm_i x4)]) C [2, 3] rfl ?_
      exact kp_X12_reaches_307 h x3 x4 S60 C N hg  h1
    · have h1 := h1.2 z9
      refine x_aload_n C 0 dX12_reaches_140 rfl rfl ?_
      refine x_iload_n C 2 dX12_reaches_141 rfl rfl ?_
      obtain ⟨ht62, h1⟩ := h1
      refine x_callV (rm' := rm_X12_state) (n := h) C (kp_X12_state_met h1) lk_109 gw_645 gw_646 xv_12 rfl rfl ht62 rfl (Nat.le_of_ble_eq_true rfl) ⟨Nat.le_of_ble_eq_true rfl, Nat.le_of_ble_eq_true rfl, (Nat.le_of_ble_eq_true rfl), (Nat.le_of_ble_eq_true rfl)⟩ dX12_reaches_142 xm_kx (xm_ki (fun r64 S63 h1 => ?_))
      refine x_istore (L' := [(5, xm_i r64), (0, xm_r (some h)), (1, xm_i x1), (3, xm_i x3), (4, xm_i x4)]) C dX12_reaches_145 (by decide) rfl ?_
      refine x_iconst (v := (0 : Int32)) C dX12_reaches_147 (by decide) ?_
      refine x_istore (L' := [(6, xm_i (0 : Int32)), (5, xm_i r64), (0, xm_r (some h)), (1, xm_i x1), (3, xm_i x3), (4, xm_i x4)]) C dX12_reaches_148 (by decide) rfl ?_
      refine x_keep (L' := [(0, xm_r (some h)), (1, xm_i x1), (3, xm_i x3), (4, xm_i x4), (5, xm_i r64), (6, xm_i (0 : Int32))]) C [2, 3, 4, 5, 1, 0] rfl ?_
      exact kp_X12_reaches_150 h x1 x3 x4 r64 (0 : Int32) S63 C N hg hZ125 h1
theorem kp_X12_reaches_125 {K : xm_K} (h : Nat) (x1 : Int32) (x3 : Int32) (x4 : Int32) (x5 : Int32) (S : xm_S) {g : Int32 → xm_S → Prop} (C : xm_Cx K cX12_reaches RX12 10 (some (FieldType.int)) rm_X12_reaches) (N : xm_Nx K) (hg : ∀ v S, g v S → xm_q K (some (xm_i v)) S)  (h1 : wp_X12_reaches_125 h x1 x3 x4 x5 S g) : xm_W K 0 0 125 [(0, xm_r (some h)), (1, xm_i x1), (3, xm_i x3), (4, xm_i x4), (5, xm_i x5)] [] S :=
  h1 (fun x1 x3 x4 x5 S => xm_W K 0 0 125 [(0, xm_r (some h)), (1, xm_i x1), (3, xm_i x3), (4, xm_i x4), (5, xm_i x5)] [] S) (fun x1 x3 x4 x5 S hb => kp_X12_reaches_125B h x1 x3 x4 x5 S C N hg (fun x1 x3 x4 x5 S hz => hz) hb)
def wp_X12_reaches_32B (h : Nat) (x1 : Int32) (x2 : Int32) (x3 : Int32) (x4 : Int32) (x5 : Int32) (S : xm_S) (g : Int32 → xm_S → Prop) (Z32 : Int32 → Int32 → Int32 → Int32 → Int32 → xm_S → Prop) : Prop :=
  st_t S h = some (12, 0) ∧ ((st_i S h 18) ≤ x5 → wp_X12_reaches_125 h x1 x3 x4 (-1 : Int32) S g) ∧ (¬ (st_i S h 18) ≤ x5 → wp_X12_isIn x2 x5 S (fun r67 S66 => (r67 = 0 → wp_X12_reaches_116 h x1 x2 x3 x4 x5 S66 g Z32) ∧ (¬ r67 = 0 → st_t S66 h = some (12, 0) ∧ ∃ n69, (st_r S66 h 19) = some n69 ∧ ∃ z72, st_t S66 n69 = some (100, z72) ∧ vp_in x5 z72 ∧ ∃ n74, (st_r S66 h 20) = some n74 ∧ ∃ z77, st_t S66 n74 = some (100, z77) ∧ vp_in x5 z77 ∧ wp_X12_meeters h ((nI 144) + x5) (st_i S66 n69 (x5).toNatClampNeg) (st_i S66 n74 (x5).toNatClampNeg) S66 (fun r80 S79 => st_t S79 h = some (12, 0) ∧ ∃ n82, (st_r S79 h 19) = some n82 ∧ ∃ z85, st_t S79 n82 = some (100, z85) ∧ vp_in x5 z85 ∧ ∃ n87, (st_r S79 h 20) = some n87 ∧ ∃ z90, st_t S79 n87 = some (100, z90) ∧ vp_in x5 z90 ∧ wp_X12_asks h (st_i S79 n82 (x5).toNatClampNeg) (st_i S79 n87 (x5).toNatClampNeg) S79 (fun S92 => ∀ y94, y94 = (x3 ||| r80) → (x4 = 0 → wp_X12_reaches_113 h x1 x2 y94 x5 S92 g Z32) ∧ (¬ x4 = 0 → (r80 = 0 → wp_X12_reaches_113 h x1 x2 y94 x5 S92 g Z32) ∧ (¬ r80 = 0 → wp_X12_reaches_114 h x1 x2 y94 x5 (1 : Int32) S92 g Z32)))))))
def wp_X12_reaches_32 (h : Nat) (x1 : Int32) (x2 : Int32) (x3 : Int32) (x4 : Int32) (x5 : Int32) (S : xm_S) (g : Int32 → xm_S → Prop) : Prop :=
  ∀ Z32 : Int32 → Int32 → Int32 → Int32 → Int32 → xm_S → Prop, (∀ x1 x2 x3 x4 x5 S, wp_X12_reaches_32B h x1 x2 x3 x4 x5 S g Z32 → Z32 x1 x2 x3 x4 x5 S) → Z32 x1 x2 x3 x4 x5 S
set_option maxRecDepth 100000 in
set_option maxHeartbeats 4000000 in
theorem kp_X12_reaches_32B {K : xm_K} (h : Nat) (x1 : Int32) (x2 : Int32) (x3 : Int32) (x4 : Int32) (x5 : Int32) (S : xm_S) {g : Int32 → xm_S → Prop} {Z32 : Int32 → Int32 → Int32 → Int32 → Int32 → xm_S → Prop} (C : xm_Cx K cX12_reaches RX12 10 (some (FieldType.int)) rm_X12_reaches) (N : xm_Nx K) (hg : ∀ v S, g v S → xm_q K (some (xm_i v)) S) (hZ32 : ∀ x1 x2 x3 x4 x5 S, Z32 x1 x2 x3 x4 x5 S → xm_W K 0 0 32 [(0, xm_r (some h)), (1, xm_i x1), (2, xm_i x2), (3, xm_i x3), (4, xm_i x4), (5, xm_i x5)] [] S) (h1 : wp_X12_reaches_32B h x1 x2 x3 x4 x5 S g Z32) : xm_W K 0 0 32 [(0, xm_r (some h)), (1, xm_i x1), (2, xm_i x2), (3, xm_i x3), (4, xm_i x4), (5, xm_i x5)] [] S := by
  unfold wp_X12_reaches_32B at h1
  refine x_iload C 5 dX12_reaches_32 rfl ?_
  refine x_aload_n C 0 dX12_reaches_34 rfl rfl ?_
  obtain ⟨ht65, h1⟩ := h1
  refine x_getf_i (n := h) C rfl ht65 fd_187 (by decide) dX12_reaches_35 ?_
  refine x_icmp_ge (tgt := 122) C dX12_reaches_38 (by decide) (fun z9 => ?_) (fun z9 => ?_)
  · have h1 := h1.1 z9
    refine x_iconst (v := (-1 : Int32)) C dX12_reaches_122 (by decide) ?_
    refine x_istore (L' := [(5, xm_i (-1 : Int32)), (0, xm_r (some h)), (1, xm_i x1), (2, xm_i x2), (3, xm_i x3), (4, xm_i x4)]) C dX12_reaches_123 (by decide) rfl ?_
    refine x_keep (L' := [(0, xm_r (some h)), (1, xm_i x1), (3, xm_i x3), (4, xm_i x4), (5, xm_i (-1 : Int32))]) C [1, 2, 4, 5, 0] rfl ?_
    exact kp_X12_reaches_125 h x1 x3 x4 (-1 : Int32) S C N hg  h1
  · have h1 := h1.2 z9
    refine x_iload_n C 2 dX12_reaches_41 rfl rfl ?_
    refine x_iload C 5 dX12_reaches_42 rfl ?_
    refine x_callS (rm' := rm_X12_isIn) C (kp_X12_isIn_met h1) lk_105 gw_624 rfl (Nat.le_of_ble_eq_true rfl) ⟨Nat.le_of_ble_eq_true rfl, Nat.le_of_ble_eq_true rfl, (Nat.le_of_ble_eq_true rfl), (Nat.le_of_ble_eq_true rfl)⟩ dX12_reaches_44 xm_kx (xm_ki (fun r67 S66 h1 => ?_))
    refine x_if_eq (tgt := 116) C dX12_reaches_47 (by decide) (fun z9 => ?_) (fun z9 => ?_)
    · have h1 := h1.1 z9
      exact kp_X12_reaches_116 h x1 x2 x3 x4 x5 S66 C N hg hZ32 h1
    · have h1 := h1.2 z9
      refine x_aload_n C 0 dX12_reaches_50 rfl rfl ?_
      refine x_sipush (v := (nI 144)) C dX12_reaches_51 (by decide) ?_
      refine x_iload C 5 dX12_reaches_54 rfl ?_
      refine x_iadd C dX12_reaches_56 ?_
      refine x_aload_n C 0 dX12_reaches_57 rfl rfl ?_
      obtain ⟨ht68, h1⟩ := h1
      refine x_getf_r (n := h) C rfl ht68 fd_188 (by decide) dX12_reaches_58 ?_
      refine x_iload C 5 dX12_reaches_61 rfl ?_
      obtain ⟨n69, hr70, h1⟩ := h1
      obtain ⟨z72, ht71, h1⟩ := h1
      obtain ⟨hi73, h1⟩ := h1
      refine x_iald (n := n69) C hr70 ht71 hi73 dX12_reaches_63 ?_
      refine x_aload_n C 0 dX12_reaches_64 rfl rfl ?_
      refine x_getf_r (n := h) C rfl ht68 fd_189 (by decide) dX12_reaches_65 ?_
      refine x_iload C 5 dX12_reaches_68 rfl ?_
      obtain ⟨n74, hr75, h1⟩ := h1
      obtain ⟨z77, ht76, h1⟩ := h1
      obtain ⟨hi78, h1⟩ := h1
      refine x_iald (n := n74) C hr75 ht76 hi78 dX12_reaches_70 ?_
      refine x_callV (rm' := rm_X12_meeters) (n := h) C (kp_X12_meeters_met h1) lk_107 gw_637 gw_638 xv_12 rfl rfl ht68 rfl (Nat.le_of_ble_eq_true rfl) ⟨Nat.le_of_ble_eq_true rfl, Nat.le_of_ble_eq_true rfl, (Nat.le_of_ble_eq_true rfl), (Nat.le_of_ble_eq_true rfl)⟩ dX12_reaches_71 xm_kx (xm_ki (fun r80 S79 h1 => ?_))
      refine x_istore (L' := [(6, xm_i r80), (0, xm_r (some h)), (1, xm_i x1), (2, xm_i x2), (3, xm_i x3), (4, xm_i x4), (5, xm_i x5)]) C dX12_reaches_74 (by decide) rfl ?_
      refine x_aload_n C 1 dX12_reaches_76 rfl rfl ?_
      refine x_aload_n C 1 dX12_reaches_77 rfl rfl ?_
      obtain ⟨ht81, h1⟩ := h1
      refine x_getf_r (n := h) C rfl ht81 fd_188 (by decide) dX12_reaches_78 ?_
      refine x_iload C 6 dX12_reaches_81 rfl ?_
      obtain ⟨n82, hr83, h1⟩ := h1
      obtain ⟨z85, ht84, h1⟩ := h1
      obtain ⟨hi86, h1⟩ := h1
      refine x_iald (n := n82) C hr83 ht84 hi86 dX12_reaches_83 ?_
      refine x_aload_n C 1 dX12_reaches_84 rfl rfl ?_
      refine x_getf_r (n := h) C rfl ht81 fd_189 (by decide) dX12_reaches_85 ?_
      refine x_iload C 6 dX12_reaches_88 rfl ?_
      obtain ⟨n87, hr88, h1⟩ := h1
      obtain ⟨z90, ht89, h1⟩ := h1
      obtain ⟨hi91, h1⟩ := h1
      refine x_iald (n := n87) C hr88 ht89 hi91 dX12_reaches_90 ?_
      refine x_callV (rm' := rm_X12_asks) (n := h) C (kp_X12_asks_met h1) lk_108 gw_641 gw_642 xv_12 rfl rfl ht81 rfl (Nat.le_of_ble_eq_true rfl) ⟨Nat.le_of_ble_eq_true rfl, Nat.le_of_ble_eq_true rfl, (Nat.le_of_ble_eq_true rfl), (Nat.le_of_ble_eq_true rfl)⟩ dX12_reaches_91 xm_kx (xm_kv (fun S92 h1 => ?_))
      refine x_iload_n C 4 dX12_reaches_94 rfl rfl ?_
      refine x_iload C 0 dX12_reaches_95 rfl ?_
      refine x_ior C dX12_reaches_97 ?_
      refine x_topi (fun y94 e95 => ?_)
      have h1 := h1 y94 e95
      refine x_istore_n (L' := [(3, xm_i y94), (6, xm_i r80), (0, xm_r (some h)), (1, xm_i x1), (2, xm_i x2), (4, xm_i x4), (5, xm_i x5)]) C dX12_reaches_98 rfl (by decide) rfl ?_
      refine x_iload C 5 dX12_reaches_99 rfl ?_
      refine x_if_eq (tgt := 113) C dX12_reaches_101 (by decide) (fun z9 => ?_) (fun z9 => ?_)
      · have h1 := h1.1 z9
        refine x_keep (L' := [(0, xm_r (some h)), (1, xm_i x1), (2, xm_i x2), (3, xm_i y94), (5, xm_i x5)]) C [2, 3, 4, 0, 6] rfl ?_
        exact kp_X12_reaches_113 h x1 x2 y94 x5 S92 C N hg hZ32 h1
      · have h1 := h1.2 z9
        refine x_iload C 1 dX12_reaches_104 rfl ?_
        refine x_if_eq (tgt := 113) C dX12_reaches_106 (by decide) (fun z9 => ?_) (fun z9 => ?_)
        · have h1 := h1.1 z9
          refine x_keep (L' := [(0, xm_r (some h)), (1, xm_i x1), (2, xm_i x2), (3, xm_i y94), (5, xm_i x5)]) C [2, 3, 4, 0, 6] rfl ?_
          exact kp_X12_reaches_113 h x1 x2 y94 x5 S92 C N hg hZ32 h1
        · have h1 := h1.2 z9
          refine x_iconst (v := (1 : Int32)) C dX12_reaches_109 (by decide) ?_
          refine x_goto (tgt := 114) C dX12_reaches_110 (by decide) ?_
          refine x_keep (L' := [(0, xm_r (some h)), (1, xm_i x1), (2, xm_i x2), (3, xm_i y94), (5, xm_i x5)]) C [2, 3, 4, 0, 6] rfl ?_
          exact kp_X12_reaches_114 h x1 x2 y94 x5 (1 : Int32) S92 C N hg hZ32 h1
theorem kp_X12_reaches_32 {K : xm_K} (h : Nat) (x1 : Int32) (x2 : Int32) (x3 : Int32) (x4 : Int32) (x5 : Int32) (S : xm_S) {g : Int32 → xm_S → Prop} (C : xm_Cx K cX12_reaches RX12 10 (some (FieldType.int)) rm_X12_reaches) (N : xm_Nx K) (hg : ∀ v S, g v S → xm_q K (some (xm_i v)) S)  (h1 : wp_X12_reaches_32 h x1 x2 x3 x4 x5 S g) : xm_W K 0 0 32 [(0, xm_r (some h)), (1, xm_i x1), (2, xm_i x2), (3, xm_i x3), (4, xm_i x4), (5, xm_i x5)] [] S :=
  h1 (fun x1 x2 x3 x4 x5 S => xm_W K 0 0 32 [(0, xm_r (some h)), (1, xm_i x1), (2, xm_i x2), (3, xm_i x3), (4, xm_i x4), (5, xm_i x5)] [] S) (fun x1 x2 x3 x4 x5 S hb => kp_X12_reaches_32B h x1 x2 x3 x4 x5 S C N hg (fun x1 x2 x3 x4 x5 S hz => hz) hb)
def wp_X12_reaches_8B (h : Nat) (x1 : Int32) (x2 : Int32) (x3 : Int32) (x4 : Int32) (x5 : Int32) (S : xm_S) (g : Int32 → xm_S → Prop) (Z8 : Int32 → Int32 → Int32 → Int32 → Int32 → xm_S → Prop) : Prop :=
  ((nI 6) ≤ x5 → wp_X12_reaches_32 h x1 x2 x3 x4 (0 : Int32) S g) ∧ (¬ (nI 6) ≤ x5 → st_t S h = some (12, 0) ∧ ∃ n97, (st_r S h 34) = some n97 ∧ ∃ z100, st_t S n97 = some (100, z100) ∧ vp_in x5 z100 ∧ ∀ S102, S102 = st_pi S n97 (x5).toNatClampNeg (0 : Int32) → ∀ y104, y104 = (x5 + (1 : Int32)) → Z8 x1 x2 x3 x4 y104 S102)
def wp_X12_reaches_8 (h : Nat) (x1 : Int32) (x2 : Int32) (x3 : Int32) (x4 : Int32) (x5 : Int32) (S : xm_S) (g : Int32 → xm_S → Prop) : Prop :=
  ∀ Z8 : Int32 → Int32 → Int32 → Int32 → Int32 → xm_S → Prop, (∀ x1 x2 x3 x4 x5 S, wp_X12_reaches_8B h x1 x2 x3 x4 x5 S g Z8 → Z8 x1 x2 x3 x4 x5 S) → Z8 x1 x2 x3 x4 x5 S
set_option maxRecDepth 100000 in
set_option maxHeartbeats 4000000 in
theorem kp_X12_reaches_8B {K : xm_K} (h : Nat) (x1 : Int32) (x2 : Int32) (x3 : Int32) (x4 : Int32) (x5 : Int32) (S : xm_S) {g : Int32 → xm_S → Prop} {Z8 : Int32 → Int32 → Int32 → Int32 → Int32 → xm_S → Prop} (C : xm_Cx K cX12_reaches RX12 10 (some (FieldType.int)) rm_X12_reaches) (N : xm_Nx K) (hg : ∀ v S, g v S → xm_q K (some (xm_i v)) S) (hZ8 : ∀ x1 x2 x3 x4 x5 S, Z8 x1 x2 x3 x4 x5 S → xm_W K 0 0 8 [(0, xm_r (some h)), (1, xm_i x1), (2, xm_i x2), (3, xm_i x3), (4, xm_i x4), (5, xm_i x5)] [] S) (h1 : wp_X12_reaches_8B h x1 x2 x3 x4 x5 S g Z8) : xm_W K 0 0 8 [(0, xm_r (some h)), (1, xm_i x1), (2, xm_i x2), (3, xm_i x3), (4, xm_i x4), (5, xm_i x5)] [] S := by
  unfold wp_X12_reaches_8B at h1
  refine x_iload C 5 dX12_reaches_8 rfl ?_
  refine x_bipush (v := (nI 6)) C dX12_reaches_10 (by decide) ?_
  refine x_icmp_ge (tgt := 29) C dX12_reaches_12 (by decide) (fun z9 => ?_) (fun z9 => ?_)
  · have h1 := h1.1 z9
    refine x_iconst (v := (0 : Int32)) C dX12_reaches_29 (by decide) ?_
    refine x_istore (L' := [(5, xm_i (0 : Int32)), (0, xm_r (some h)), (1, xm_i x1), (2, xm_i x2), (3, xm_i x3), (4, xm_i x4)]) C dX12_reaches_30 (by decide) rfl ?_
    refine x_keep (L' := [(0, xm_r (some h)), (1, xm_i x1), (2, xm_i x2), (3, xm_i x3), (4, xm_i x4), (5, xm_i (0 : Int32))]) C [1, 2, 3, 4, 5, 0] rfl ?_
    exact kp_X12_reaches_32 h x1 x2 x3 x4 (0 : Int32) S C N hg  h1
  · have h1 := h1.2 z9
    refine x_aload_n C 0 dX12_reaches_15 rfl rfl ?_
    obtain ⟨ht96, h1⟩ := h1
    refine x_getf_r (n := h) C rfl ht96 fd_173 (by decide) dX12_reaches_16 ?_
    refine x_iload C 5 dX12_reaches_19 rfl ?_
    refine x_iconst (v := (0 : Int32)) C dX12_reaches_21 (by decide) ?_
    obtain ⟨n97, hr98, h1⟩ := h1
    obtain ⟨z100, ht99, h1⟩ := h1
    obtain ⟨hi101, h1⟩ := h1
    refine x_iast (n := n97) C hr98 ht99 hi101 dX12_reaches_22 ?_
    refine x_topS (fun S102 e103 => ?_)
    have h1 := h1 S102 e103
    obtain ⟨y104, e105⟩ : ∃ y104, y104 = (x5 + (1 : Int32)) := ⟨_, rfl⟩
    have h1 := h1 y104 e105
    refine x_iinc (v := y104) (L' := [(5, xm_i y104), (0, xm_r (some h)), (1, xm_i x1), (2, xm_i x2), (3, xm_i x3), (4, xm_i x4)]) C 5 dX12_reaches_23 rfl (by rw [e105]; rfl) (by decide) rfl ?_
    refine x_goto (tgt := 8) C dX12_reaches_26 (by decide) ?_
    refine x_keep (L' := [(0, xm_r (some h)), (1, xm_i x1), (2, xm_i x2), (3, xm_i x3), (4, xm_i x4), (5, xm_i y104)]) C [1, 2, 3, 4, 5, 0] rfl ?_
    exact hZ8 x1 x2 x3 x4 y104 S102 h1
theorem kp_X12_reaches_8 {K : xm_K} (h : Nat) (x1 : Int32) (x2 : Int32) (x3 : Int32) (x4 : Int32) (x5 : Int32) (S : xm_S) {g : Int32 → xm_S → Prop} (C : xm_Cx K cX12_reaches RX12 10 (some (FieldType.int)) rm_X12_reaches) (N : xm_Nx K) (hg : ∀ v S, g v S → xm_q K (some (xm_i v)) S)  (h1 : wp_X12_reaches_8 h x1 x2 x3 x4 x5 S g) : xm_W K 0 0 8 [(0, xm_r (some h)), (1, xm_i x1), (2, xm_i x2), (3, xm_i x3), (4, xm_i x4), (5, xm_i x5)] [] S :=
  h1 (fun x1 x2 x3 x4 x5 S => xm_W K 0 0 8 [(0, xm_r (some h)), (1, xm_i x1), (2, xm_i x2), (3, xm_i x3), (4, xm_i x4), (5, xm_i x5)] [] S) (fun x1 x2 x3 x4 x5 S hb => kp_X12_reaches_8B h x1 x2 x3 x4 x5 S C N hg (fun x1 x2 x3 x4 x5 S hz => hz) hb)
def wp_X12_reaches (h : Nat) (x1 : Int32) (x2 : Int32) (S : xm_S) (g : Int32 → xm_S → Prop) : Prop :=
  wp_X12_reaches_8 h x1 x2 (0 : Int32) (1 : Int32) (0 : Int32) S g
set_option maxRecDepth 100000 in
set_option maxHeartbeats 4000000 in
theorem kp_X12_reaches {K : xm_K} (h : Nat) (x1 : Int32) (x2 : Int32) (S : xm_S) {g : Int32 → xm_S → Prop} (C : xm_Cx K cX12_reaches RX12 10 (some (FieldType.int)) rm_X12_reaches) (N : xm_Nx K) (hg : ∀ v S, g v S → xm_q K (some (xm_i v)) S)  (h1 : wp_X12_reaches h x1 x2 S g) : xm_W K 0 0 0 [(0, xm_r (some h)), (1, xm_i x1), (2, xm_i x2)] [] S := by
  unfold wp_X12_reaches at h1
  refine x_iconst (v := (0 : Int32)) C dX12_reaches_0 (by decide) ?_
  refine x_istore_n (L' := [(3, xm_i (0 : Int32)), (0, xm_r (some h)), (1, xm_i x1), (2, xm_i x2)]) C dX12_reaches_1 rfl (by decide) rfl ?_
  refine x_iconst (v := (1 : Int32)) C dX12_reaches_2 (by decide) ?_
  refine x_istore (L' := [(4, xm_i (1 : Int32)), (3, xm_i (0 : Int32)), (0, xm_r (some h)), (1, xm_i x1), (2, xm_i x2)]) C dX12_reaches_3 (by decide) rfl ?_
  refine x_iconst (v := (0 : Int32)) C dX12_reaches_5 (by decide) ?_
  refine x_istore (L' := [(5, xm_i (0 : Int32)), (4, xm_i (1 : Int32)), (3, xm_i (0 : Int32)), (0, xm_r (some h)), (1, xm_i x1), (2, xm_i x2)]) C dX12_reaches_6 (by decide) rfl ?_
  refine x_keep (L' := [(0, xm_r (some h)), (1, xm_i x1), (2, xm_i x2), (3, xm_i (0 : Int32)), (4, xm_i (1 : Int32)), (5, xm_i (0 : Int32))]) C [3, 4, 5, 2, 1, 0] rfl ?_
  exact kp_X12_reaches_8 h x1 x2 (0 : Int32) (1 : Int32) (0 : Int32) S C N hg  h1
theorem kp_X12_reaches_met {h : Nat} {x1 : Int32} {x2 : Int32} {S : xm_S} {g : Int32 → xm_S → Prop}  (h1 : wp_X12_reaches h x1 x2 S g) : xm_Met yX12_reaches cX12_reaches 10 (some (FieldType.int)) rm_X12_reaches [xm_r (some h), xm_i x1, xm_i x2] S (xm_qi g) xm_nox :=
  xm_ofW RX12 (by decide +kernel) rfl (Nat.le_of_ble_eq_true rfl) (fun K C N hq hx hi => kp_X12_reaches h x1 x2 S C N (fun v S h => by rw [hq]; exact ⟨v, rfl, h⟩)  h1)
def rm_X12_isClosure : Room := { frames := 4, cells := 0, slots := 0, locals := 98 }
theorem dX12_isClosure_0 : decode cX12_isClosure 0 = .ok (.iconst 0, 1) := by decide +kernel
theorem dX12_isClosure_1 : decode cX12_isClosure 1 = .ok (.istore 4, 2) := by decide +kernel
theorem dX12_isClosure_3 : decode cX12_isClosure 3 = .ok (.iconst 0, 1) := by decide +kernel
theorem dX12_isClosure_4 : decode cX12_isClosure 4 = .ok (.istore 5, 2) := by decide +kernel
theorem dX12_isClosure_6 : decode cX12_isClosure 6 = .ok (.iload 5, 2) := by decide +kernel
theorem dX12_isClosure_8 : decode cX12_isClosure 8 = .ok (.bipush 6, 2) := by decide +kernel
theorem dX12_isClosure_10 : decode cX12_isClosure 10 = .ok (.if_icmp .ge 127, 3) := by decide +kernel
theorem dX12_isClosure_13 : decode cX12_isClosure 13 = .ok (.aload_n 0, 1) := by decide +kernel
theorem dX12_isClosure_14 : decode cX12_isClosure 14 = .ok (.getfield 103, 3) := by decide +kernel
theorem dX12_isClosure_17 : decode cX12_isClosure 17 = .ok (.iload 5, 2) := by decide +kernel
theorem dX12_isClosure_19 : decode cX12_isClosure 19 = .ok (.iaload, 1) := by decide +kernel
theorem dX12_isClosure_20 : decode cX12_isClosure 20 = .ok (.iconst (-1), 1) := by decide +kernel
theorem dX12_isClosure_21 : decode cX12_isClosure 21 = .ok (.if_icmp .eq 110, 3) := by decide +kernel
theorem dX12_isClosure_24 : decode cX12_isClosure 24 = .ok (.iconst 4, 1) := by decide +kernel
theorem dX12_isClosure_25 : decode cX12_isClosure 25 = .ok (.iload 5, 2) := by decide +kernel
theorem dX12_isClosure_27 : decode cX12_isClosure 27 = .ok (.imul, 1) := by decide +kernel
theorem dX12_isClosure_28 : decode cX12_isClosure 28 = .ok (.aload_n 0, 1) := by decide +kernel
theorem dX12_isClosure_29 : decode cX12_isClosure 29 = .ok (.getfield 103, 3) := by decide +kernel
theorem dX12_isClosure_32 : decode cX12_isClosure 32 = .ok (.iload 5, 2) := by decide +kernel
theorem dX12_isClosure_34 : decode cX12_isClosure 34 = .ok (.iaload, 1) := by decide +kernel
theorem dX12_isClosure_35 : decode cX12_isClosure 35 = .ok (.iadd, 1) := by decide +kernel
theorem dX12_isClosure_36 : decode cX12_isClosure 36 = .ok (.istore 6, 2) := by decide +kernel
theorem dX12_isClosure_38 : decode cX12_isClosure 38 = .ok (.iload_n 3, 1) := by decide +kernel
theorem dX12_isClosure_39 : decode cX12_isClosure 39 = .ok (.bipush (-2), 2) := by decide +kernel
theorem dX12_isClosure_41 : decode cX12_isClosure 41 = .ok (.if_icmp .eq 35, 3) := by decide +kernel
theorem dX12_isClosure_44 : decode cX12_isClosure 44 = .ok (.iload_n 3, 1) := by decide +kernel
theorem dX12_isClosure_45 : decode cX12_isClosure 45 = .ok (.iload 5, 2) := by decide +kernel
theorem dX12_isClosure_47 : decode cX12_isClosure 47 = .ok (.if_icmp .eq 29, 3) := by decide +kernel
theorem dX12_isClosure_50 : decode cX12_isClosure 50 = .ok (.aload_n 0, 1) := by decide +kernel
theorem dX12_isClosure_51 : decode cX12_isClosure 51 = .ok (.getfield 90, 3) := by decide +kernel
theorem dX12_isClosure_54 : decode cX12_isClosure 54 = .ok (.bipush 6, 2) := by decide +kernel
theorem dX12_isClosure_56 : decode cX12_isClosure 56 = .ok (.iload_n 1, 1) := by decide +kernel
theorem dX12_isClosure_57 : decode cX12_isClosure 57 = .ok (.imul, 1) := by decide +kernel
theorem dX12_isClosure_58 : decode cX12_isClosure 58 = .ok (.iload 5, 2) := by decide +kernel
theorem dX12_isClosure_60 : decode cX12_isClosure 60 = .ok (.iadd, 1) := by decide +kernel
theorem dX12_isClosure_61 : decode cX12_isClosure 61 = .ok (.iaload, 1) := by decide +kernel
theorem dX12_isClosure_62 : decode cX12_isClosure 62 = .ok (.aload_n 0, 1) := by decide +kernel
theorem dX12_isClosure_63 : decode cX12_isClosure 63 = .ok (.getfield 103, 3) := by decide +kernel
theorem dX12_isClosure_66 : decode cX12_isClosure 66 = .ok (.iload 5, 2) := by decide +kernel
theorem dX12_isClosure_68 : decode cX12_isClosure 68 = .ok (.iaload, 1) := by decide +kernel
theorem dX12_isClosure_69 : decode cX12_isClosure 69 = .ok (.if_icmp .ne 7, 3) := by decide +kernel
theorem dX12_isClosure_72 : decode cX12_isClosure 72 = .ok (.iconst 1, 1) := by decide +kernel
theorem dX12_isClosure_73 : decode cX12_isClosure 73 = .ok (.goto 4, 3) := by decide +kernel
theorem dX12_isClosure_76 : decode cX12_isClosure 76 = .ok (.iconst 0, 1) := by decide +kernel
theorem dX12_isClosure_77 : decode cX12_isClosure 77 = .ok (.istore 7, 2) := by decide +kernel
theorem dX12_isClosure_79 : decode cX12_isClosure 79 = .ok (.aload_n 0, 1) := by decide +kernel
theorem dX12_isClosure_80 : decode cX12_isClosure 80 = .ok (.getfield 80, 3) := by decide +kernel
theorem dX12_isClosure_83 : decode cX12_isClosure 83 = .ok (.aload_n 0, 1) := by decide +kernel
theorem dX12_isClosure_84 : decode cX12_isClosure 84 = .ok (.getfield 22, 3) := by decide +kernel
theorem dX12_isClosure_87 : decode cX12_isClosure 87 = .ok (.iload 6, 2) := by decide +kernel
theorem dX12_isClosure_89 : decode cX12_isClosure 89 = .ok (.iaload, 1) := by decide +kernel
theorem dX12_isClosure_90 : decode cX12_isClosure 90 = .ok (.invokestatic 264, 3) := by decide +kernel
theorem dX12_isClosure_93 : decode cX12_isClosure 93 = .ok (.ifCond .eq 27, 3) := by decide +kernel
theorem dX12_isClosure_96 : decode cX12_isClosure 96 = .ok (.aload_n 0, 1) := by decide +kernel
theorem dX12_isClosure_97 : decode cX12_isClosure 97 = .ok (.getfield 28, 3) := by decide +kernel
theorem dX12_isClosure_100 : decode cX12_isClosure 100 = .ok (.iload 6, 2) := by decide +kernel
theorem dX12_isClosure_102 : decode cX12_isClosure 102 = .ok (.baload, 1) := by decide +kernel
theorem dX12_isClosure_103 : decode cX12_isClosure 103 = .ok (.ifCond .eq 8, 3) := by decide +kernel
theorem dX12_isClosure_106 : decode cX12_isClosure 106 = .ok (.iload 7, 2) := by decide +kernel
theorem dX12_isClosure_108 : decode cX12_isClosure 108 = .ok (.ifCond .eq 12, 3) := by decide +kernel
theorem dX12_isClosure_111 : decode cX12_isClosure 111 = .ok (.aload_n 0, 1) := by decide +kernel
theorem dX12_isClosure_112 : decode cX12_isClosure 112 = .ok (.iload 5, 2) := by decide +kernel
theorem dX12_isClosure_114 : decode cX12_isClosure 114 = .ok (.invokevirtual 281, 3) := by decide +kernel
theorem dX12_isClosure_117 : decode cX12_isClosure 117 = .ok (.ifCond .eq 5, 3) := by decide +kernel
theorem dX12_isClosure_120 : decode cX12_isClosure 120 = .ok (.iconst 0, 1) := by decide +kernel
theorem dX12_isClosure_121 : decode cX12_isClosure 121 = .ok (.ireturn, 1) := by decide +kernel
theorem dX12_isClosure_122 : decode cX12_isClosure 122 = .ok (.iload 4, 2) := by decide +kernel
theorem dX12_isClosure_124 : decode cX12_isClosure 124 = .ok (.iconst 1, 1) := by decide +kernel
theorem dX12_isClosure_125 : decode cX12_isClosure 125 = .ok (.iload 5, 2) := by decide +kernel
theorem dX12_isClosure_127 : decode cX12_isClosure 127 = .ok (.ishl, 1) := by decide +kernel
theorem dX12_isClosure_128 : decode cX12_isClosure 128 = .ok (.ior, 1) := by decide +kernel
theorem dX12_isClosure_129 : decode cX12_isClosure 129 = .ok (.istore 4, 2) := by decide +kernel
theorem dX12_isClosure_131 : decode cX12_isClosure 131 = .ok (.iinc 5 1, 3) := by decide +kernel
theorem dX12_isClosure_134 : decode cX12_isClosure 134 = .ok (.goto (-128), 3) := by decide +kernel
theorem dX12_isClosure_137 : decode cX12_isClosure 137 = .ok (.aload_n 0, 1) := by decide +kernel
theorem dX12_isClosure_138 : decode cX12_isClosure 138 = .ok (.iload_n 1, 1) := by decide +kernel
theorem dX12_isClosure_139 : decode cX12_isClosure 139 = .ok (.iload_n 2, 1) := by decide +kernel
theorem dX12_isClosure_140 : decode cX12_isClosure 140 = .ok (.invokevirtual 284, 3) := by decide +kernel
theorem dX12_isClosure_143 : decode cX12_isClosure 143 = .ok (.iload 4, 2) := by decide +kernel
theorem dX12_isClosure_145 : decode cX12_isClosure 145 = .ok (.if_icmp .ne 7, 3) := by decide +kernel
theorem dX12_isClosure_148 : decode cX12_isClosure 148 = .ok (.iconst 1, 1) := by decide +kernel
theorem dX12_isClosure_149 : decode cX12_isClosure 149 = .ok (.goto 4, 3) := by decide +kernel
theorem dX12_isClosure_152 : decode cX12_isClosure 152 = .ok (.iconst 0, 1) := by decide +kernel
theorem dX12_isClosure_153 : decode cX12_isClosure 153 = .ok (.ireturn, 1) := by decide +kernel
def wp_X12_isClosure_131 (h : Nat) (x1 : Int32) (x2 : Int32) (x3 : Int32) (x4 : Int32) (x5 : Int32) (S : xm_S) (g : Int32 → xm_S → Prop) (Z6 : Int32 → Int32 → Int32 → Int32 → Int32 → xm_S → Prop) : Prop :=
  ∀ y1, y1 = (x5 + (1 : Int32)) → Z6 x1 x2 x3 x4 y1 S
set_option maxRecDepth 100000 in
set_option maxHeartbeats 4000000 in
theorem kp_X12_isClosure_131 {K : xm_K} (h : Nat) (x1 : Int32) (x2 : Int32) (x3 : Int32) (x4 : Int32) (x5 : Int32) (S : xm_S) {g : Int32 → xm_S → Prop} {Z6 : Int32 → Int32 → Int32 → Int32 → Int32 → xm_S → Prop} (C : xm_Cx K cX12_isClosure RX12 8 (some (FieldType.boolean)) rm_X12_isClosure) (N : xm_Nx K) (hg : ∀ v S, g v S → xm_q K (some (xm_i v)) S) (hZ6 : ∀ x1 x2 x3 x4 x5 S, Z6 x1 x2 x3 x4 x5 S → xm_W K 0 0 6 [(0, xm_r (some h)), (1, xm_i x1), (2, xm_i x2), (3, xm_i x3), (4, xm_i x4), (5, xm_i x5)] [] S) (h1 : wp_X12_isClosure_131 h x1 x2 x3 x4 x5 S g Z6) : xm_W K 0 0 131 [(0, xm_r (some h)), (1, xm_i x1), (2, xm_i x2), (3, xm_i x3), (4, xm_i x4), (5, xm_i x5)] [] S := by
  unfold wp_X12_isClosure_131 at h1
  obtain ⟨y1, e2⟩ : ∃ y1, y1 = (x5 + (1 : Int32)) := ⟨_, rfl⟩
  have h1 := h1 y1 e2
  refine x_iinc (v := y1) (L' := [(5, xm_i y1), (0, xm_r (some h)), (1, xm_i x1), (2, xm_i x2), (3, xm_i x3), (4, xm_i x4)]) C 5 dX12_isClosure_131 rfl (by rw [e2]; rfl) (by decide) rfl ?_
  refine x_goto (tgt := 6) C dX12_isClosure_134 (by decide) ?_
  refine x_keep (L' := [(0, xm_r (some h)), (1, xm_i x1), (2, xm_i x2), (3, xm_i x3), (4, xm_i x4), (5, xm_i y1)]) C [1, 2, 3, 4, 5, 0] rfl ?_
  exact hZ6 x1 x2 x3 x4 y1 S h1
def wp_X12_isClosure_120 (h : Nat)  (S : xm_S) (g : Int32 → xm_S → Prop) : Prop :=
  g (0 : Int32) S
set_option maxRecDepth 100000 in
set_option maxHeartbeats 4000000 in
theorem kp_X12_isClosure_120 {K : xm_K} (h : Nat)  (S : xm_S) {g : Int32 → xm_S → Prop} (C : xm_Cx K cX12_isClosure RX12 8 (some (FieldType.boolean)) rm_X12_isClosure) (N : xm_Nx K) (hg : ∀ v S, g v S → xm_q K (some (xm_i v)) S)  (h1 : wp_X12_isClosure_120 h  S g) : xm_W K 0 0 120 [] [] S := by
  unfold wp_X12_isClosure_120 at h1
  refine x_iconst (v := (0 : Int32)) C dX12_isClosure_120 (by decide) ?_
  exact x_zret C (Nat.le_of_ble_eq_true rfl) (Nat.le_of_ble_eq_true rfl) rfl (by decide) dX12_isClosure_121 (hg _ _ h1)
def wp_X12_isClosure_111 (h : Nat) (x1 : Int32) (x2 : Int32) (x3 : Int32) (x4 : Int32) (x5 : Int32) (S : xm_S) (g : Int32 → xm_S → Prop) (Z6 : Int32 → Int32 → Int32 → Int32 → Int32 → xm_S → Prop) : Prop :=
  st_t S h = some (12, 0) ∧ wp_X12_hasConflict h x5 S (fun r5 S4 => (r5 = 0 → ∀ y6, y6 = (x4 ||| ((1 : Int32) <<< (x5 &&& 31))) → wp_X12_isClosure_131 h x1 x2 x3 y6 x5 S4 g Z6) ∧ (¬ r5 = 0 → wp_X12_isClosure_120 h S4 g))
set_option maxRecDepth 100000 in
set_option maxHeartbeats 4000000 in
theorem kp_X12_isClosure_111 {K : xm_K} (h : Nat) (x1 : Int32) (x2 : Int32) (x3 : Int32) (x4 : Int32) (x5 : Int32) (S : xm_S) {g : Int32 → xm_S → Prop} {Z6 : Int32 → Int32 → Int32 → Int32 → Int32 → xm_S → Prop} (C : xm_Cx K cX12_isClosure RX12 8 (some (FieldType.boolean)) rm_X12_isClosure) (N : xm_Nx K) (hg : ∀ v S, g v S → xm_q K (some (xm_i v)) S) (hZ6 : ∀ x1 x2 x3 x4 x5 S, Z6 x1 x2 x3 x4 x5 S → xm_W K 0 0 6 [(0, xm_r (some h)), (1, xm_i x1), (2, xm_i x2), (3, xm_i x3), (4, xm_i x4), (5, xm_i x5)] [] S) (h1 : wp_X12_isClosure_111 h x1 x2 x3 x4 x5 S g Z6) : xm_W K 0 0 111 [(0, xm_r (some h)), (1, xm_i x1), (2, xm_i x2), (3, xm_i x3), (4, xm_i x4), (5, xm_i x5)] [] S := by
  unfold wp_X12_isClosure_111 at h1
  refine x_aload_n C 0 dX12_isClosure_111 rfl rfl ?_
  refine x_iload C 5 dX12_isClosure_112 rfl ?_
  obtain ⟨ht3, h1⟩ := h1
  refine x_callV (rm' := rm_X12_hasConflict) (n := h) C (kp_X12_hasConflict_met h1) lk_110 gw_652 gw_653 xv_12 rfl rfl ht3 rfl (Nat.le_of_ble_eq_true rfl) ⟨Nat.le_of_ble_eq_true rfl, Nat.le_of_ble_eq_true rfl, (Nat.le_of_ble_eq_true rfl), (Nat.le_of_ble_eq_true rfl)⟩ dX12_isClosure_114 xm_kx (xm_ki (fun r5 S4 h1 => ?_))
  refine x_if_eq (tgt := 122) C dX12_isClosure_117 (by decide) (fun z9 => ?_) (fun z9 => ?_)
  · have h1 := h1.1 z9
    refine x_iload C 4 dX12_isClosure_122 rfl ?_
    refine x_iconst (v := (1 : Int32)) C dX12_isClosure_124 (by decide) ?_
    refine x_iload C 5 dX12_isClosure_125 rfl ?_
    refine x_ishl C dX12_isClosure_127 ?_
    refine x_ior C dX12_isClosure_128 ?_
    refine x_topi (fun y6 e7 => ?_)
    have h1 := h1 y6 e7
    refine x_istore (L' := [(4, xm_i y6), (0, xm_r (some h)), (1, xm_i x1), (2, xm_i x2), (3, xm_i x3), (5, xm_i x5)]) C dX12_isClosure_129 (by decide) rfl ?_
    refine x_keep (L' := [(0, xm_r (some h)), (1, xm_i x1), (2, xm_i x2), (3, xm_i x3), (4, xm_i y6), (5, xm_i x5)]) C [1, 2, 3, 4, 0, 5] rfl ?_
    exact kp_X12_isClosure_131 h x1 x2 x3 y6 x5 S4 C N hg hZ6 h1
  · have h1 := h1.2 z9
    refine x_keep (L' := []) C [] rfl ?_
    exact kp_X12_isClosure_120 h S4 C N hg  h1
def wp_X12_isClosure_77 (h : Nat) (x1 : Int32) (x2 : Int32) (x3 : Int32) (x4 : Int32) (x5 : Int32) (x6 : Int32) (s0 : Int32) (S : xm_S) (g : Int32 → xm_S → Prop) (Z6 : Int32 → Int32 → Int32 → Int32 → Int32 → xm_S → Prop) : Prop :=
  st_t S h = some (12, 0) ∧ ∃ n9, (st_r S h 5) = some n9 ∧ ∃ z12, st_t S n9 = some (100, z12) ∧ vp_in x6 z12 ∧ wp_X12_isIn (st_i S h 26) (st_i S n9 (x6).toNatClampNeg) S (fun r15 S14 => (r15 = 0 → wp_X12_isClosure_120 h S14 g) ∧ (¬ r15 = 0 → st_t S14 h = some (12, 0) ∧ ∃ n17, (st_r S14 h 7) = some n17 ∧ ∃ z20, st_t S14 n17 = some (101, z20) ∧ vp_in x6 z20 ∧ ((st_i S14 n17 (x6).toNatClampNeg) = 0 → wp_X12_isClosure_111 h x1 x2 x3 x4 x5 S14 g Z6) ∧ (¬ (st_i S14 n17 (x6).toNatClampNeg) = 0 → (s0 = 0 → wp_X12_isClosure_120 h S14 g) ∧ (¬ s0 = 0 → wp_X12_isClosure_111 h x1 x2 x3 x4 x5 S14 g Z6))))
set_option maxRecDepth 100000 in
set_option maxHeartbeats 4000000 in
theorem kp_X12_isClosure_77 {K : xm_K} (h : Nat) (x1 : Int32) (x2 : Int32) (x3 : Int32) (x4 : Int32) (x5 : Int32) (x6 : Int32) (s0 : Int32) (S : xm_S) {g : Int32 → xm_S → Prop} {Z6 : Int32 → Int32 → Int32 → Int32 → Int32 → xm_S → Prop} (C : xm_Cx K cX12_isClosure RX12 8 (some (FieldType.boolean)) rm_X12_isClosure) (N : xm_Nx K) (hg : ∀ v S, g v S → xm_q K (some (xm_i v)) S) (hZ6 : ∀ x1 x2 x3 x4 x5 S, Z6 x1 x2 x3 x4 x5 S → xm_W K 0 0 6 [(0, xm_r (some h)), (1, xm_i x1), (2, xm_i x2), (3, xm_i x3), (4, xm_i x4), (5, xm_i x5)] [] S) (h1 : wp_X12_isClosure_77 h x1 x2 x3 x4 x5 x6 s0 S g Z6) : xm_W K 0 0 77 [(0, xm_r (some h)), (1, xm_i x1), (2, xm_i x2), (3, xm_i x3), (4, xm_i x4), (5, xm_i x5), (6, xm_i x6)] [xm_i s0] S := by
  unfold wp_X12_isClosure_77 at h1
  refine x_istore (L' := [(7, xm_i s0), (0, xm_r (some h)), (1, xm_i x1), (2, xm_i x2), (3, xm_i x3), (4, xm_i x4), (5, xm_i x5), (6, xm_i x6)]) C dX12_isClosure_77 (by decide) rfl ?_
  refine x_aload_n C 1 dX12_isClosure_79 rfl rfl ?_
  obtain ⟨ht8, h1⟩ := h1
  refine x_getf_i (n := h) C rfl ht8 fd_190 (by decide) dX12_isClosure_80 ?_
  refine x_aload_n C 1 dX12_isClosure_83 rfl rfl ?_
  refine x_getf_r (n := h) C rfl ht8 fd_191 (by decide) dX12_isClosure_84 ?_
  refine x_iload C 7 dX12_isClosure_87 rfl ?_
  obtain ⟨n9, hr10, h1⟩ := h1
  obtain ⟨z12, ht11, h1⟩ := h1
  obtain ⟨hi13, h1⟩ := h1
  refine x_iald (n := n9) C hr10 ht11 hi13 dX12_isClosure_89 ?_
  refine x_callS (rm' := rm_X12_isIn) C (kp_X12_isIn_met h1) lk_105 gw_624 rfl (Nat.le_of_ble_eq_true rfl) ⟨Nat.le_of_ble_eq_true rfl, Nat.le_of_ble_eq_true rfl, (Nat.le_of_ble_eq_true rfl), (Nat.le_of_ble_eq_true rfl)⟩ dX12_isClosure_90 xm_kx (xm_ki (fun r15 S14 h1 => ?_))
  refine x_if_eq (tgt := 120) C dX12_isClosure_93 (by decide) (fun z9 => ?_) (fun z9 => ?_)
  · have h1 := h1.1 z9
    refine x_keep (L' := []) C [] rfl ?_
    exact kp_X12_isClosure_120 h S14 C N hg  h1
  · have h1 := h1.2 z9
    refine x_aload_n C 1 dX12_isClosure_96 rfl rfl ?_
    obtain ⟨ht16, h1⟩ := h1
    refine x_getf_r (n := h) C rfl ht16 fd_192 (by decide) dX12_isClosure_97 ?_
    refine x_iload C 7 dX12_isClosure_100 rfl ?_
    obtain ⟨n17, hr18, h1⟩ := h1
    obtain ⟨z20, ht19, h1⟩ := h1
    obtain ⟨hi21, h1⟩ := h1
    refine x_zald (n := n17) C hr18 ht19 hi21 dX12_isClosure_102 ?_
    refine x_if_eq (tgt := 111) C dX12_isClosure_103 (by decide) (fun z9 => ?_) (fun z9 => ?_)
    · have h1 := h1.1 z9
      refine x_keep (L' := [(0, xm_r (some h)), (1, xm_i x1), (2, xm_i x2), (3, xm_i x3), (4, xm_i x4), (5, xm_i x5)]) C [1, 2, 3, 4, 5, 6] rfl ?_
      exact kp_X12_isClosure_111 h x1 x2 x3 x4 x5 S14 C N hg hZ6 h1
    · have h1 := h1.2 z9
      refine x_iload C 0 dX12_isClosure_106 rfl ?_
      refine x_if_eq (tgt := 120) C dX12_isClosure_108 (by decide) (fun z9 => ?_) (fun z9 => ?_)
      · have h1 := h1.1 z9
        refine x_keep (L' := []) C [] rfl ?_
        exact kp_X12_isClosure_120 h S14 C N hg  h1
      · have h1 := h1.2 z9
        refine x_keep (L' := [(0, xm_r (some h)), (1, xm_i x1), (2, xm_i x2), (3, xm_i x3), (4, xm_i x4), (5, xm_i x5)]) C [1, 2, 3, 4, 5, 6] rfl ?_
        exact kp_X12_isClosure_111 h x1 x2 x3 x4 x5 S14 C N hg hZ6 h1
def wp_X12_isClosure_76 (h : Nat) (x1 : Int32) (x2 : Int32) (x3 : Int32) (x4 : Int32) (x5 : Int32) (x6 : Int32) (S : xm_S) (g : Int32 → xm_S → Prop) (Z6 : Int32 → Int32 → Int32 → Int32 → Int32 → xm_S → Prop) : Prop :=
  wp_X12_isClosure_77 h x1 x2 x3 x4 x5 x6 (0 : Int32) S g Z6
set_option maxRecDepth 100000 in
set_option maxHeartbeats 4000000 in
theorem kp_X12_isClosure_76 {K : xm_K} (h : Nat) (x1 : Int32) (x2 : Int32) (x3 : Int32) (x4 : Int32) (x5 : Int32) (x6 : Int32) (S : xm_S) {g : Int32 → xm_S → Prop} {Z6 : Int32 → Int32 → Int32 → Int32 → Int32 → xm_S → Prop} (C : xm_Cx K cX12_isClosure RX12 8 (some (FieldType.boolean)) rm_X12_isClosure) (N : xm_Nx K) (hg : ∀ v S, g v S → xm_q K (some (xm_i v)) S) (hZ6 : ∀ x1 x2 x3 x4 x5 S, Z6 x1 x2 x3 x4 x5 S → xm_W K 0 0 6 [(0, xm_r (some h)), (1, xm_i x1), (2, xm_i x2), (3, xm_i x3), (4, xm_i x4), (5, xm_i x5)] [] S) (h1 : wp_X12_isClosure_76 h x1 x2 x3 x4 x5 x6 S g Z6) : xm_W K 0 0 76 [(0, xm_r (some h)), (1, xm_i x1), (2, xm_i x2), (3, xm_i x3), (4, xm_i x4), (5, xm_i x5), (6, xm_i x6)] [] S := by
  unfold wp_X12_isClosure_76 at h1
  refine x_iconst (v := (0 : Int32)) C dX12_isClosure_76 (by decide) ?_
  exact kp_X12_isClosure_77 h x1 x2 x3 x4 x5 x6 (0 : Int32) S C N hg hZ6 h1
def wp_X12_isClosure_153 (h : Nat) (s0 : Int32) (S : xm_S) (g : Int32 → xm_S → Prop) : Prop :=
  (s0 = 0 ∨ s0 = 1) ∧ g s0 S
set_option maxRecDepth 100000 in
set_option maxHeartbeats 4000000 in
theorem kp_X12_isClosure_153 {K : xm_K} (h : Nat) (s0 : Int32) (S : xm_S) {g : Int32 → xm_S → Prop} (C : xm_Cx K cX12_isClosure RX12 8 (some (FieldType.boolean)) rm_X12_isClosure) (N : xm_Nx K) (hg : ∀ v S, g v S → xm_q K (some (xm_i v)) S)  (h1 : wp_X12_isClosure_153 h s0 S g) : xm_W K 0 0 153 [] [xm_i s0] S := by
  unfold wp_X12_isClosure_153 at h1
  exact x_zret C (Nat.le_of_ble_eq_true rfl) (Nat.le_of_ble_eq_true rfl) rfl h1.1 dX12_isClosure_153 (hg _ _ h1.2)
def wp_X12_isClosure_6B (h : Nat) (x1 : Int32) (x2 : Int32) (x3 : Int32) (x4 : Int32) (x5 : Int32) (S : xm_S) (g : Int32 → xm_S → Prop) (Z6 : Int32 → Int32 → Int32 → Int32 → Int32 → xm_S → Prop) : Prop :=
  ((nI 6) ≤ x5 → st_t S h = some (12, 0) ∧ wp_X12_reaches h x1 x2 S (fun r24 S23 => (¬ r24 = x4 → wp_X12_isClosure_153 h (0 : Int32) S23 g) ∧ (r24 = x4 → wp_X12_isClosure_153 h (1 : Int32) S23 g))) ∧ (¬ (nI 6) ≤ x5 → st_t S h = some (12, 0) ∧ ∃ n26, (st_r S h 33) = some n26 ∧ ∃ z29, st_t S n26 = some (100, z29) ∧ vp_in x5 z29 ∧ ((st_i S n26 (x5).toNatClampNeg) = (-1 : Int32) → wp_X12_isClosure_131 h x1 x2 x3 x4 x5 S g Z6) ∧ (¬ (st_i S n26 (x5).toNatClampNeg) = (-1 : Int32) → ∃ n31, (st_r S h 33) = some n31 ∧ ∃ z34, st_t S n31 = some (100, z34) ∧ vp_in x5 z34 ∧ ∀ y36, y36 = (((nI 4) * x5) + (st_i S n31 (x5).toNatClampNeg)) → (x3 = (-2 : Int32) → wp_X12_isClosure_76 h x1 x2 x3 x4 x5 y36 S g Z6) ∧ (¬ x3 = (-2 : Int32) → (x3 = x5 → wp_X12_isClosure_76 h x1 x2 x3 x4 x5 y36 S g Z6) ∧ (¬ x3 = x5 → ∃ n38, (st_r S h 29) = some n38 ∧ ∃ z41, st_t S n38 = some (100, z41) ∧ vp_in (((nI 6) * x1) + x5) z41 ∧ ∃ n43, (st_r S h 33) = some n43 ∧ ∃ z46, st_t S n43 = some (100, z46) ∧ vp_in x5 z46 ∧ (¬ (st_i S n38 ((((nI 6) * x1) + x5)).toNatClampNeg) = (st_i S n43 (x5).toNatClampNeg) → wp_X12_isClosure_76 h x1 x2 x3 x4 x5 y36 S g Z6) ∧ ((st_i S n38 ((((nI 6) * x1) + x5)).toNatClampNeg) = (st_i S n43 (x5).toNatClampNeg) → wp_X12_isClosure_77 h x1 x2 x3 x4 x5 y36 (1 : Int32) S g Z6)))))
def wp_X12_isClosure_6 (h : Nat) (x1 : Int32) (x2 : Int32) (x3 : Int32) (x4 : Int32) (x5 : Int32) (S : xm_S) (g : Int32 → xm_S → Prop) : Prop :=
  ∀ Z6 : Int32 → Int32 → Int32 → Int32 → Int32 → xm_S → Prop, (∀ x1 x2 x3 x4 x5 S, wp_X12_isClosure_6B h x1 x2 x3 x4 x5 S g Z6 → Z6 x1 x2 x3 x4 x5 S) → Z6 x1 x2 x3 x4 x5 S
set_option maxRecDepth 100000 in
set_option maxHeartbeats 4000000 in
theorem kp_X12_isClosure_6B {K : xm_K} (h : Nat) (x1 : Int32) (x2 : Int32) (x3 : Int32) (x4 : Int32) (x5 : Int32) (S : xm_S) {g : Int32 → xm_S → Prop} {Z6 : Int32 → Int32 → Int32 → Int32 → Int32 → xm_S → Prop} (C : xm_Cx K cX12_isClosure RX12 8 (some (FieldType.boolean)) rm_X12_isClosure) (N : xm_Nx K) (hg : ∀ v S, g v S → xm_q K (some (xm_i v)) S) (hZ6 : ∀ x1 x2 x3 x4 x5 S, Z6 x1 x2 x3 x4 x5 S → xm_W K 0 0 6 [(0, xm_r (some h)), (1, xm_i x1), (2, xm_i x2), (3, xm_i x3), (4, xm_i x4), (5, xm_i x5)] [] S) (h1 : wp_X12_isClosure_6B h x1 x2 x3 x4 x5 S g Z6) : xm_W K 0 0 6 [(0, xm_r (some h)), (1, xm_i x1), (2, xm_i x2), (3, xm_i x3), (4, xm_i x4), (5, xm_i x5)] [] S := by
  unfold wp_X12_isClosure_6B at h1
  refine x_iload C 5 dX12_isClosure_6 rfl ?_
  refine x_bipush (v := (nI 6)) C dX12_isClosure_8 (by decide) ?_
  refine x_icmp_ge (tgt := 137) C dX12_isClosure_10 (by decide) (fun z9 => ?_) (fun z9 => ?_)
  · have h1 := h1.1 z9
    refine x_aload_n C 0 dX12_isClosure_137 rfl rfl ?_
    refine x_iload_n C 1 dX12_isClosure_138 rfl rfl ?_
    refine x_iload_n C 2 dX12_isClosure_139 rfl rfl ?_
    obtain ⟨ht22, h1⟩ := h1
    refine x_callV (rm' := rm_X12_reaches) (n := h) C (kp_X12_reaches_met h1) lk_111 gw_659 gw_660 xv_12 rfl rfl ht22 rfl (Nat.le_of_ble_eq_true rfl) ⟨Nat.le_of_ble_eq_true rfl, Nat.le_of_ble_eq_true rfl, (Nat.le_of_ble_eq_true rfl), (Nat.le_of_ble_eq_true rfl)⟩ dX12_isClosure_140 xm_kx (xm_ki (fun r24 S23 h1 => ?_))
    refine x_iload C 4 dX12_isClosure_143 rfl ?_
    refine x_icmp_ne (tgt := 152) C dX12_isClosure_145 (by decide) (fun z9 => ?_) (fun z9 => ?_)
    · have h1 := h1.1 z9
      refine x_iconst (v := (0 : Int32)) C dX12_isClosure_152 (by decide) ?_
      refine x_keep (L' := []) C [] rfl ?_
      exact kp_X12_isClosure_153 h (0 : Int32) S23 C N hg  h1
    · have h1 := h1.2 z9
      refine x_iconst (v := (1 : Int32)) C dX12_isClosure_148 (by decide) ?_
      refine x_goto (tgt := 153) C dX12_isClosure_149 (by decide) ?_
      refine x_keep (L' := []) C [] rfl ?_
      exact kp_X12_isClosure_153 h (1 : Int32) S23 C N hg  h1
  · have h1 := h1.2 z9
    refine x_aload_n C 0 dX12_isClosure_13 rfl rfl ?_
    obtain ⟨ht25, h1⟩ := h1
    refine x_getf_r (n := h) C rfl ht25 fd_174 (by decide) dX12_isClosure_14 ?_
    refine x_iload C 5 dX12_isClosure_17 rfl ?_
    obtain ⟨n26, hr27, h1⟩ := h1
    obtain ⟨z29, ht28, h1⟩ := h1
    obtain ⟨hi30, h1⟩ := h1
    refine x_iald (n := n26) C hr27 ht28 hi30 dX12_isClosure_19 ?_
    refine x_iconst (v := (-1 : Int32)) C dX12_isClosure_20 (by decide) ?_
    refine x_icmp_eq (tgt := 131) C dX12_isClosure_21 (by decide) (fun z9 => ?_) (fun z9 => ?_)
    · have h1 := h1.1 z9
      exact kp_X12_isClosure_131 h x1 x2 x3 x4 x5 S C N hg hZ6 h1
    · have h1 := h1.2 z9
      refine x_iconst (v := (nI 4)) C dX12_isClosure_24 (by decide) ?_
      refine x_iload C 5 dX12_isClosure_25 rfl ?_
      refine x_imul C dX12_isClosure_27 ?_
      refine x_aload_n C 0 dX12_isClosure_28 rfl rfl ?_
      refine x_getf_r (n := h) C rfl ht25 fd_174 (by decide) dX12_isClosure_29 ?_
      refine x_iload C 5 dX12_isClosure_32 rfl ?_
      obtain ⟨n31, hr32, h1⟩ := h1
      obtain ⟨z34, ht33, h1⟩ := h1
      obtain ⟨hi35, h1⟩ := h1
      refine x_iald (n := n31) C hr32 ht33 hi35 dX12_isClosure_34 ?_
      refine x_iadd C dX12_isClosure_35 ?_
      refine x_topi (fun y36 e37 => ?_)
      have h1 := h1 y36 e37
      refine x_istore (L' := [(6, xm_i y36), (0, xm_r (some h)), (1, xm_i x1), (2, xm_i x2), (3, xm_i x3), (4, xm_i x4), (5, xm_i x5)]) C dX12_isClosure_36 (by decide) rfl ?_
      refine x_iload_n C 4 dX12_isClosure_38 rfl rfl ?_
      refine x_bipush (v := (-2 : Int32)) C dX12_isClosure_39 (by decide) ?_
      refine x_icmp_eq (tgt := 76) C dX12_isClosure_41 (by decide) (fun z9 => ?_) (fun z9 => ?_)
      · have h1 := h1.1 z9
        refine x_keep (L' := [(0, xm_r (some h)), (1, xm_i x1), (2, xm_i x2), (3, xm_i x3), (4, xm_i x4), (5, xm_i x5), (6, xm_i y36)]) C [1, 2, 3, 4, 5, 6, 0] rfl ?_
        exact kp_X12_isClosure_76 h x1 x2 x3 x4 x5 y36 S C N hg hZ6 h1
      · have h1 := h1.2 z9
        refine x_iload_n C 4 dX12_isClosure_44 rfl rfl ?_
        refine x_iload C 6 dX12_isClosure_45 rfl ?_
        refine x_icmp_eq (tgt := 76) C dX12_isClosure_47 (by decide) (fun z9 => ?_) (fun z9 => ?_)
        · have h1 := h1.1 z9
          refine x_keep (L' := [(0, xm_r (some h)), (1, xm_i x1), (2, xm_i x2), (3, xm_i x3), (4, xm_i x4), (5, xm_i x5), (6, xm_i y36)]) C [1, 2, 3, 4, 5, 6, 0] rfl ?_
          exact kp_X12_isClosure_76 h x1 x2 x3 x4 x5 y36 S C N hg hZ6 h1
        · have h1 := h1.2 z9
          refine x_aload_n C 1 dX12_isClosure_50 rfl rfl ?_
          refine x_getf_r (n := h) C rfl ht25 fd_169 (by decide) dX12_isClosure_51 ?_
          refine x_bipush (v := (nI 6)) C dX12_isClosure_54 (by decide) ?_
          refine x_iload_n C 2 dX12_isClosure_56 rfl rfl ?_
          refine x_imul C dX12_isClosure_57 ?_
          refine x_iload C 6 dX12_isClosure_58 rfl ?_
          refine x_iadd C dX12_isClosure_60 ?_
          obtain ⟨n38, hr39, h1⟩ := h1
          obtain ⟨z41, ht40, h1⟩ := h1
          obtain ⟨hi42, h1⟩ := h1
          refine x_iald (n := n38) C hr39 ht40 hi42 dX12_isClosure_61 ?_
          refine x_aload_n C 1 dX12_isClosure_62 rfl rfl ?_
          refine x_getf_r (n := h) C rfl ht25 fd_174 (by decide) dX12_isClosure_63 ?_
          refine x_iload C 6 dX12_isClosure_66 rfl ?_
          obtain ⟨n43, hr44, h1⟩ := h1
          obtain ⟨z46, ht45, h1⟩ := h1
          obtain ⟨hi47, h1⟩ := h1
          refine x_iald (n := n43) C hr44 ht45 hi47 dX12_isClosure_68 ?_
          refine x_icmp_ne (tgt := 76) C dX12_isClosure_69 (by decide) (fun z9 => ?_) (fun z9 => ?_)
          · have h1 := h1.1 z9
            refine x_keep (L' := [(0, xm_r (some h)), (1, xm_i x1), (2, xm_i x2), (3, xm_i x3), (4, xm_i x4), (5, xm_i x5), (6, xm_i y36)]) C [1, 2, 3, 4, 5, 6, 0] rfl ?_
            exact kp_X12_isClosure_76 h x1 x2 x3 x4 x5 y36 S C N hg hZ6 h1
          · have h1 := h1.2 z9
            refine x_iconst (v := (1 : Int32)) C dX12_isClosure_72 (by decide) ?_
            refine x_goto (tgt := 77) C dX12_isClosure_73 (by decide) ?_
            refine x_keep (L' := [(0, xm_r (some h)), (1, xm_i x1), (2, xm_i x2), (3, xm_i x3), (4, xm_i x4), (5, xm_i x5), (6, xm_i y36)]) C [1, 2, 3, 4, 5, 6, 0] rfl ?_
            exact kp_X12_isClosure_77 h x1 x2 x3 x4 x5 y36 (1 : Int32) S C N hg hZ6 h1
theorem kp_X12_isClosure_6 {K : xm_K} (h : Nat) (x1 : Int32) (x2 : Int32) (x3 : Int32) (x4 : Int32) (x5 : Int32) (S : xm_S) {g : Int32 → xm_S → Prop} (C : xm_Cx K cX12_isClosure RX12 8 (some (FieldType.boolean)) rm_X12_isClosure) (N : xm_Nx K) (hg : ∀ v S, g v S → xm_q K (some (xm_i v)) S)  (h1 : wp_X12_isClosure_6 h x1 x2 x3 x4 x5 S g) : xm_W K 0 0 6 [(0, xm_r (some h)), (1, xm_i x1), (2, xm_i x2), (3, xm_i x3), (4, xm_i x4), (5, xm_i x5)] [] S :=
  h1 (fun x1 x2 x3 x4 x5 S => xm_W K 0 0 6 [(0, xm_r (some h)), (1, xm_i x1), (2, xm_i x2), (3, xm_i x3), (4, xm_i x4), (5, xm_i x5)] [] S) (fun x1 x2 x3 x4 x5 S hb => kp_X12_isClosure_6B h x1 x2 x3 x4 x5 S C N hg (fun x1 x2 x3 x4 x5 S hz => hz) hb)
def wp_X12_isClosure (h : Nat) (x1 : Int32) (x2 : Int32) (x3 : Int32) (S : xm_S) (g : Int32 → xm_S → Prop) : Prop :=
  wp_X12_isClosure_6 h x1 x2 x3 (0 : Int32) (0 : Int32) S g
set_option maxRecDepth 100000 in
set_option maxHeartbeats 4000000 in
theorem kp_X12_isClosure {K : xm_K} (h : Nat) (x1 : Int32) (x2 : Int32) (x3 : Int32) (S : xm_S) {g : Int32 → xm_S → Prop} (C : xm_Cx K cX12_isClosure RX12 8 (some (FieldType.boolean)) rm_X12_isClosure) (N : xm_Nx K) (hg : ∀ v S, g v S → xm_q K (some (xm_i v)) S)  (h1 : wp_X12_isClosure h x1 x2 x3 S g) : xm_W K 0 0 0 [(0, xm_r (some h)), (1, xm_i x1), (2, xm_i x2), (3, xm_i x3)] [] S := by
  unfold wp_X12_isClosure at h1
  refine x_iconst (v := (0 : Int32)) C dX12_isClosure_0 (by decide) ?_
  refine x_istore (L' := [(4, xm_i (0 : Int32)), (0, xm_r (some h)), (1, xm_i x1), (2, xm_i x2), (3, xm_i x3)]) C dX12_isClosure_1 (by decide) rfl ?_
  refine x_iconst (v := (0 : Int32)) C dX12_isClosure_3 (by decide) ?_
  refine x_istore (L' := [(5, xm_i (0 : Int32)), (4, xm_i (0 : Int32)), (0, xm_r (some h)), (1, xm_i x1), (2, xm_i x2), (3, xm_i x3)]) C dX12_isClosure_4 (by decide) rfl ?_
  refine x_keep (L' := [(0, xm_r (some h)), (1, xm_i x1), (2, xm_i x2), (3, xm_i x3), (4, xm_i (0 : Int32)), (5, xm_i (0 : Int32))]) C [2, 3, 4, 5, 1, 0] rfl ?_
  exact kp_X12_isClosure_6 h x1 x2 x3 (0 : Int32) (0 : Int32) S C N hg  h1
theorem kp_X12_isClosure_met {h : Nat} {x1 : Int32} {x2 : Int32} {x3 : Int32} {S : xm_S} {g : Int32 → xm_S → Prop}  (h1 : wp_X12_isClosure h x1 x2 x3 S g) : xm_Met yX12_isClosure cX12_isClosure 8 (some (FieldType.boolean)) rm_X12_isClosure [xm_r (some h), xm_i x1, xm_i x2, xm_i x3] S (xm_qi g) xm_nox :=
  xm_ofW RX12 (by decide +kernel) rfl (Nat.le_of_ble_eq_true rfl) (fun K C N hq hx hi => kp_X12_isClosure h x1 x2 x3 S C N (fun v S h => by rw [hq]; exact ⟨v, rfl, h⟩)  h1)
def rm_X12_compares : Room := { frames := 3, cells := 0, slots := 0, locals := 68 }
theorem dX12_compares_0 : decode cX12_compares 0 = .ok (.aload_n 0, 1) := by decide +kernel
theorem dX12_compares_1 : decode cX12_compares 1 = .ok (.getfield 7, 3) := by decide +kernel
theorem dX12_compares_4 : decode cX12_compares 4 = .ok (.iload_n 1, 1) := by decide +kernel
theorem dX12_compares_5 : decode cX12_compares 5 = .ok (.iaload, 1) := by decide +kernel
theorem dX12_compares_6 : decode cX12_compares 6 = .ok (.aload_n 0, 1) := by decide +kernel
theorem dX12_compares_7 : decode cX12_compares 7 = .ok (.getfield 16, 3) := by decide +kernel
theorem dX12_compares_10 : decode cX12_compares 10 = .ok (.iconst 4, 1) := by decide +kernel
theorem dX12_compares_11 : decode cX12_compares 11 = .ok (.iload_n 1, 1) := by decide +kernel
theorem dX12_compares_12 : decode cX12_compares 12 = .ok (.imul, 1) := by decide +kernel
theorem dX12_compares_13 : decode cX12_compares 13 = .ok (.iload_n 2, 1) := by decide +kernel
theorem dX12_compares_14 : decode cX12_compares 14 = .ok (.iadd, 1) := by decide +kernel
theorem dX12_compares_15 : decode cX12_compares 15 = .ok (.iaload, 1) := by decide +kernel
theorem dX12_compares_16 : decode cX12_compares 16 = .ok (.invokestatic 225, 3) := by decide +kernel
theorem dX12_compares_19 : decode cX12_compares 19 = .ok (.aload_n 0, 1) := by decide +kernel
theorem dX12_compares_20 : decode cX12_compares 20 = .ok (.getfield 7, 3) := by decide +kernel
theorem dX12_compares_23 : decode cX12_compares 23 = .ok (.iload_n 1, 1) := by decide +kernel
theorem dX12_compares_24 : decode cX12_compares 24 = .ok (.iaload, 1) := by decide +kernel
theorem dX12_compares_25 : decode cX12_compares 25 = .ok (.aload_n 0, 1) := by decide +kernel
theorem dX12_compares_26 : decode cX12_compares 26 = .ok (.getfield 16, 3) := by decide +kernel
theorem dX12_compares_29 : decode cX12_compares 29 = .ok (.iconst 4, 1) := by decide +kernel
theorem dX12_compares_30 : decode cX12_compares 30 = .ok (.iload_n 1, 1) := by decide +kernel
theorem dX12_compares_31 : decode cX12_compares 31 = .ok (.imul, 1) := by decide +kernel
theorem dX12_compares_32 : decode cX12_compares 32 = .ok (.iload_n 3, 1) := by decide +kernel
theorem dX12_compares_33 : decode cX12_compares 33 = .ok (.iadd, 1) := by decide +kernel
theorem dX12_compares_34 : decode cX12_compares 34 = .ok (.iaload, 1) := by decide +kernel
theorem dX12_compares_35 : decode cX12_compares 35 = .ok (.invokestatic 225, 3) := by decide +kernel
theorem dX12_compares_38 : decode cX12_compares 38 = .ok (.isub, 1) := by decide +kernel
theorem dX12_compares_39 : decode cX12_compares 39 = .ok (.istore 4, 2) := by decide +kernel
theorem dX12_compares_41 : decode cX12_compares 41 = .ok (.iload 4, 2) := by decide +kernel
theorem dX12_compares_43 : decode cX12_compares 43 = .ok (.ifCond .eq 8, 3) := by decide +kernel
theorem dX12_compares_46 : decode cX12_compares 46 = .ok (.iload 4, 2) := by decide +kernel
theorem dX12_compares_48 : decode cX12_compares 48 = .ok (.goto 6, 3) := by decide +kernel
theorem dX12_compares_51 : decode cX12_compares 51 = .ok (.iload_n 2, 1) := by decide +kernel
theorem dX12_compares_52 : decode cX12_compares 52 = .ok (.iload_n 3, 1) := by decide +kernel
theorem dX12_compares_53 : decode cX12_compares 53 = .ok (.isub, 1) := by decide +kernel
theorem dX12_compares_54 : decode cX12_compares 54 = .ok (.ireturn, 1) := by decide +kernel
def wp_X12_compares_54 (h : Nat) (s0 : Int32) (S : xm_S) (g : Int32 → xm_S → Prop) : Prop :=
  g s0 S
set_option maxRecDepth 100000 in
set_option maxHeartbeats 4000000 in
theorem kp_X12_compares_54 {K : xm_K} (h : Nat) (s0 : Int32) (S : xm_S) {g : Int32 → xm_S → Prop} (C : xm_Cx K cX12_compares RX12 5 (some (FieldType.int)) rm_X12_compares) (N : xm_Nx K) (hg : ∀ v S, g v S → xm_q K (some (xm_i v)) S)  (h1 : wp_X12_compares_54 h s0 S g) : xm_W K 0 0 54 [] [xm_i s0] S := by
  unfold wp_X12_compares_54 at h1
  exact x_iret C (Nat.le_of_ble_eq_true rfl) (Nat.le_of_ble_eq_true rfl) rfl dX12_compares_54 (hg _ _ h1)
def wp_X12_compares (h : Nat) (x1 : Int32) (x2 : Int32) (x3 : Int32) (S : xm_S) (g : Int32 → xm_S → Prop) : Prop :=
  st_t S h = some (12, 0) ∧ ∃ n2, (st_r S h 1) = some n2 ∧ ∃ z5, st_t S n2 = some (100, z5) ∧ vp_in x1 z5 ∧ ∃ n7, (st_r S h 3) = some n7 ∧ ∃ z10, st_t S n7 = some (100, z10) ∧ vp_in (((nI 4) * x1) + x2) z10 ∧ wp_X12_keyOf (st_i S n2 (x1).toNatClampNeg) (st_i S n7 ((((nI 4) * x1) + x2)).toNatClampNeg) S (fun r13 S12 => st_t S12 h = some (12, 0) ∧ ∃ n15, (st_r S12 h 1) = some n15 ∧ ∃ z18, st_t S12 n15 = some (100, z18) ∧ vp_in x1 z18 ∧ ∃ n20, (st_r S12 h 3) = some n20 ∧ ∃ z23, st_t S12 n20 = some (100, z23) ∧ vp_in (((nI 4) * x1) + x3) z23 ∧ wp_X12_keyOf (st_i S12 n15 (x1).toNatClampNeg) (st_i S12 n20 ((((nI 4) * x1) + x3)).toNatClampNeg) S12 (fun r26 S25 => ∀ y27, y27 = (r13 - r26) → (y27 = 0 → wp_X12_compares_54 h (x2 - x3) S25 g) ∧ (¬ y27 = 0 → wp_X12_compares_54 h y27 S25 g)))
set_option maxRecDepth 100000 in
set_option maxHeartbeats 4000000 in
theorem kp_X12_compares {K : xm_K} (h : Nat) (x1 : Int32) (x2 : Int32) (x3 : Int32) (S : xm_S) {g : Int32 → xm_S → Prop} (C : xm_Cx K cX12_compares RX12 5 (some (FieldType.int)) rm_X12_compares) (N : xm_Nx K) (hg : ∀ v S, g v S → xm_q K (some (xm_i v)) S)  (h1 : wp_X12_compares h x1 x2 x3 S g) : xm_W K 0 0 0 [(0, xm_r (some h)), (1, xm_i x1), (2, xm_i x2), (3, xm_i x3)] [] S := by
  unfold wp_X12_compares at h1
  refine x_aload_n C 0 dX12_compares_0 rfl rfl ?_
  obtain ⟨ht1, h1⟩ := h1
  refine x_getf_r (n := h) C rfl ht1 fd_170 (by decide) dX12_compares_1 ?_
  refine x_iload_n C 1 dX12_compares_4 rfl rfl ?_
  obtain ⟨n2, hr3, h1⟩ := h1
  obtain ⟨z5, ht4, h1⟩ := h1
  obtain ⟨hi6, h1⟩ := h1
  refine x_iald (n := n2) C hr3 ht4 hi6 dX12_compares_5 ?_
  refine x_aload_n C 0 dX12_compares_6 rfl rfl ?_
  refine x_getf_r (n := h) C rfl ht1 fd_171 (by decide) dX12_compares_7 ?_
  refine x_iconst (v := (nI 4)) C dX12_compares_10 (by decide) ?_
  refine x_iload_n C 1 dX12_compares_11 rfl rfl ?_
  refine x_imul C dX12_compares_12 ?_
  refine x_iload_n C 2 dX12_compares_13 rfl rfl ?_
  refine x_iadd C dX12_compares_14 ?_
  obtain ⟨n7, hr8, h1⟩ := h1
  obtain ⟨z10, ht9, h1⟩ := h1
  obtain ⟨hi11, h1⟩ := h1
  refine x_iald (n := n7) C hr8 ht9 hi11 dX12_compares_15 ?_
  refine x_callS (rm' := rm_X12_keyOf) C (kp_X12_keyOf_met h1) lk_100 gw_593 rfl (Nat.le_of_ble_eq_true rfl) ⟨Nat.le_of_ble_eq_true rfl, Nat.le_of_ble_eq_true rfl, (Nat.le_of_ble_eq_true rfl), (Nat.le_of_ble_eq_true rfl)⟩ dX12_compares_16 xm_kx (xm_ki (fun r13 S12 h1 => ?_))
  refine x_aload_n C 0 dX12_compares_19 rfl rfl ?_
  obtain ⟨ht14, h1⟩ := h1
  refine x_getf_r (n := h) C rfl ht14 fd_170 (by decide) dX12_compares_20 ?_
  refine x_iload_n C 1 dX12_compares_23 rfl rfl ?_
  obtain ⟨n15, hr16, h1⟩ := h1
  obtain ⟨z18, ht17, h1⟩ := h1
  obtain ⟨hi19, h1⟩ := h1
  refine x_iald (n := n15) C hr16 ht17 hi19 dX12_compares_24 ?_
  refine x_aload_n C 0 dX12_compares_25 rfl rfl ?_
  refine x_getf_r (n := h) C rfl ht14 fd_171 (by decide) dX12_compares_26 ?_
  refine x_iconst (v := (nI 4)) C dX12_compares_29 (by decide) ?_
  refine x_iload_n C 1 dX12_compares_30 rfl rfl ?_
  refine x_imul C dX12_compares_31 ?_
  refine x_iload_n C 3 dX12_compares_32 rfl rfl ?_
  refine x_iadd C dX12_compares_33 ?_
  obtain ⟨n20, hr21, h1⟩ := h1
  obtain ⟨z23, ht22, h1⟩ := h1
  obtain ⟨hi24, h1⟩ := h1
  refine x_iald (n := n20) C hr21 ht22 hi24 dX12_compares_34 ?_
  refine x_callS (rm' := rm_X12_keyOf) C (kp_X12_keyOf_met h1) lk_100 gw_593 rfl (Nat.le_of_ble_eq_true rfl) ⟨Nat.le_of_ble_eq_true rfl, Nat.le_of_ble_eq_true rfl, (Nat.le_of_ble_eq_true rfl), (Nat.le_of_ble_eq_true rfl)⟩ dX12_compares_35 xm_kx (xm_ki (fun r26 S25 h1 => ?_))
  refine x_isub C dX12_compares_38 ?_
  refine x_topi (fun y27 e28 => ?_)
  have h1 := h1 y27 e28
  refine x_istore (L' := [(4, xm_i y27), (0, xm_r (some h)), (1, xm_i x1), (2, xm_i x2), (3, xm_i x3)]) C dX12_compares_39 (by decide) rfl ?_
  refine x_iload C 0 dX12_compares_41 rfl ?_
  refine x_if_eq (tgt := 51) C dX12_compares_43 (by decide) (fun z9 => ?_) (fun z9 => ?_)
  · have h1 := h1.1 z9
    refine x_iload_n C 3 dX12_compares_51 rfl rfl ?_
    refine x_iload_n C 4 dX12_compares_52 rfl rfl ?_
    refine x_isub C dX12_compares_53 ?_
    refine x_keep (L' := []) C [] rfl ?_
    exact kp_X12_compares_54 h (x2 - x3) S25 C N hg  h1
  · have h1 := h1.2 z9
    refine x_iload C 0 dX12_compares_46 rfl ?_
    refine x_goto (tgt := 54) C dX12_compares_48 (by decide) ?_
    refine x_keep (L' := []) C [] rfl ?_
    exact kp_X12_compares_54 h y27 S25 C N hg  h1
theorem kp_X12_compares_met {h : Nat} {x1 : Int32} {x2 : Int32} {x3 : Int32} {S : xm_S} {g : Int32 → xm_S → Prop}  (h1 : wp_X12_compares h x1 x2 x3 S g) : xm_Met yX12_compares cX12_compares 5 (some (FieldType.int)) rm_X12_compares [xm_r (some h), xm_i x1, xm_i x2, xm_i x3] S (xm_qi g) xm_nox :=
  xm_ofW RX12 (by decide +kernel) rfl (Nat.le_of_ble_eq_true rfl) (fun K C N hq hx hi => kp_X12_compares h x1 x2 x3 S C N (fun v S h => by rw [hq]; exact ⟨v, rfl, h⟩)  h1)
def rm_X12_versionsOf : Room := { frames := 7, cells := 0, slots := 0, locals := 155 }
theorem dX12_versionsOf_0 : decode cX12_versionsOf 0 = .ok (.iconst 0, 1) := by decide +kernel
theorem dX12_versionsOf_1 : decode cX12_versionsOf 1 = .ok (.istore_n 3, 1) := by decide +kernel
theorem dX12_versionsOf_2 : decode cX12_versionsOf 2 = .ok (.iconst 0, 1) := by decide +kernel
theorem dX12_versionsOf_3 : decode cX12_versionsOf 3 = .ok (.istore 4, 2) := by decide +kernel
theorem dX12_versionsOf_5 : decode cX12_versionsOf 5 = .ok (.iload 4, 2) := by decide +kernel
theorem dX12_versionsOf_7 : decode cX12_versionsOf 7 = .ok (.aload_n 0, 1) := by decide +kernel
theorem dX12_versionsOf_8 : decode cX12_versionsOf 8 = .ok (.getfield 13, 3) := by decide +kernel
theorem dX12_versionsOf_11 : decode cX12_versionsOf 11 = .ok (.iload_n 2, 1) := by decide +kernel
theorem dX12_versionsOf_12 : decode cX12_versionsOf 12 = .ok (.iaload, 1) := by decide +kernel
theorem dX12_versionsOf_13 : decode cX12_versionsOf 13 = .ok (.if_icmp .ge 45, 3) := by decide +kernel
theorem dX12_versionsOf_16 : decode cX12_versionsOf 16 = .ok (.iload_n 3, 1) := by decide +kernel
theorem dX12_versionsOf_17 : decode cX12_versionsOf 17 = .ok (.aload_n 0, 1) := by decide +kernel
theorem dX12_versionsOf_18 : decode cX12_versionsOf 18 = .ok (.iload_n 1, 1) := by decide +kernel
theorem dX12_versionsOf_19 : decode cX12_versionsOf 19 = .ok (.aload_n 0, 1) := by decide +kernel
theorem dX12_versionsOf_20 : decode cX12_versionsOf 20 = .ok (.getfield 7, 3) := by decide +kernel
theorem dX12_versionsOf_23 : decode cX12_versionsOf 23 = .ok (.iload_n 2, 1) := by decide +kernel
theorem dX12_versionsOf_24 : decode cX12_versionsOf 24 = .ok (.iaload, 1) := by decide +kernel
theorem dX12_versionsOf_25 : decode cX12_versionsOf 25 = .ok (.aload_n 0, 1) := by decide +kernel
theorem dX12_versionsOf_26 : decode cX12_versionsOf 26 = .ok (.getfield 16, 3) := by decide +kernel
theorem dX12_versionsOf_29 : decode cX12_versionsOf 29 = .ok (.iconst 4, 1) := by decide +kernel
theorem dX12_versionsOf_30 : decode cX12_versionsOf 30 = .ok (.iload_n 2, 1) := by decide +kernel
theorem dX12_versionsOf_31 : decode cX12_versionsOf 31 = .ok (.imul, 1) := by decide +kernel
theorem dX12_versionsOf_32 : decode cX12_versionsOf 32 = .ok (.iload 4, 2) := by decide +kernel
theorem dX12_versionsOf_34 : decode cX12_versionsOf 34 = .ok (.iadd, 1) := by decide +kernel
theorem dX12_versionsOf_35 : decode cX12_versionsOf 35 = .ok (.iaload, 1) := by decide +kernel
theorem dX12_versionsOf_36 : decode cX12_versionsOf 36 = .ok (.invokevirtual 251, 3) := by decide +kernel
theorem dX12_versionsOf_39 : decode cX12_versionsOf 39 = .ok (.ifCond .eq 10, 3) := by decide +kernel
theorem dX12_versionsOf_42 : decode cX12_versionsOf 42 = .ok (.iconst 1, 1) := by decide +kernel
theorem dX12_versionsOf_43 : decode cX12_versionsOf 43 = .ok (.iload 4, 2) := by decide +kernel
theorem dX12_versionsOf_45 : decode cX12_versionsOf 45 = .ok (.ishl, 1) := by decide +kernel
theorem dX12_versionsOf_46 : decode cX12_versionsOf 46 = .ok (.goto 4, 3) := by decide +kernel
theorem dX12_versionsOf_49 : decode cX12_versionsOf 49 = .ok (.iconst 0, 1) := by decide +kernel
theorem dX12_versionsOf_50 : decode cX12_versionsOf 50 = .ok (.ior, 1) := by decide +kernel
theorem dX12_versionsOf_51 : decode cX12_versionsOf 51 = .ok (.istore_n 3, 1) := by decide +kernel
theorem dX12_versionsOf_52 : decode cX12_versionsOf 52 = .ok (.iinc 4 1, 3) := by decide +kernel
theorem dX12_versionsOf_55 : decode cX12_versionsOf 55 = .ok (.goto (-50), 3) := by decide +kernel
theorem dX12_versionsOf_58 : decode cX12_versionsOf 58 = .ok (.iload_n 3, 1) := by decide +kernel
theorem dX12_versionsOf_59 : decode cX12_versionsOf 59 = .ok (.ireturn, 1) := by decide +kernel
def wp_X12_versionsOf_50 (h : Nat) (x1 : Int32) (x2 : Int32) (x4 : Int32) (s0 : Int32) (s1 : Int32) (S : xm_S) (g : Int32 → xm_S → Prop) (Z5 : Int32 → Int32 → Int32 → Int32 → xm_S → Prop) : Prop :=
  ∀ y1, y1 = (s1 ||| s0) → ∀ y3, y3 = (x4 + (1 : Int32)) → Z5 x1 x2 y1 y3 S
set_option maxRecDepth 100000 in
set_option maxHeartbeats 4000000 in
theorem kp_X12_versionsOf_50 {K : xm_K} (h : Nat) (x1 : Int32) (x2 : Int32) (x4 : Int32) (s0 : Int32) (s1 : Int32) (S : xm_S) {g : Int32 → xm_S → Prop} {Z5 : Int32 → Int32 → Int32 → Int32 → xm_S → Prop} (C : xm_Cx K cX12_versionsOf RX12 5 (some (FieldType.int)) rm_X12_versionsOf) (N : xm_Nx K) (hg : ∀ v S, g v S → xm_q K (some (xm_i v)) S) (hZ5 : ∀ x1 x2 x3 x4 S, Z5 x1 x2 x3 x4 S → xm_W K 0 0 5 [(0, xm_r (some h)), (1, xm_i x1), (2, xm_i x2), (3, xm_i x3), (4, xm_i x4)] [] S) (h1 : wp_X12_versionsOf_50 h x1 x2 x4 s0 s1 S g Z5) : xm_W K 0 0 50 [(0, xm_r (some h)), (1, xm_i x1), (2, xm_i x2), (4, xm_i x4)] [xm_i s0, xm_i s1] S := by
  unfold wp_X12_versionsOf_50 at h1
  refine x_ior C dX12_versionsOf_50 ?_
  refine x_topi (fun y1 e2 => ?_)
  have h1 := h1 y1 e2
  refine x_istore_n (L' := [(3, xm_i y1), (0, xm_r (some h)), (1, xm_i x1), (2, xm_i x2), (4, xm_i x4)]) C dX12_versionsOf_51 rfl (by decide) rfl ?_
  obtain ⟨y3, e4⟩ : ∃ y3, y3 = (x4 + (1 : Int32)) := ⟨_, rfl⟩
  have h1 := h1 y3 e4
  refine x_iinc (v := y3) (L' := [(4, xm_i y3), (3, xm_i y1), (0, xm_r (some h)), (1, xm_i x1), (2, xm_i x2)]) C 4 dX12_versionsOf_52 rfl (by rw [e4]; rfl) (by decide) rfl ?_
  refine x_goto (tgt := 5) C dX12_versionsOf_55 (by decide) ?_
  refine x_keep (L' := [(0, xm_r (some h)), (1, xm_i x1), (2, xm_i x2), (3, xm_i y1), (4, xm_i y3)]) C [2, 3, 4, 1, 0] rfl ?_
  exact hZ5 x1 x2 y1 y3 S h1
def wp_X12_versionsOf_5B (h : Nat) (x1 : Int32) (x2 : Int32) (x3 : Int32) (x4 : Int32) (S : xm_S) (g : Int32 → xm_S → Prop) (Z5 : Int32 → Int32 → Int32 → Int32 → xm_S → Prop) : Prop :=
  st_t S h = some (12, 0) ∧ ∃ n6, (st_r S h 2) = some n6 ∧ ∃ z9, st_t S n6 = some (100, z9) ∧ vp_in x2 z9 ∧ ((st_i S n6 (x2).toNatClampNeg) ≤ x4 → g x3 S) ∧ (¬ (st_i S n6 (x2).toNatClampNeg) ≤ x4 → ∃ n11, (st_r S h 1) = some n11 ∧ ∃ z14, st_t S n11 = some (100, z14) ∧ vp_in x2 z14 ∧ ∃ n16, (st_r S h 3) = some n16 ∧ ∃ z19, st_t S n16 = some (100, z19) ∧ vp_in (((nI 4) * x2) + x4) z19 ∧ wp_X12_isRangeOf h x1 (st_i S n11 (x2).toNatClampNeg) (st_i S n16 ((((nI 4) * x2) + x4)).toNatClampNeg) S (fun r22 S21 => (r22 = 0 → wp_X12_versionsOf_50 h x1 x2 x4 (0 : Int32) x3 S21 g Z5) ∧ (¬ r22 = 0 → wp_X12_versionsOf_50 h x1 x2 x4 ((1 : Int32) <<< (x4 &&& 31)) x3 S21 g Z5)))
def wp_X12_versionsOf_5 (h : Nat) (x1 : Int32) (x2 : Int32) (x3 : Int32) (x4 : Int32) (S : xm_S) (g : Int32 → xm_S → Prop) : Prop :=
  ∀ Z5 : Int32 → Int32 → Int32 → Int32 → xm_S → Prop, (∀ x1 x2 x3 x4 S, wp_X12_versionsOf_5B h x1 x2 x3 x4 S g Z5 → Z5 x1 x2 x3 x4 S) → Z5 x1 x2 x3 x4 S
set_option maxRecDepth 100000 in
set_option maxHeartbeats 4000000 in
theorem kp_X12_versionsOf_5B {K : xm_K} (h : Nat) (x1 : Int32) (x2 : Int32) (x3 : Int32) (x4 : Int32) (S : xm_S) {g : Int32 → xm_S → Prop} {Z5 : Int32 → Int32 → Int32 → Int32 → xm_S → Prop} (C : xm_Cx K cX12_versionsOf RX12 5 (some (FieldType.int)) rm_X12_versionsOf) (N : xm_Nx K) (hg : ∀ v S, g v S → xm_q K (some (xm_i v)) S) (hZ5 : ∀ x1 x2 x3 x4 S, Z5 x1 x2 x3 x4 S → xm_W K 0 0 5 [(0, xm_r (some h)), (1, xm_i x1), (2, xm_i x2), (3, xm_i x3), (4, xm_i x4)] [] S) (h1 : wp_X12_versionsOf_5B h x1 x2 x3 x4 S g Z5) : xm_W K 0 0 5 [(0, xm_r (some h)), (1, xm_i x1), (2, xm_i x2), (3, xm_i x3), (4, xm_i x4)] [] S := by
  unfold wp_X12_versionsOf_5B at h1
  refine x_iload C 4 dX12_versionsOf_5 rfl ?_
  refine x_aload_n C 0 dX12_versionsOf_7 rfl rfl ?_
  obtain ⟨ht5, h1⟩ := h1
  refine x_getf_r (n := h) C rfl ht5 fd_175 (by decide) dX12_versionsOf_8 ?_
  refine x_iload_n C 2 dX12_versionsOf_11 rfl rfl ?_
  obtain ⟨n6, hr7, h1⟩ := h1
  obtain ⟨z9, ht8, h1⟩ := h1
  obtain ⟨hi10, h1⟩ := h1
  refine x_iald (n := n6) C hr7 ht8 hi10 dX12_versionsOf_12 ?_
  refine x_icmp_ge (tgt := 58) C dX12_versionsOf_13 (by decide) (fun z9 => ?_) (fun z9 => ?_)
  · have h1 := h1.1 z9
    refine x_iload_n C 3 dX12_versionsOf_58 rfl rfl ?_
    exact x_iret C (Nat.le_of_ble_eq_true rfl) (Nat.le_of_ble_eq_true rfl) rfl dX12_versionsOf_59 (hg _ _ h1)
  · have h1 := h1.2 z9
    refine x_iload_n C 3 dX12_versionsOf_16 rfl rfl ?_
    refine x_aload_n C 0 dX12_versionsOf_17 rfl rfl ?_
    refine x_iload_n C 1 dX12_versionsOf_18 rfl rfl ?_
    refine x_aload_n C 0 dX12_versionsOf_19 rfl rfl ?_
    refine x_getf_r (n := h) C rfl ht5 fd_170 (by decide) dX12_versionsOf_20 ?_
    refine x_iload_n C 2 dX12_versionsOf_23 rfl rfl ?_
    obtain ⟨n11, hr12, h1⟩ := h1
    obtain ⟨z14, ht13, h1⟩ := h1
    obtain ⟨hi15, h1⟩ := h1
    refine x_iald (n := n11) C hr12 ht13 hi15 dX12_versionsOf_24 ?_
    refine x_aload_n C 0 dX12_versionsOf_25 rfl rfl ?_
    refine x_getf_r (n := h) C rfl ht5 fd_171 (by decide) dX12_versionsOf_26 ?_
    refine x_iconst (v := (nI 4)) C dX12_versionsOf_29 (by decide) ?_
    refine x_iload_n C 2 dX12_versionsOf_30 rfl rfl ?_
    refine x_imul C dX12_versionsOf_31 ?_
    refine x_iload C 4 dX12_versionsOf_32 rfl ?_
    refine x_iadd C dX12_versionsOf_34 ?_
    obtain ⟨n16, hr17, h1⟩ := h1
    obtain ⟨z19, ht18, h1⟩ := h1
    obtain ⟨hi20, h1⟩ := h1
    refine x_iald (n := n16) C hr17 ht18 hi20 dX12_versionsOf_35 ?_
    refine x_callV (rm' := rm_X12_isRangeOf) (n := h) C (kp_X12_isRangeOf_met h1) lk_103 gw_607 gw_608 xv_12 rfl rfl ht5 rfl (Nat.le_of_ble_eq_true rfl) ⟨Nat.le_of_ble_eq_true rfl, Nat.le_of_ble_eq_true rfl, (Nat.le_of_ble_eq_true rfl), (Nat.le_of_ble_eq_true rfl)⟩ dX12_versionsOf_36 xm_kx (xm_ki (fun r22 S21 h1 => ?_))
    refine x_if_eq (tgt := 49) C dX12_versionsOf_39 (by decide) (fun z9 => ?_) (fun z9 => ?_)
    · have h1 := h1.1 z9
      refine x_iconst (v := (0 : Int32)) C dX12_versionsOf_49 (by decide) ?_
      refine x_keep (L' := [(0, xm_r (some h)), (1, xm_i x1), (2, xm_i x2), (4, xm_i x4)]) C [0, 1, 2, 4] rfl ?_
      exact kp_X12_versionsOf_50 h x1 x2 x4 (0 : Int32) x3 S21 C N hg hZ5 h1
    · have h1 := h1.2 z9
      refine x_iconst (v := (1 : Int32)) C dX12_versionsOf_42 (by decide) ?_
      refine x_iload C 4 dX12_versionsOf_43 rfl ?_
      refine x_ishl C dX12_versionsOf_45 ?_
      refine x_goto (tgt := 50) C dX12_versionsOf_46 (by decide) ?_
      refine x_keep (L' := [(0, xm_r (some h)), (1, xm_i x1), (2, xm_i x2), (4, xm_i x4)]) C [0, 1, 2, 4] rfl ?_
      exact kp_X12_versionsOf_50 h x1 x2 x4 ((1 : Int32) <<< (x4 &&& 31)) x3 S21 C N hg hZ5 h1
theorem kp_X12_versionsOf_5 {K : xm_K} (h : Nat) (x1 : Int32) (x2 : Int32) (x3 : Int32) (x4 : Int32) (S : xm_S) {g : Int32 → xm_S → Prop} (C : xm_Cx K cX12_versionsOf RX12 5 (some (FieldType.int)) rm_X12_versionsOf) (N : xm_Nx K) (hg : ∀ v S, g v S → xm_q K (some (xm_i v)) S)  (h1 : wp_X12_versionsOf_5 h x1 x2 x3 x4 S g) : xm_W K 0 0 5 [(0, xm_r (some h)), (1, xm_i x1), (2, xm_i x2), (3, xm_i x3), (4, xm_i x4)] [] S :=
  h1 (fun x1 x2 x3 x4 S => xm_W K 0 0 5 [(0, xm_r (some h)), (1, xm_i x1), (2, xm_i x2), (3, xm_i x3), (4, xm_i x4)] [] S) (fun x1 x2 x3 x4 S hb => kp_X12_versionsOf_5B h x1 x2 x3 x4 S C N hg (fun x1 x2 x3 x4 S hz => hz) hb)
def wp_X12_versionsOf (h : Nat) (x1 : Int32) (x2 : Int32) (S : xm_S) (g : Int32 → xm_S → Prop) : Prop :=
  wp_X12_versionsOf_5 h x1 x2 (0 : Int32) (0 : Int32) S g
set_option maxRecDepth 100000 in
set_option maxHeartbeats 4000000 in
theorem kp_X12_versionsOf {K : xm_K} (h : Nat) (x1 : Int32) (x2 : Int32) (S : xm_S) {g : Int32 → xm_S → Prop} (C : xm_Cx K cX12_versionsOf RX12 5 (some (FieldType.int)) rm_X12_versionsOf) (N : xm_Nx K) (hg : ∀ v S, g v S → xm_q K (some (xm_i v)) S)  (h1 : wp_X12_versionsOf h x1 x2 S g) : xm_W K 0 0 0 [(0, xm_r (some h)), (1, xm_i x1), (2, xm_i x2)] [] S := by
  unfold wp_X12_versionsOf at h1
  refine x_iconst (v := (0 : Int32)) C dX12_versionsOf_0 (by decide) ?_
  refine x_istore_n (L' := [(3, xm_i (0 : Int32)), (0, xm_r (some h)), (1, xm_i x1), (2, xm_i x2)]) C dX12_versionsOf_1 rfl (by decide) rfl ?_
  refine x_iconst (v := (0 : Int32)) C dX12_versionsOf_2 (by decide) ?_
  refine x_istore (L' := [(4, xm_i (0 : Int32)), (3, xm_i (0 : Int32)), (0, xm_r (some h)), (1, xm_i x1), (2, xm_i x2)]) C dX12_versionsOf_3 (by decide) rfl ?_
  refine x_keep (L' := [(0, xm_r (some h)), (1, xm_i x1), (2, xm_i x2), (3, xm_i (0 : Int32)), (4, xm_i (0 : Int32))]) C [2, 3, 4, 1, 0] rfl ?_
  exact kp_X12_versionsOf_5 h x1 x2 (0 : Int32) (0 : Int32) S C N hg  h1
theorem kp_X12_versionsOf_met {h : Nat} {x1 : Int32} {x2 : Int32} {S : xm_S} {g : Int32 → xm_S → Prop}  (h1 : wp_X12_versionsOf h x1 x2 S g) : xm_Met yX12_versionsOf cX12_versionsOf 5 (some (FieldType.int)) rm_X12_versionsOf [xm_r (some h), xm_i x1, xm_i x2] S (xm_qi g) xm_nox :=
  xm_ofW RX12 (by decide +kernel) rfl (Nat.le_of_ble_eq_true rfl) (fun K C N hq hx hi => kp_X12_versionsOf h x1 x2 S C N (fun v S h => by rw [hq]; exact ⟨v, rfl, h⟩)  h1)
