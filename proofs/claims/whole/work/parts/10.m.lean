def rm_X0_init : Room := { frames := 1, cells := 0, slots := 0, locals := 20 }
theorem dX0_init_0 : decode cX0_init 0 = .ok (.aload_n 0, 1) := by decide +kernel
theorem dX0_init_1 : decode cX0_init 1 = .ok (.invokespecial 1, 3) := by decide +kernel
theorem dX0_init_4 : decode cX0_init 4 = .ok (.aload_n 0, 1) := by decide +kernel
theorem dX0_init_5 : decode cX0_init 5 = .ok (.iload_n 1, 1) := by decide +kernel
theorem dX0_init_6 : decode cX0_init 6 = .ok (.putfield 7, 3) := by decide +kernel
theorem dX0_init_9 : decode cX0_init 9 = .ok (.aload_n 0, 1) := by decide +kernel
theorem dX0_init_10 : decode cX0_init 10 = .ok (.aload_n 2, 1) := by decide +kernel
theorem dX0_init_11 : decode cX0_init 11 = .ok (.putfield 13, 3) := by decide +kernel
theorem dX0_init_14 : decode cX0_init 14 = .ok (.aload_n 0, 1) := by decide +kernel
theorem dX0_init_15 : decode cX0_init 15 = .ok (.iload_n 3, 1) := by decide +kernel
theorem dX0_init_16 : decode cX0_init 16 = .ok (.putfield 17, 3) := by decide +kernel
theorem dX0_init_19 : decode cX0_init 19 = .ok (.return_, 1) := by decide +kernel
def wp_X0_init (h : Nat) (x1 : Int32) (x2 : Option Nat) (x3 : Int32) (S : xm_S) (g : xm_S → Prop) : Prop :=
  st_t S h = some (0, 0) ∧ ∀ S2, S2 = st_pi S h 0 x1 → ∀ S4, S4 = st_pr S2 h 1 x2 → ∀ S6, S6 = st_pi S4 h 2 x3 → g S6
set_option maxRecDepth 100000 in
set_option maxHeartbeats 4000000 in
theorem kp_X0_init {K : xm_K} (h : Nat) (x1 : Int32) (x2 : Option Nat) (x3 : Int32) (S : xm_S) {g : xm_S → Prop} (C : xm_Cx K cX0_init RX0 4 none rm_X0_init) (N : xm_Nx K) (hini : xm_init K) (hg : ∀ S, g S → xm_q K none S)  (h1 : wp_X0_init h x1 x2 x3 S g) : xm_W K 0 0 0 [(0, xm_r (some h)), (1, xm_i x1), (2, xm_r x2), (3, xm_i x3)] [] S := by
  unfold wp_X0_init at h1
  refine x_aload_n C 0 dX0_init_0 rfl rfl ?_
  refine x_objInit (n := h) C rfl gw_0 (Nat.le_of_ble_eq_true rfl) (Nat.le_of_ble_eq_true rfl) (Nat.le_of_ble_eq_true rfl) dX0_init_1 gw_1 gw_2 ?_
  refine x_aload_n C 0 dX0_init_4 rfl rfl ?_
  refine x_iload_n C 1 dX0_init_5 rfl rfl ?_
  obtain ⟨ht1, h1⟩ := h1
  refine x_putfF_i (n := h) C rfl ht1 fd_0 xc_0 (by decide) rfl hini rfl ⟨rfl, rfl⟩ dX0_init_6 ?_
  refine x_topS (fun S2 e3 => ?_)
  have h1 := h1 S2 e3
  refine x_aload_n C 0 dX0_init_9 rfl rfl ?_
  refine x_aload_n C 2 dX0_init_10 rfl rfl ?_
  refine x_putfF_r (n := h) C rfl (tk_p e3 ht1) fd_1 xc_0 (by decide) rfl hini rfl (xm_nr rfl) dX0_init_11 ?_
  refine x_topS (fun S4 e5 => ?_)
  have h1 := h1 S4 e5
  refine x_aload_n C 0 dX0_init_14 rfl rfl ?_
  refine x_iload_n C 3 dX0_init_15 rfl rfl ?_
  refine x_putfF_i (n := h) C rfl (tk_p e5 (tk_p e3 ht1)) fd_2 xc_0 (by decide) rfl hini rfl ⟨rfl, rfl⟩ dX0_init_16 ?_
  refine x_topS (fun S6 e7 => ?_)
  have h1 := h1 S6 e7
  exact x_vret C (Nat.le_of_ble_eq_true rfl) (Nat.le_of_ble_eq_true rfl) rfl dX0_init_19 (hg _ h1)
theorem kp_X0_init_met {h : Nat} {x1 : Int32} {x2 : Option Nat} {x3 : Int32} {S : xm_S} {g : xm_S → Prop}  (h1 : wp_X0_init h x1 x2 x3 S g) : xm_Met yX0_init cX0_init 4 none rm_X0_init [xm_r (some h), xm_i x1, xm_r x2, xm_i x3] S (xm_qv g) xm_nox :=
  xm_ofW RX0 (by decide +kernel) rfl (Nat.le_of_ble_eq_true rfl) (fun K C N hq hx hi => kp_X0_init h x1 x2 x3 S C N (hi rfl) (fun S h => by rw [hq]; exact ⟨rfl, h⟩)  h1)
def rm_X3_init : Room := { frames := 1, cells := 4, slots := 54, locals := 20 }
theorem dX3_init_0 : decode cX3_init 0 = .ok (.aload_n 0, 1) := by decide +kernel
theorem dX3_init_1 : decode cX3_init 1 = .ok (.invokespecial 3, 3) := by decide +kernel
theorem dX3_init_4 : decode cX3_init 4 = .ok (.aload_n 0, 1) := by decide +kernel
theorem dX3_init_5 : decode cX3_init 5 = .ok (.bipush 6, 2) := by decide +kernel
theorem dX3_init_7 : decode cX3_init 7 = .ok (.newarray .int, 2) := by decide +kernel
theorem dX3_init_9 : decode cX3_init 9 = .ok (.putfield 9, 3) := by decide +kernel
theorem dX3_init_12 : decode cX3_init 12 = .ok (.aload_n 0, 1) := by decide +kernel
theorem dX3_init_13 : decode cX3_init 13 = .ok (.bipush 16, 2) := by decide +kernel
theorem dX3_init_15 : decode cX3_init 15 = .ok (.newarray .int, 2) := by decide +kernel
theorem dX3_init_17 : decode cX3_init 17 = .ok (.putfield 15, 3) := by decide +kernel
theorem dX3_init_20 : decode cX3_init 20 = .ok (.aload_n 0, 1) := by decide +kernel
theorem dX3_init_21 : decode cX3_init 21 = .ok (.bipush 16, 2) := by decide +kernel
theorem dX3_init_23 : decode cX3_init 23 = .ok (.newarray .int, 2) := by decide +kernel
theorem dX3_init_25 : decode cX3_init 25 = .ok (.putfield 18, 3) := by decide +kernel
theorem dX3_init_28 : decode cX3_init 28 = .ok (.aload_n 0, 1) := by decide +kernel
theorem dX3_init_29 : decode cX3_init 29 = .ok (.bipush 16, 2) := by decide +kernel
theorem dX3_init_31 : decode cX3_init 31 = .ok (.newarray .int, 2) := by decide +kernel
theorem dX3_init_33 : decode cX3_init 33 = .ok (.putfield 21, 3) := by decide +kernel
theorem dX3_init_36 : decode cX3_init 36 = .ok (.iconst 0, 1) := by decide +kernel
theorem dX3_init_37 : decode cX3_init 37 = .ok (.istore_n 1, 1) := by decide +kernel
theorem dX3_init_38 : decode cX3_init 38 = .ok (.iload_n 1, 1) := by decide +kernel
theorem dX3_init_39 : decode cX3_init 39 = .ok (.bipush 6, 2) := by decide +kernel
theorem dX3_init_41 : decode cX3_init 41 = .ok (.if_icmp .ge 16, 3) := by decide +kernel
theorem dX3_init_44 : decode cX3_init 44 = .ok (.aload_n 0, 1) := by decide +kernel
theorem dX3_init_45 : decode cX3_init 45 = .ok (.getfield 9, 3) := by decide +kernel
theorem dX3_init_48 : decode cX3_init 48 = .ok (.iload_n 1, 1) := by decide +kernel
theorem dX3_init_49 : decode cX3_init 49 = .ok (.iconst (-1), 1) := by decide +kernel
theorem dX3_init_50 : decode cX3_init 50 = .ok (.iastore, 1) := by decide +kernel
theorem dX3_init_51 : decode cX3_init 51 = .ok (.iinc 1 1, 3) := by decide +kernel
theorem dX3_init_54 : decode cX3_init 54 = .ok (.goto (-16), 3) := by decide +kernel
theorem dX3_init_57 : decode cX3_init 57 = .ok (.iconst 0, 1) := by decide +kernel
theorem dX3_init_58 : decode cX3_init 58 = .ok (.istore_n 1, 1) := by decide +kernel
theorem dX3_init_59 : decode cX3_init 59 = .ok (.iload_n 1, 1) := by decide +kernel
theorem dX3_init_60 : decode cX3_init 60 = .ok (.bipush 16, 2) := by decide +kernel
theorem dX3_init_62 : decode cX3_init 62 = .ok (.if_icmp .ge 30, 3) := by decide +kernel
theorem dX3_init_65 : decode cX3_init 65 = .ok (.aload_n 0, 1) := by decide +kernel
theorem dX3_init_66 : decode cX3_init 66 = .ok (.getfield 15, 3) := by decide +kernel
theorem dX3_init_69 : decode cX3_init 69 = .ok (.iload_n 1, 1) := by decide +kernel
theorem dX3_init_70 : decode cX3_init 70 = .ok (.iconst (-1), 1) := by decide +kernel
theorem dX3_init_71 : decode cX3_init 71 = .ok (.iastore, 1) := by decide +kernel
theorem dX3_init_72 : decode cX3_init 72 = .ok (.aload_n 0, 1) := by decide +kernel
theorem dX3_init_73 : decode cX3_init 73 = .ok (.getfield 18, 3) := by decide +kernel
theorem dX3_init_76 : decode cX3_init 76 = .ok (.iload_n 1, 1) := by decide +kernel
theorem dX3_init_77 : decode cX3_init 77 = .ok (.iconst (-1), 1) := by decide +kernel
theorem dX3_init_78 : decode cX3_init 78 = .ok (.iastore, 1) := by decide +kernel
theorem dX3_init_79 : decode cX3_init 79 = .ok (.aload_n 0, 1) := by decide +kernel
theorem dX3_init_80 : decode cX3_init 80 = .ok (.getfield 21, 3) := by decide +kernel
theorem dX3_init_83 : decode cX3_init 83 = .ok (.iload_n 1, 1) := by decide +kernel
theorem dX3_init_84 : decode cX3_init 84 = .ok (.iconst (-1), 1) := by decide +kernel
theorem dX3_init_85 : decode cX3_init 85 = .ok (.iastore, 1) := by decide +kernel
theorem dX3_init_86 : decode cX3_init 86 = .ok (.iinc 1 1, 3) := by decide +kernel
theorem dX3_init_89 : decode cX3_init 89 = .ok (.goto (-30), 3) := by decide +kernel
theorem dX3_init_92 : decode cX3_init 92 = .ok (.return_, 1) := by decide +kernel
def wp_X3_init_59B (h : Nat) (x1 : Int32) (S : xm_S) (g : xm_S → Prop) (Z59 : Int32 → xm_S → Prop) : Prop :=
  ((nI 16) ≤ x1 → g S) ∧ (¬ (nI 16) ≤ x1 → st_t S h = some (3, 0) ∧ ∃ n2, (st_r S h 1) = some n2 ∧ ∃ z5, st_t S n2 = some (100, z5) ∧ vp_in x1 z5 ∧ ∀ S7, S7 = st_pi S n2 (x1).toNatClampNeg (-1 : Int32) → ∃ n9, (st_r S7 h 2) = some n9 ∧ ∃ z12, st_t S7 n9 = some (100, z12) ∧ vp_in x1 z12 ∧ ∀ S14, S14 = st_pi S7 n9 (x1).toNatClampNeg (-1 : Int32) → ∃ n16, (st_r S14 h 3) = some n16 ∧ ∃ z19, st_t S14 n16 = some (100, z19) ∧ vp_in x1 z19 ∧ ∀ S21, S21 = st_pi S14 n16 (x1).toNatClampNeg (-1 : Int32) → ∀ y23, y23 = (x1 + (1 : Int32)) → Z59 y23 S21)
def wp_X3_init_59 (h : Nat) (x1 : Int32) (S : xm_S) (g : xm_S → Prop) : Prop :=
  ∀ Z59 : Int32 → xm_S → Prop, (∀ x1 S, wp_X3_init_59B h x1 S g Z59 → Z59 x1 S) → Z59 x1 S
set_option maxRecDepth 100000 in
set_option maxHeartbeats 4000000 in
theorem kp_X3_init_59B {K : xm_K} (h : Nat) (x1 : Int32) (S : xm_S) {g : xm_S → Prop} {Z59 : Int32 → xm_S → Prop} (C : xm_Cx K cX3_init RX3 2 none rm_X3_init) (N : xm_Nx K) (hini : xm_init K) (hg : ∀ S, g S → xm_q K none S) (hZ59 : ∀ x1 S, Z59 x1 S → xm_W K 4 54 59 [(0, xm_r (some h)), (1, xm_i x1)] [] S) (h1 : wp_X3_init_59B h x1 S g Z59) : xm_W K 4 54 59 [(0, xm_r (some h)), (1, xm_i x1)] [] S := by
  unfold wp_X3_init_59B at h1
  refine x_iload_n C 1 dX3_init_59 rfl rfl ?_
  refine x_bipush (v := (nI 16)) C dX3_init_60 (by decide) ?_
  refine x_icmp_ge (tgt := 92) C dX3_init_62 (by decide) (fun z9 => ?_) (fun z9 => ?_)
  · have h1 := h1.1 z9
    exact x_vret C (Nat.le_of_ble_eq_true rfl) (Nat.le_of_ble_eq_true rfl) rfl dX3_init_92 (hg _ h1)
  · have h1 := h1.2 z9
    refine x_aload_n C 0 dX3_init_65 rfl rfl ?_
    obtain ⟨ht1, h1⟩ := h1
    refine x_getf_r (n := h) C rfl ht1 fd_3 (by decide) dX3_init_66 ?_
    refine x_iload_n C 1 dX3_init_69 rfl rfl ?_
    refine x_iconst (v := (-1 : Int32)) C dX3_init_70 (by decide) ?_
    obtain ⟨n2, hr3, h1⟩ := h1
    obtain ⟨z5, ht4, h1⟩ := h1
    obtain ⟨hi6, h1⟩ := h1
    refine x_iast (n := n2) C hr3 ht4 hi6 dX3_init_71 ?_
    refine x_topS (fun S7 e8 => ?_)
    have h1 := h1 S7 e8
    refine x_aload_n C 0 dX3_init_72 rfl rfl ?_
    refine x_getf_r (n := h) C rfl (tk_p e8 ht1) fd_4 (by decide) dX3_init_73 ?_
    refine x_iload_n C 1 dX3_init_76 rfl rfl ?_
    refine x_iconst (v := (-1 : Int32)) C dX3_init_77 (by decide) ?_
    obtain ⟨n9, hr10, h1⟩ := h1
    obtain ⟨z12, ht11, h1⟩ := h1
    obtain ⟨hi13, h1⟩ := h1
    refine x_iast (n := n9) C hr10 ht11 hi13 dX3_init_78 ?_
    refine x_topS (fun S14 e15 => ?_)
    have h1 := h1 S14 e15
    refine x_aload_n C 0 dX3_init_79 rfl rfl ?_
    refine x_getf_r (n := h) C rfl (tk_p e15 (tk_p e8 ht1)) fd_5 (by decide) dX3_init_80 ?_
    refine x_iload_n C 1 dX3_init_83 rfl rfl ?_
    refine x_iconst (v := (-1 : Int32)) C dX3_init_84 (by decide) ?_
    obtain ⟨n16, hr17, h1⟩ := h1
    obtain ⟨z19, ht18, h1⟩ := h1
    obtain ⟨hi20, h1⟩ := h1
    refine x_iast (n := n16) C hr17 ht18 hi20 dX3_init_85 ?_
    refine x_topS (fun S21 e22 => ?_)
    have h1 := h1 S21 e22
    obtain ⟨y23, e24⟩ : ∃ y23, y23 = (x1 + (1 : Int32)) := ⟨_, rfl⟩
    have h1 := h1 y23 e24
    refine x_iinc (v := y23) (L' := [(1, xm_i y23), (0, xm_r (some h))]) C 1 dX3_init_86 rfl (by rw [e24]; rfl) (by decide) rfl ?_
    refine x_goto (tgt := 59) C dX3_init_89 (by decide) ?_
    refine x_keep (L' := [(0, xm_r (some h)), (1, xm_i y23)]) C [1, 0] rfl ?_
    exact hZ59 y23 S21 h1
theorem kp_X3_init_59 {K : xm_K} (h : Nat) (x1 : Int32) (S : xm_S) {g : xm_S → Prop} (C : xm_Cx K cX3_init RX3 2 none rm_X3_init) (N : xm_Nx K) (hini : xm_init K) (hg : ∀ S, g S → xm_q K none S)  (h1 : wp_X3_init_59 h x1 S g) : xm_W K 4 54 59 [(0, xm_r (some h)), (1, xm_i x1)] [] S :=
  h1 (fun x1 S => xm_W K 4 54 59 [(0, xm_r (some h)), (1, xm_i x1)] [] S) (fun x1 S hb => kp_X3_init_59B h x1 S C N hini hg (fun x1 S hz => hz) hb)
def wp_X3_init_38B (h : Nat) (x1 : Int32) (S : xm_S) (g : xm_S → Prop) (Z38 : Int32 → xm_S → Prop) : Prop :=
  ((nI 6) ≤ x1 → wp_X3_init_59 h (0 : Int32) S g) ∧ (¬ (nI 6) ≤ x1 → st_t S h = some (3, 0) ∧ ∃ n26, (st_r S h 0) = some n26 ∧ ∃ z29, st_t S n26 = some (100, z29) ∧ vp_in x1 z29 ∧ ∀ S31, S31 = st_pi S n26 (x1).toNatClampNeg (-1 : Int32) → ∀ y33, y33 = (x1 + (1 : Int32)) → Z38 y33 S31)
def wp_X3_init_38 (h : Nat) (x1 : Int32) (S : xm_S) (g : xm_S → Prop) : Prop :=
  ∀ Z38 : Int32 → xm_S → Prop, (∀ x1 S, wp_X3_init_38B h x1 S g Z38 → Z38 x1 S) → Z38 x1 S
set_option maxRecDepth 100000 in
set_option maxHeartbeats 4000000 in
theorem kp_X3_init_38B {K : xm_K} (h : Nat) (x1 : Int32) (S : xm_S) {g : xm_S → Prop} {Z38 : Int32 → xm_S → Prop} (C : xm_Cx K cX3_init RX3 2 none rm_X3_init) (N : xm_Nx K) (hini : xm_init K) (hg : ∀ S, g S → xm_q K none S) (hZ38 : ∀ x1 S, Z38 x1 S → xm_W K 4 54 38 [(0, xm_r (some h)), (1, xm_i x1)] [] S) (h1 : wp_X3_init_38B h x1 S g Z38) : xm_W K 4 54 38 [(0, xm_r (some h)), (1, xm_i x1)] [] S := by
  unfold wp_X3_init_38B at h1
  refine x_iload_n C 1 dX3_init_38 rfl rfl ?_
  refine x_bipush (v := (nI 6)) C dX3_init_39 (by decide) ?_
  refine x_icmp_ge (tgt := 57) C dX3_init_41 (by decide) (fun z9 => ?_) (fun z9 => ?_)
  · have h1 := h1.1 z9
    refine x_iconst (v := (0 : Int32)) C dX3_init_57 (by decide) ?_
    refine x_istore_n (L' := [(1, xm_i (0 : Int32)), (0, xm_r (some h))]) C dX3_init_58 rfl (by decide) rfl ?_
    refine x_keep (L' := [(0, xm_r (some h)), (1, xm_i (0 : Int32))]) C [1, 0] rfl ?_
    exact kp_X3_init_59 h (0 : Int32) S C N hini hg  h1
  · have h1 := h1.2 z9
    refine x_aload_n C 0 dX3_init_44 rfl rfl ?_
    obtain ⟨ht25, h1⟩ := h1
    refine x_getf_r (n := h) C rfl ht25 fd_6 (by decide) dX3_init_45 ?_
    refine x_iload_n C 1 dX3_init_48 rfl rfl ?_
    refine x_iconst (v := (-1 : Int32)) C dX3_init_49 (by decide) ?_
    obtain ⟨n26, hr27, h1⟩ := h1
    obtain ⟨z29, ht28, h1⟩ := h1
    obtain ⟨hi30, h1⟩ := h1
    refine x_iast (n := n26) C hr27 ht28 hi30 dX3_init_50 ?_
    refine x_topS (fun S31 e32 => ?_)
    have h1 := h1 S31 e32
    obtain ⟨y33, e34⟩ : ∃ y33, y33 = (x1 + (1 : Int32)) := ⟨_, rfl⟩
    have h1 := h1 y33 e34
    refine x_iinc (v := y33) (L' := [(1, xm_i y33), (0, xm_r (some h))]) C 1 dX3_init_51 rfl (by rw [e34]; rfl) (by decide) rfl ?_
    refine x_goto (tgt := 38) C dX3_init_54 (by decide) ?_
    refine x_keep (L' := [(0, xm_r (some h)), (1, xm_i y33)]) C [1, 0] rfl ?_
    exact hZ38 y33 S31 h1
theorem kp_X3_init_38 {K : xm_K} (h : Nat) (x1 : Int32) (S : xm_S) {g : xm_S → Prop} (C : xm_Cx K cX3_init RX3 2 none rm_X3_init) (N : xm_Nx K) (hini : xm_init K) (hg : ∀ S, g S → xm_q K none S)  (h1 : wp_X3_init_38 h x1 S g) : xm_W K 4 54 38 [(0, xm_r (some h)), (1, xm_i x1)] [] S :=
  h1 (fun x1 S => xm_W K 4 54 38 [(0, xm_r (some h)), (1, xm_i x1)] [] S) (fun x1 S hb => kp_X3_init_38B h x1 S C N hini hg (fun x1 S hz => hz) hb)
def wp_X3_init (h : Nat)  (S : xm_S) (g : xm_S → Prop) : Prop :=
  ∃ n35, st_t S n35 = none ∧ ∀ S37, S37 = st_nw S n35 (100, 6) → st_t S37 h = some (3, 0) ∧ ∀ S40, S40 = st_pr S37 h 0 (some n35) → ∃ n42, st_t S40 n42 = none ∧ ∀ S44, S44 = st_nw S40 n42 (100, 16) → ∀ S46, S46 = st_pr S44 h 1 (some n42) → ∃ n48, st_t S46 n48 = none ∧ ∀ S50, S50 = st_nw S46 n48 (100, 16) → ∀ S52, S52 = st_pr S50 h 2 (some n48) → ∃ n54, st_t S52 n54 = none ∧ ∀ S56, S56 = st_nw S52 n54 (100, 16) → ∀ S58, S58 = st_pr S56 h 3 (some n54) → wp_X3_init_38 h (0 : Int32) S58 g
set_option maxRecDepth 100000 in
set_option maxHeartbeats 4000000 in
theorem kp_X3_init {K : xm_K} (h : Nat)  (S : xm_S) {g : xm_S → Prop} (C : xm_Cx K cX3_init RX3 2 none rm_X3_init) (N : xm_Nx K) (hini : xm_init K) (hg : ∀ S, g S → xm_q K none S)  (h1 : wp_X3_init h  S g) : xm_W K 0 0 0 [(0, xm_r (some h))] [] S := by
  unfold wp_X3_init at h1
  refine x_aload_n C 0 dX3_init_0 rfl rfl ?_
  refine x_objInit (n := h) C rfl gw_10 (Nat.le_of_ble_eq_true rfl) (Nat.le_of_ble_eq_true rfl) (Nat.le_of_ble_eq_true rfl) dX3_init_1 gw_1 gw_2 ?_
  refine x_aload_n C 0 dX3_init_4 rfl rfl ?_
  refine x_bipush (v := (nI 6)) C dX3_init_5 (by decide) ?_
  obtain ⟨n35, hn36, h1⟩ := h1
  refine x_newa_i (n := n35) (len := 6) C gw_11 (by decide) (by decide) hn36 (Nat.le_of_ble_eq_true rfl) (Nat.le_of_ble_eq_true rfl) dX3_init_7 ?_
  refine x_topS (fun S37 e38 => ?_)
  have h1 := h1 S37 e38
  obtain ⟨ht39, h1⟩ := h1
  refine x_putfF_r (n := h) C rfl ht39 fd_6 xc_3 (by decide) rfl hini rfl (xm_nr rfl) dX3_init_9 ?_
  refine x_topS (fun S40 e41 => ?_)
  have h1 := h1 S40 e41
  refine x_aload_n C 0 dX3_init_12 rfl rfl ?_
  refine x_bipush (v := (nI 16)) C dX3_init_13 (by decide) ?_
  obtain ⟨n42, hn43, h1⟩ := h1
  refine x_newa_i (n := n42) (len := 16) C gw_11 (by decide) (by decide) hn43 (Nat.le_of_ble_eq_true rfl) (Nat.le_of_ble_eq_true rfl) dX3_init_15 ?_
  refine x_topS (fun S44 e45 => ?_)
  have h1 := h1 S44 e45
  refine x_putfF_r (n := h) C rfl (tk_n e45 hn43 (tk_p e41 ht39)) fd_3 xc_3 (by decide) rfl hini rfl (xm_nr rfl) dX3_init_17 ?_
  refine x_topS (fun S46 e47 => ?_)
  have h1 := h1 S46 e47
  refine x_aload_n C 0 dX3_init_20 rfl rfl ?_
  refine x_bipush (v := (nI 16)) C dX3_init_21 (by decide) ?_
  obtain ⟨n48, hn49, h1⟩ := h1
  refine x_newa_i (n := n48) (len := 16) C gw_11 (by decide) (by decide) hn49 (Nat.le_of_ble_eq_true rfl) (Nat.le_of_ble_eq_true rfl) dX3_init_23 ?_
  refine x_topS (fun S50 e51 => ?_)
  have h1 := h1 S50 e51
  refine x_putfF_r (n := h) C rfl (tk_n e51 hn49 (tk_p e47 (tk_n e45 hn43 (tk_p e41 ht39)))) fd_4 xc_3 (by decide) rfl hini rfl (xm_nr rfl) dX3_init_25 ?_
  refine x_topS (fun S52 e53 => ?_)
  have h1 := h1 S52 e53
  refine x_aload_n C 0 dX3_init_28 rfl rfl ?_
  refine x_bipush (v := (nI 16)) C dX3_init_29 (by decide) ?_
  obtain ⟨n54, hn55, h1⟩ := h1
  refine x_newa_i (n := n54) (len := 16) C gw_11 (by decide) (by decide) hn55 (Nat.le_of_ble_eq_true rfl) (Nat.le_of_ble_eq_true rfl) dX3_init_31 ?_
  refine x_topS (fun S56 e57 => ?_)
  have h1 := h1 S56 e57
  refine x_putfF_r (n := h) C rfl (tk_n e57 hn55 (tk_p e53 (tk_n e51 hn49 (tk_p e47 (tk_n e45 hn43 (tk_p e41 ht39)))))) fd_5 xc_3 (by decide) rfl hini rfl (xm_nr rfl) dX3_init_33 ?_
  refine x_topS (fun S58 e59 => ?_)
  have h1 := h1 S58 e59
  refine x_iconst (v := (0 : Int32)) C dX3_init_36 (by decide) ?_
  refine x_istore_n (L' := [(1, xm_i (0 : Int32)), (0, xm_r (some h))]) C dX3_init_37 rfl (by decide) rfl ?_
  refine x_keep (L' := [(0, xm_r (some h)), (1, xm_i (0 : Int32))]) C [1, 0] rfl ?_
  exact kp_X3_init_38 h (0 : Int32) S58 C N hini hg  h1
theorem kp_X3_init_met {h : Nat}  {S : xm_S} {g : xm_S → Prop}  (h1 : wp_X3_init h  S g) : xm_Met yX3_init cX3_init 2 none rm_X3_init [xm_r (some h)] S (xm_qv g) xm_nox :=
  xm_ofW RX3 (by decide +kernel) rfl (Nat.le_of_ble_eq_true rfl) (fun K C N hq hx hi => kp_X3_init h  S C N (hi rfl) (fun S h => by rw [hq]; exact ⟨rfl, h⟩)  h1)
def rm_X1_init : Room := { frames := 2, cells := 5, slots := 58, locals := 41 }
theorem dX1_init_0 : decode cX1_init 0 = .ok (.aload_n 0, 1) := by decide +kernel
theorem dX1_init_1 : decode cX1_init 1 = .ok (.invokespecial 3, 3) := by decide +kernel
theorem dX1_init_4 : decode cX1_init 4 = .ok (.aload_n 0, 1) := by decide +kernel
theorem dX1_init_5 : decode cX1_init 5 = .ok (.iconst (-1), 1) := by decide +kernel
theorem dX1_init_6 : decode cX1_init 6 = .ok (.putfield 9, 3) := by decide +kernel
theorem dX1_init_9 : decode cX1_init 9 = .ok (.aload_n 0, 1) := by decide +kernel
theorem dX1_init_10 : decode cX1_init 10 = .ok (.iconst 0, 1) := by decide +kernel
theorem dX1_init_11 : decode cX1_init 11 = .ok (.putfield 15, 3) := by decide +kernel
theorem dX1_init_14 : decode cX1_init 14 = .ok (.aload_n 0, 1) := by decide +kernel
theorem dX1_init_15 : decode cX1_init 15 = .ok (.new 19, 3) := by decide +kernel
theorem dX1_init_18 : decode cX1_init 18 = .ok (.dup, 1) := by decide +kernel
theorem dX1_init_19 : decode cX1_init 19 = .ok (.invokespecial 21, 3) := by decide +kernel
theorem dX1_init_22 : decode cX1_init 22 = .ok (.putfield 22, 3) := by decide +kernel
theorem dX1_init_25 : decode cX1_init 25 = .ok (.return_, 1) := by decide +kernel
def wp_X1_init (h : Nat)  (S : xm_S) (g : xm_S → Prop) : Prop :=
  st_t S h = some (1, 0) ∧ ∀ S2, S2 = st_pi S h 0 (-1 : Int32) → ∀ S4, S4 = st_pi S2 h 1 (0 : Int32) → ∃ n6, st_t S4 n6 = none ∧ ∀ S8, S8 = st_nw S4 n6 (3, 0) → wp_X3_init n6 S8 (fun S10 => st_t S10 h = some (1, 0) ∧ ∀ S13, S13 = st_pr S10 h 2 (some n6) → g S13)
set_option maxRecDepth 100000 in
set_option maxHeartbeats 4000000 in
theorem kp_X1_init {K : xm_K} (h : Nat)  (S : xm_S) {g : xm_S → Prop} (C : xm_Cx K cX1_init RX1 1 none rm_X1_init) (N : xm_Nx K) (hini : xm_init K) (hg : ∀ S, g S → xm_q K none S)  (h1 : wp_X1_init h  S g) : xm_W K 0 0 0 [(0, xm_r (some h))] [] S := by
  unfold wp_X1_init at h1
  refine x_aload_n C 0 dX1_init_0 rfl rfl ?_
  refine x_objInit (n := h) C rfl gw_12 (Nat.le_of_ble_eq_true rfl) (Nat.le_of_ble_eq_true rfl) (Nat.le_of_ble_eq_true rfl) dX1_init_1 gw_1 gw_2 ?_
  refine x_aload_n C 0 dX1_init_4 rfl rfl ?_
  refine x_iconst (v := (-1 : Int32)) C dX1_init_5 (by decide) ?_
  obtain ⟨ht1, h1⟩ := h1
  refine x_putf_i (n := h) C rfl ht1 fd_7 xc_1 (by decide) rfl ⟨rfl, rfl⟩ dX1_init_6 ?_
  refine x_topS (fun S2 e3 => ?_)
  have h1 := h1 S2 e3
  refine x_aload_n C 0 dX1_init_9 rfl rfl ?_
  refine x_iconst (v := (0 : Int32)) C dX1_init_10 (by decide) ?_
  refine x_putf_i (n := h) C rfl (tk_p e3 ht1) fd_8 xc_1 (by decide) rfl (xm_nz (by decide)) dX1_init_11 ?_
  refine x_topS (fun S4 e5 => ?_)
  have h1 := h1 S4 e5
  refine x_aload_n C 0 dX1_init_14 rfl rfl ?_
  obtain ⟨n6, hn7, h1⟩ := h1
  refine x_new (n := n6) C xc_3 gw_15 hn7 (Nat.le_of_ble_eq_true rfl) (Nat.le_of_ble_eq_true rfl) dX1_init_15 ?_
  refine x_topS (fun S8 e9 => ?_)
  have h1 := h1 S8 e9
  refine x_dup_r C dX1_init_18 ?_
  refine x_callI (rm' := rm_X3_init) (n := n6) C (kp_X3_init_met h1) lk_0 gw_19 rfl rfl rfl (Nat.le_of_ble_eq_true rfl) ⟨Nat.le_of_ble_eq_true rfl, Nat.le_of_ble_eq_true rfl, (Nat.le_of_ble_eq_true rfl), (Nat.le_of_ble_eq_true rfl)⟩ dX1_init_19 xm_kx (xm_kv (fun S10 h1 => ?_))
  obtain ⟨ht12, h1⟩ := h1
  refine x_putfF_r (n := h) C rfl ht12 fd_9 xc_1 (by decide) rfl hini rfl (xm_nr rfl) dX1_init_22 ?_
  refine x_topS (fun S13 e14 => ?_)
  have h1 := h1 S13 e14
  exact x_vret C (Nat.le_of_ble_eq_true rfl) (Nat.le_of_ble_eq_true rfl) rfl dX1_init_25 (hg _ h1)
theorem kp_X1_init_met {h : Nat}  {S : xm_S} {g : xm_S → Prop}  (h1 : wp_X1_init h  S g) : xm_Met yX1_init cX1_init 1 none rm_X1_init [xm_r (some h)] S (xm_qv g) xm_nox :=
  xm_ofW RX1 (by decide +kernel) rfl (Nat.le_of_ble_eq_true rfl) (fun K C N hq hx hi => kp_X1_init h  S C N (hi rfl) (fun S h => by rw [hq]; exact ⟨rfl, h⟩)  h1)
def rm_X2_targetOf : Room := { frames := 1, cells := 0, slots := 0, locals := 20 }
theorem dX2_targetOf_0 : decode cX2_targetOf 0 = .ok (.aload_n 0, 1) := by decide +kernel
theorem dX2_targetOf_1 : decode cX2_targetOf 1 = .ok (.getfield 40, 3) := by decide +kernel
theorem dX2_targetOf_4 : decode cX2_targetOf 4 = .ok (.iload_n 2, 1) := by decide +kernel
theorem dX2_targetOf_5 : decode cX2_targetOf 5 = .ok (.iaload, 1) := by decide +kernel
theorem dX2_targetOf_6 : decode cX2_targetOf 6 = .ok (.iconst (-1), 1) := by decide +kernel
theorem dX2_targetOf_7 : decode cX2_targetOf 7 = .ok (.if_icmp .eq 13, 3) := by decide +kernel
theorem dX2_targetOf_10 : decode cX2_targetOf 10 = .ok (.aload_n 0, 1) := by decide +kernel
theorem dX2_targetOf_11 : decode cX2_targetOf 11 = .ok (.getfield 40, 3) := by decide +kernel
theorem dX2_targetOf_14 : decode cX2_targetOf 14 = .ok (.iload_n 2, 1) := by decide +kernel
theorem dX2_targetOf_15 : decode cX2_targetOf 15 = .ok (.iaload, 1) := by decide +kernel
theorem dX2_targetOf_16 : decode cX2_targetOf 16 = .ok (.iload_n 1, 1) := by decide +kernel
theorem dX2_targetOf_17 : decode cX2_targetOf 17 = .ok (.if_icmp .ne 7, 3) := by decide +kernel
theorem dX2_targetOf_20 : decode cX2_targetOf 20 = .ok (.iload_n 2, 1) := by decide +kernel
theorem dX2_targetOf_21 : decode cX2_targetOf 21 = .ok (.goto 9, 3) := by decide +kernel
theorem dX2_targetOf_24 : decode cX2_targetOf 24 = .ok (.aload_n 0, 1) := by decide +kernel
theorem dX2_targetOf_25 : decode cX2_targetOf 25 = .ok (.getfield 44, 3) := by decide +kernel
theorem dX2_targetOf_28 : decode cX2_targetOf 28 = .ok (.iload_n 2, 1) := by decide +kernel
theorem dX2_targetOf_29 : decode cX2_targetOf 29 = .ok (.iaload, 1) := by decide +kernel
theorem dX2_targetOf_30 : decode cX2_targetOf 30 = .ok (.ireturn, 1) := by decide +kernel
def wp_X2_targetOf_30 (h : Nat) (s0 : Int32) (S : xm_S) (g : Int32 → xm_S → Prop) : Prop :=
  g s0 S
set_option maxRecDepth 100000 in
set_option maxHeartbeats 4000000 in
theorem kp_X2_targetOf_30 {K : xm_K} (h : Nat) (s0 : Int32) (S : xm_S) {g : Int32 → xm_S → Prop} (C : xm_Cx K cX2_targetOf RX2 3 (some (FieldType.int)) rm_X2_targetOf) (N : xm_Nx K) (hg : ∀ v S, g v S → xm_q K (some (xm_i v)) S)  (h1 : wp_X2_targetOf_30 h s0 S g) : xm_W K 0 0 30 [] [xm_i s0] S := by
  unfold wp_X2_targetOf_30 at h1
  exact x_iret C (Nat.le_of_ble_eq_true rfl) (Nat.le_of_ble_eq_true rfl) rfl dX2_targetOf_30 (hg _ _ h1)
def wp_X2_targetOf_20 (h : Nat) (x2 : Int32) (S : xm_S) (g : Int32 → xm_S → Prop) : Prop :=
  wp_X2_targetOf_30 h x2 S g
set_option maxRecDepth 100000 in
set_option maxHeartbeats 4000000 in
theorem kp_X2_targetOf_20 {K : xm_K} (h : Nat) (x2 : Int32) (S : xm_S) {g : Int32 → xm_S → Prop} (C : xm_Cx K cX2_targetOf RX2 3 (some (FieldType.int)) rm_X2_targetOf) (N : xm_Nx K) (hg : ∀ v S, g v S → xm_q K (some (xm_i v)) S)  (h1 : wp_X2_targetOf_20 h x2 S g) : xm_W K 0 0 20 [(2, xm_i x2)] [] S := by
  unfold wp_X2_targetOf_20 at h1
  refine x_iload_n C 0 dX2_targetOf_20 rfl rfl ?_
  refine x_goto (tgt := 30) C dX2_targetOf_21 (by decide) ?_
  refine x_keep (L' := []) C [] rfl ?_
  exact kp_X2_targetOf_30 h x2 S C N hg  h1
def wp_X2_targetOf (h : Nat) (x1 : Int32) (x2 : Int32) (S : xm_S) (g : Int32 → xm_S → Prop) : Prop :=
  st_t S h = some (2, 0) ∧ ∃ n2, (st_r S h 7) = some n2 ∧ ∃ z5, st_t S n2 = some (100, z5) ∧ vp_in x2 z5 ∧ ((st_i S n2 (x2).toNatClampNeg) = (-1 : Int32) → wp_X2_targetOf_20 h x2 S g) ∧ (¬ (st_i S n2 (x2).toNatClampNeg) = (-1 : Int32) → ∃ n7, (st_r S h 7) = some n7 ∧ ∃ z10, st_t S n7 = some (100, z10) ∧ vp_in x2 z10 ∧ (¬ (st_i S n7 (x2).toNatClampNeg) = x1 → ∃ n12, (st_r S h 8) = some n12 ∧ ∃ z15, st_t S n12 = some (100, z15) ∧ vp_in x2 z15 ∧ wp_X2_targetOf_30 h (st_i S n12 (x2).toNatClampNeg) S g) ∧ ((st_i S n7 (x2).toNatClampNeg) = x1 → wp_X2_targetOf_20 h x2 S g))
set_option maxRecDepth 100000 in
set_option maxHeartbeats 4000000 in
theorem kp_X2_targetOf {K : xm_K} (h : Nat) (x1 : Int32) (x2 : Int32) (S : xm_S) {g : Int32 → xm_S → Prop} (C : xm_Cx K cX2_targetOf RX2 3 (some (FieldType.int)) rm_X2_targetOf) (N : xm_Nx K) (hg : ∀ v S, g v S → xm_q K (some (xm_i v)) S)  (h1 : wp_X2_targetOf h x1 x2 S g) : xm_W K 0 0 0 [(0, xm_r (some h)), (1, xm_i x1), (2, xm_i x2)] [] S := by
  unfold wp_X2_targetOf at h1
  refine x_aload_n C 0 dX2_targetOf_0 rfl rfl ?_
  obtain ⟨ht1, h1⟩ := h1
  refine x_getf_r (n := h) C rfl ht1 fd_10 (by decide) dX2_targetOf_1 ?_
  refine x_iload_n C 2 dX2_targetOf_4 rfl rfl ?_
  obtain ⟨n2, hr3, h1⟩ := h1
  obtain ⟨z5, ht4, h1⟩ := h1
  obtain ⟨hi6, h1⟩ := h1
  refine x_iald (n := n2) C hr3 ht4 hi6 dX2_targetOf_5 ?_
  refine x_iconst (v := (-1 : Int32)) C dX2_targetOf_6 (by decide) ?_
  refine x_icmp_eq (tgt := 20) C dX2_targetOf_7 (by decide) (fun z9 => ?_) (fun z9 => ?_)
  · have h1 := h1.1 z9
    refine x_keep (L' := [(2, xm_i x2)]) C [2] rfl ?_
    exact kp_X2_targetOf_20 h x2 S C N hg  h1
  · have h1 := h1.2 z9
    refine x_aload_n C 0 dX2_targetOf_10 rfl rfl ?_
    refine x_getf_r (n := h) C rfl ht1 fd_10 (by decide) dX2_targetOf_11 ?_
    refine x_iload_n C 2 dX2_targetOf_14 rfl rfl ?_
    obtain ⟨n7, hr8, h1⟩ := h1
    obtain ⟨z10, ht9, h1⟩ := h1
    obtain ⟨hi11, h1⟩ := h1
    refine x_iald (n := n7) C hr8 ht9 hi11 dX2_targetOf_15 ?_
    refine x_iload_n C 1 dX2_targetOf_16 rfl rfl ?_
    refine x_icmp_ne (tgt := 24) C dX2_targetOf_17 (by decide) (fun z9 => ?_) (fun z9 => ?_)
    · have h1 := h1.1 z9
      refine x_aload_n C 0 dX2_targetOf_24 rfl rfl ?_
      refine x_getf_r (n := h) C rfl ht1 fd_11 (by decide) dX2_targetOf_25 ?_
      refine x_iload_n C 2 dX2_targetOf_28 rfl rfl ?_
      obtain ⟨n12, hr13, h1⟩ := h1
      obtain ⟨z15, ht14, h1⟩ := h1
      obtain ⟨hi16, h1⟩ := h1
      refine x_iald (n := n12) C hr13 ht14 hi16 dX2_targetOf_29 ?_
      refine x_keep (L' := []) C [] rfl ?_
      exact kp_X2_targetOf_30 h (st_i S n12 (x2).toNatClampNeg) S C N hg  h1
    · have h1 := h1.2 z9
      refine x_keep (L' := [(2, xm_i x2)]) C [2] rfl ?_
      exact kp_X2_targetOf_20 h x2 S C N hg  h1
theorem kp_X2_targetOf_met {h : Nat} {x1 : Int32} {x2 : Int32} {S : xm_S} {g : Int32 → xm_S → Prop}  (h1 : wp_X2_targetOf h x1 x2 S g) : xm_Met yX2_targetOf cX2_targetOf 3 (some (FieldType.int)) rm_X2_targetOf [xm_r (some h), xm_i x1, xm_i x2] S (xm_qi g) xm_nox :=
  xm_ofW RX2 (by decide +kernel) rfl (Nat.le_of_ble_eq_true rfl) (fun K C N hq hx hi => kp_X2_targetOf h x1 x2 S C N (fun v S h => by rw [hq]; exact ⟨v, rfl, h⟩)  h1)
def rm_X2_aim : Room := { frames := 2, cells := 0, slots := 0, locals := 42 }
theorem dX2_aim_0 : decode cX2_aim 0 = .ok (.iconst 0, 1) := by decide +kernel
theorem dX2_aim_1 : decode cX2_aim 1 = .ok (.istore_n 3, 1) := by decide +kernel
theorem dX2_aim_2 : decode cX2_aim 2 = .ok (.iconst 0, 1) := by decide +kernel
theorem dX2_aim_3 : decode cX2_aim 3 = .ok (.istore 4, 2) := by decide +kernel
theorem dX2_aim_5 : decode cX2_aim 5 = .ok (.iload 4, 2) := by decide +kernel
theorem dX2_aim_7 : decode cX2_aim 7 = .ok (.bipush 16, 2) := by decide +kernel
theorem dX2_aim_9 : decode cX2_aim 9 = .ok (.if_icmp .ge 17, 3) := by decide +kernel
theorem dX2_aim_12 : decode cX2_aim 12 = .ok (.aload_n 0, 1) := by decide +kernel
theorem dX2_aim_13 : decode cX2_aim 13 = .ok (.getfield 47, 3) := by decide +kernel
theorem dX2_aim_16 : decode cX2_aim 16 = .ok (.iload 4, 2) := by decide +kernel
theorem dX2_aim_18 : decode cX2_aim 18 = .ok (.iconst 0, 1) := by decide +kernel
theorem dX2_aim_19 : decode cX2_aim 19 = .ok (.bastore, 1) := by decide +kernel
theorem dX2_aim_20 : decode cX2_aim 20 = .ok (.iinc 4 1, 3) := by decide +kernel
theorem dX2_aim_23 : decode cX2_aim 23 = .ok (.goto (-18), 3) := by decide +kernel
theorem dX2_aim_26 : decode cX2_aim 26 = .ok (.iconst 0, 1) := by decide +kernel
theorem dX2_aim_27 : decode cX2_aim 27 = .ok (.istore 4, 2) := by decide +kernel
theorem dX2_aim_29 : decode cX2_aim 29 = .ok (.iload 4, 2) := by decide +kernel
theorem dX2_aim_31 : decode cX2_aim 31 = .ok (.bipush 6, 2) := by decide +kernel
theorem dX2_aim_33 : decode cX2_aim 33 = .ok (.if_icmp .ge 92, 3) := by decide +kernel
theorem dX2_aim_36 : decode cX2_aim 36 = .ok (.aload_n 2, 1) := by decide +kernel
theorem dX2_aim_37 : decode cX2_aim 37 = .ok (.iload 4, 2) := by decide +kernel
theorem dX2_aim_39 : decode cX2_aim 39 = .ok (.iaload, 1) := by decide +kernel
theorem dX2_aim_40 : decode cX2_aim 40 = .ok (.iconst (-1), 1) := by decide +kernel
theorem dX2_aim_41 : decode cX2_aim 41 = .ok (.if_icmp .ne 6, 3) := by decide +kernel
theorem dX2_aim_44 : decode cX2_aim 44 = .ok (.goto 75, 3) := by decide +kernel
theorem dX2_aim_47 : decode cX2_aim 47 = .ok (.aload_n 1, 1) := by decide +kernel
theorem dX2_aim_48 : decode cX2_aim 48 = .ok (.iload 4, 2) := by decide +kernel
theorem dX2_aim_50 : decode cX2_aim 50 = .ok (.aaload, 1) := by decide +kernel
theorem dX2_aim_51 : decode cX2_aim 51 = .ok (.getfield 75, 3) := by decide +kernel
theorem dX2_aim_54 : decode cX2_aim 54 = .ok (.aload_n 2, 1) := by decide +kernel
theorem dX2_aim_55 : decode cX2_aim 55 = .ok (.iload 4, 2) := by decide +kernel
theorem dX2_aim_57 : decode cX2_aim 57 = .ok (.iaload, 1) := by decide +kernel
theorem dX2_aim_58 : decode cX2_aim 58 = .ok (.aaload, 1) := by decide +kernel
theorem dX2_aim_59 : decode cX2_aim 59 = .ok (.astore 5, 2) := by decide +kernel
theorem dX2_aim_61 : decode cX2_aim 61 = .ok (.iconst 0, 1) := by decide +kernel
theorem dX2_aim_62 : decode cX2_aim 62 = .ok (.istore 6, 2) := by decide +kernel
theorem dX2_aim_64 : decode cX2_aim 64 = .ok (.iload 6, 2) := by decide +kernel
theorem dX2_aim_66 : decode cX2_aim 66 = .ok (.aload 5, 2) := by decide +kernel
theorem dX2_aim_68 : decode cX2_aim 68 = .ok (.getfield 87, 3) := by decide +kernel
theorem dX2_aim_71 : decode cX2_aim 71 = .ok (.if_icmp .ge 48, 3) := by decide +kernel
theorem dX2_aim_74 : decode cX2_aim 74 = .ok (.aload_n 0, 1) := by decide +kernel
theorem dX2_aim_75 : decode cX2_aim 75 = .ok (.iload 4, 2) := by decide +kernel
theorem dX2_aim_77 : decode cX2_aim 77 = .ok (.aload 5, 2) := by decide +kernel
theorem dX2_aim_79 : decode cX2_aim 79 = .ok (.getfield 92, 3) := by decide +kernel
theorem dX2_aim_82 : decode cX2_aim 82 = .ok (.iload 6, 2) := by decide +kernel
theorem dX2_aim_84 : decode cX2_aim 84 = .ok (.iaload, 1) := by decide +kernel
theorem dX2_aim_85 : decode cX2_aim 85 = .ok (.invokevirtual 95, 3) := by decide +kernel
theorem dX2_aim_88 : decode cX2_aim 88 = .ok (.istore 7, 2) := by decide +kernel
theorem dX2_aim_90 : decode cX2_aim 90 = .ok (.aload_n 0, 1) := by decide +kernel
theorem dX2_aim_91 : decode cX2_aim 91 = .ok (.getfield 47, 3) := by decide +kernel
theorem dX2_aim_94 : decode cX2_aim 94 = .ok (.iload 7, 2) := by decide +kernel
theorem dX2_aim_96 : decode cX2_aim 96 = .ok (.baload, 1) := by decide +kernel
theorem dX2_aim_97 : decode cX2_aim 97 = .ok (.ifCond .eq 5, 3) := by decide +kernel
theorem dX2_aim_100 : decode cX2_aim 100 = .ok (.iconst (-1), 1) := by decide +kernel
theorem dX2_aim_101 : decode cX2_aim 101 = .ok (.ireturn, 1) := by decide +kernel
theorem dX2_aim_102 : decode cX2_aim 102 = .ok (.aload_n 0, 1) := by decide +kernel
theorem dX2_aim_103 : decode cX2_aim 103 = .ok (.getfield 47, 3) := by decide +kernel
theorem dX2_aim_106 : decode cX2_aim 106 = .ok (.iload 7, 2) := by decide +kernel
theorem dX2_aim_108 : decode cX2_aim 108 = .ok (.iconst 1, 1) := by decide +kernel
theorem dX2_aim_109 : decode cX2_aim 109 = .ok (.bastore, 1) := by decide +kernel
theorem dX2_aim_110 : decode cX2_aim 110 = .ok (.iinc 3 1, 3) := by decide +kernel
theorem dX2_aim_113 : decode cX2_aim 113 = .ok (.iinc 6 1, 3) := by decide +kernel
theorem dX2_aim_116 : decode cX2_aim 116 = .ok (.goto (-52), 3) := by decide +kernel
theorem dX2_aim_119 : decode cX2_aim 119 = .ok (.iinc 4 1, 3) := by decide +kernel
theorem dX2_aim_122 : decode cX2_aim 122 = .ok (.goto (-93), 3) := by decide +kernel
theorem dX2_aim_125 : decode cX2_aim 125 = .ok (.iload_n 3, 1) := by decide +kernel
theorem dX2_aim_126 : decode cX2_aim 126 = .ok (.ireturn, 1) := by decide +kernel
def wp_X2_aim_119 (h : Nat) (x1 : Option Nat) (x2 : Option Nat) (x3 : Int32) (x4 : Int32) (S : xm_S) (g : Int32 → xm_S → Prop) (Z29 : Option Nat → Option Nat → Int32 → Int32 → xm_S → Prop) : Prop :=
  ∀ y1, y1 = (x4 + (1 : Int32)) → Z29 x1 x2 x3 y1 S
set_option maxRecDepth 100000 in
set_option maxHeartbeats 4000000 in
theorem kp_X2_aim_119 {K : xm_K} (h : Nat) (x1 : Option Nat) (x2 : Option Nat) (x3 : Int32) (x4 : Int32) (S : xm_S) {g : Int32 → xm_S → Prop} {Z29 : Option Nat → Option Nat → Int32 → Int32 → xm_S → Prop} (C : xm_Cx K cX2_aim RX2 8 (some (FieldType.int)) rm_X2_aim) (N : xm_Nx K) (hg : ∀ v S, g v S → xm_q K (some (xm_i v)) S) (hZ29 : ∀ x1 x2 x3 x4 S, Z29 x1 x2 x3 x4 S → xm_W K 0 0 29 [(0, xm_r (some h)), (1, xm_r x1), (2, xm_r x2), (3, xm_i x3), (4, xm_i x4)] [] S) (h1 : wp_X2_aim_119 h x1 x2 x3 x4 S g Z29) : xm_W K 0 0 119 [(0, xm_r (some h)), (1, xm_r x1), (2, xm_r x2), (3, xm_i x3), (4, xm_i x4)] [] S := by
  unfold wp_X2_aim_119 at h1
  obtain ⟨y1, e2⟩ : ∃ y1, y1 = (x4 + (1 : Int32)) := ⟨_, rfl⟩
  have h1 := h1 y1 e2
  refine x_iinc (v := y1) (L' := [(4, xm_i y1), (0, xm_r (some h)), (1, xm_r x1), (2, xm_r x2), (3, xm_i x3)]) C 4 dX2_aim_119 rfl (by rw [e2]; rfl) (by decide) rfl ?_
  refine x_goto (tgt := 29) C dX2_aim_122 (by decide) ?_
  refine x_keep (L' := [(0, xm_r (some h)), (1, xm_r x1), (2, xm_r x2), (3, xm_i x3), (4, xm_i y1)]) C [1, 2, 3, 4, 0] rfl ?_
  exact hZ29 x1 x2 x3 y1 S h1
def wp_X2_aim_64B (h : Nat) (x1 : Option Nat) (x2 : Option Nat) (x3 : Int32) (x4 : Int32) (x5 : Option Nat) (x6 : Int32) (S : xm_S) (g : Int32 → xm_S → Prop) (Z29 : Option Nat → Option Nat → Int32 → Int32 → xm_S → Prop) (Z64 : Option Nat → Option Nat → Int32 → Int32 → Option Nat → Int32 → xm_S → Prop) : Prop :=
  ∃ n3, x5 = some n3 ∧ st_t S n3 = some (10, 0) ∧ ((st_i S n3 16) ≤ x6 → wp_X2_aim_119 h x1 x2 x3 x4 S g Z29) ∧ (¬ (st_i S n3 16) ≤ x6 → ∃ n6, x5 = some n6 ∧ st_t S n6 = some (10, 0) ∧ ∃ n9, (st_r S n6 13) = some n9 ∧ ∃ z12, st_t S n9 = some (100, z12) ∧ vp_in x6 z12 ∧ st_t S h = some (2, 0) ∧ wp_X2_targetOf h x4 (st_i S n9 (x6).toNatClampNeg) S (fun r16 S15 => st_t S15 h = some (2, 0) ∧ ∃ n18, (st_r S15 h 9) = some n18 ∧ ∃ z21, st_t S15 n18 = some (101, z21) ∧ vp_in r16 z21 ∧ ((st_i S15 n18 (r16).toNatClampNeg) = 0 → ∃ n23, (st_r S15 h 9) = some n23 ∧ ∃ z26, st_t S15 n23 = some (101, z26) ∧ vp_in r16 z26 ∧ ∀ S28, S28 = st_pi S15 n23 (r16).toNatClampNeg (1 : Int32) → ∀ y30, y30 = (x3 + (1 : Int32)) → ∀ y32, y32 = (x6 + (1 : Int32)) → Z64 x1 x2 y30 x4 x5 y32 S28) ∧ (¬ (st_i S15 n18 (r16).toNatClampNeg) = 0 → g (-1 : Int32) S15)))
def wp_X2_aim_64 (h : Nat) (x1 : Option Nat) (x2 : Option Nat) (x3 : Int32) (x4 : Int32) (x5 : Option Nat) (x6 : Int32) (S : xm_S) (g : Int32 → xm_S → Prop) (Z29 : Option Nat → Option Nat → Int32 → Int32 → xm_S → Prop) : Prop :=
  ∀ Z64 : Option Nat → Option Nat → Int32 → Int32 → Option Nat → Int32 → xm_S → Prop, (∀ x1 x2 x3 x4 x5 x6 S, wp_X2_aim_64B h x1 x2 x3 x4 x5 x6 S g Z29 Z64 → Z64 x1 x2 x3 x4 x5 x6 S) → Z64 x1 x2 x3 x4 x5 x6 S
set_option maxRecDepth 100000 in
set_option maxHeartbeats 4000000 in
theorem kp_X2_aim_64B {K : xm_K} (h : Nat) (x1 : Option Nat) (x2 : Option Nat) (x3 : Int32) (x4 : Int32) (x5 : Option Nat) (x6 : Int32) (S : xm_S) {g : Int32 → xm_S → Prop} {Z29 : Option Nat → Option Nat → Int32 → Int32 → xm_S → Prop} {Z64 : Option Nat → Option Nat → Int32 → Int32 → Option Nat → Int32 → xm_S → Prop} (C : xm_Cx K cX2_aim RX2 8 (some (FieldType.int)) rm_X2_aim) (N : xm_Nx K) (hg : ∀ v S, g v S → xm_q K (some (xm_i v)) S) (hZ29 : ∀ x1 x2 x3 x4 S, Z29 x1 x2 x3 x4 S → xm_W K 0 0 29 [(0, xm_r (some h)), (1, xm_r x1), (2, xm_r x2), (3, xm_i x3), (4, xm_i x4)] [] S) (hZ64 : ∀ x1 x2 x3 x4 x5 x6 S, Z64 x1 x2 x3 x4 x5 x6 S → xm_W K 0 0 64 [(0, xm_r (some h)), (1, xm_r x1), (2, xm_r x2), (3, xm_i x3), (4, xm_i x4), (5, xm_r x5), (6, xm_i x6)] [] S) (h1 : wp_X2_aim_64B h x1 x2 x3 x4 x5 x6 S g Z29 Z64) : xm_W K 0 0 64 [(0, xm_r (some h)), (1, xm_r x1), (2, xm_r x2), (3, xm_i x3), (4, xm_i x4), (5, xm_r x5), (6, xm_i x6)] [] S := by
  unfold wp_X2_aim_64B at h1
  refine x_iload C 6 dX2_aim_64 rfl ?_
  refine x_aload C 5 dX2_aim_66 rfl ?_
  obtain ⟨n3, hr4, h1⟩ := h1
  obtain ⟨ht5, h1⟩ := h1
  refine x_getf_i (n := n3) C hr4 ht5 fd_12 (by decide) dX2_aim_68 ?_
  refine x_icmp_ge (tgt := 119) C dX2_aim_71 (by decide) (fun z9 => ?_) (fun z9 => ?_)
  · have h1 := h1.1 z9
    refine x_keep (L' := [(0, xm_r (some h)), (1, xm_r x1), (2, xm_r x2), (3, xm_i x3), (4, xm_i x4)]) C [0, 1, 2, 3, 4] rfl ?_
    exact kp_X2_aim_119 h x1 x2 x3 x4 S C N hg hZ29 h1
  · have h1 := h1.2 z9
    refine x_aload_n C 0 dX2_aim_74 rfl rfl ?_
    refine x_iload C 4 dX2_aim_75 rfl ?_
    refine x_aload C 5 dX2_aim_77 rfl ?_
    obtain ⟨n6, hr7, h1⟩ := h1
    obtain ⟨ht8, h1⟩ := h1
    refine x_getf_r (n := n6) C hr7 ht8 fd_13 (by decide) dX2_aim_79 ?_
    refine x_iload C 6 dX2_aim_82 rfl ?_
    obtain ⟨n9, hr10, h1⟩ := h1
    obtain ⟨z12, ht11, h1⟩ := h1
    obtain ⟨hi13, h1⟩ := h1
    refine x_iald (n := n9) C hr10 ht11 hi13 dX2_aim_84 ?_
    obtain ⟨ht14, h1⟩ := h1
    refine x_callV (rm' := rm_X2_targetOf) (n := h) C (kp_X2_targetOf_met h1) lk_1 gw_28 gw_29 xv_2 rfl rfl ht14 rfl (Nat.le_of_ble_eq_true rfl) ⟨Nat.le_of_ble_eq_true rfl, Nat.le_of_ble_eq_true rfl, (Nat.le_of_ble_eq_true rfl), (Nat.le_of_ble_eq_true rfl)⟩ dX2_aim_85 xm_kx (xm_ki (fun r16 S15 h1 => ?_))
    refine x_istore (L' := [(7, xm_i r16), (0, xm_r (some h)), (1, xm_r x1), (2, xm_r x2), (3, xm_i x3), (4, xm_i x4), (5, xm_r x5), (6, xm_i x6)]) C dX2_aim_88 (by decide) rfl ?_
    refine x_aload_n C 1 dX2_aim_90 rfl rfl ?_
    obtain ⟨ht17, h1⟩ := h1
    refine x_getf_r (n := h) C rfl ht17 fd_14 (by decide) dX2_aim_91 ?_
    refine x_iload C 0 dX2_aim_94 rfl ?_
    obtain ⟨n18, hr19, h1⟩ := h1
    obtain ⟨z21, ht20, h1⟩ := h1
    obtain ⟨hi22, h1⟩ := h1
    refine x_zald (n := n18) C hr19 ht20 hi22 dX2_aim_96 ?_
    refine x_if_eq (tgt := 102) C dX2_aim_97 (by decide) (fun z9 => ?_) (fun z9 => ?_)
    · have h1 := h1.1 z9
      refine x_aload_n C 1 dX2_aim_102 rfl rfl ?_
      refine x_getf_r (n := h) C rfl ht17 fd_14 (by decide) dX2_aim_103 ?_
      refine x_iload C 0 dX2_aim_106 rfl ?_
      refine x_iconst (v := (1 : Int32)) C dX2_aim_108 (by decide) ?_
      obtain ⟨n23, hr24, h1⟩ := h1
      obtain ⟨z26, ht25, h1⟩ := h1
      obtain ⟨hi27, h1⟩ := h1
      refine x_zast (n := n23) C hr24 ht25 hi27 (by decide) dX2_aim_109 ?_
      refine x_topS (fun S28 e29 => ?_)
      have h1 := h1 S28 e29
      obtain ⟨y30, e31⟩ : ∃ y30, y30 = (x3 + (1 : Int32)) := ⟨_, rfl⟩
      have h1 := h1 y30 e31
      refine x_iinc (v := y30) (L' := [(3, xm_i y30), (7, xm_i r16), (0, xm_r (some h)), (1, xm_r x1), (2, xm_r x2), (4, xm_i x4), (5, xm_r x5), (6, xm_i x6)]) C 4 dX2_aim_110 rfl (by rw [e31]; rfl) (by decide) rfl ?_
      obtain ⟨y32, e33⟩ : ∃ y32, y32 = (x6 + (1 : Int32)) := ⟨_, rfl⟩
      have h1 := h1 y32 e33
      refine x_iinc (v := y32) (L' := [(6, xm_i y32), (3, xm_i y30), (7, xm_i r16), (0, xm_r (some h)), (1, xm_r x1), (2, xm_r x2), (4, xm_i x4), (5, xm_r x5)]) C 7 dX2_aim_113 rfl (by rw [e33]; rfl) (by decide) rfl ?_
      refine x_goto (tgt := 64) C dX2_aim_116 (by decide) ?_
      refine x_keep (L' := [(0, xm_r (some h)), (1, xm_r x1), (2, xm_r x2), (3, xm_i y30), (4, xm_i x4), (5, xm_r x5), (6, xm_i y32)]) C [3, 4, 5, 1, 6, 7, 0] rfl ?_
      exact hZ64 x1 x2 y30 x4 x5 y32 S28 h1
    · have h1 := h1.2 z9
      refine x_iconst (v := (-1 : Int32)) C dX2_aim_100 (by decide) ?_
      exact x_iret C (Nat.le_of_ble_eq_true rfl) (Nat.le_of_ble_eq_true rfl) rfl dX2_aim_101 (hg _ _ h1)
theorem kp_X2_aim_64 {K : xm_K} (h : Nat) (x1 : Option Nat) (x2 : Option Nat) (x3 : Int32) (x4 : Int32) (x5 : Option Nat) (x6 : Int32) (S : xm_S) {g : Int32 → xm_S → Prop} {Z29 : Option Nat → Option Nat → Int32 → Int32 → xm_S → Prop} (C : xm_Cx K cX2_aim RX2 8 (some (FieldType.int)) rm_X2_aim) (N : xm_Nx K) (hg : ∀ v S, g v S → xm_q K (some (xm_i v)) S) (hZ29 : ∀ x1 x2 x3 x4 S, Z29 x1 x2 x3 x4 S → xm_W K 0 0 29 [(0, xm_r (some h)), (1, xm_r x1), (2, xm_r x2), (3, xm_i x3), (4, xm_i x4)] [] S) (h1 : wp_X2_aim_64 h x1 x2 x3 x4 x5 x6 S g Z29) : xm_W K 0 0 64 [(0, xm_r (some h)), (1, xm_r x1), (2, xm_r x2), (3, xm_i x3), (4, xm_i x4), (5, xm_r x5), (6, xm_i x6)] [] S :=
  h1 (fun x1 x2 x3 x4 x5 x6 S => xm_W K 0 0 64 [(0, xm_r (some h)), (1, xm_r x1), (2, xm_r x2), (3, xm_i x3), (4, xm_i x4), (5, xm_r x5), (6, xm_i x6)] [] S) (fun x1 x2 x3 x4 x5 x6 S hb => kp_X2_aim_64B h x1 x2 x3 x4 x5 x6 S C N hg hZ29 (fun x1 x2 x3 x4 x5 x6 S hz => hz) hb)
def wp_X2_aim_29B (h : Nat) (x1 : Option Nat) (x2 : Option Nat) (x3 : Int32) (x4 : Int32) (S : xm_S) (g : Int32 → xm_S → Prop) (Z29 : Option Nat → Option Nat → Int32 → Int32 → xm_S → Prop) : Prop :=
  ((nI 6) ≤ x4 → g x3 S) ∧ (¬ (nI 6) ≤ x4 → ∃ n34, x2 = some n34 ∧ ∃ z37, st_t S n34 = some (100, z37) ∧ vp_in x4 z37 ∧ (¬ (st_i S n34 (x4).toNatClampNeg) = (-1 : Int32) → ∃ n39, x1 = some n39 ∧ ∃ z42, st_t S n39 = some (115, z42) ∧ vp_in x4 z42 ∧ ∃ n44, (st_r S n39 (x4).toNatClampNeg) = some n44 ∧ st_t S n44 = some (5, 0) ∧ ∃ n47, x2 = some n47 ∧ ∃ z50, st_t S n47 = some (100, z50) ∧ vp_in x4 z50 ∧ ∃ n52, (st_r S n44 1) = some n52 ∧ ∃ z55, st_t S n52 = some (120, z55) ∧ vp_in (st_i S n47 (x4).toNatClampNeg) z55 ∧ wp_X2_aim_64 h x1 x2 x3 x4 (st_r S n52 ((st_i S n47 (x4).toNatClampNeg)).toNatClampNeg) (0 : Int32) S g Z29) ∧ ((st_i S n34 (x4).toNatClampNeg) = (-1 : Int32) → wp_X2_aim_119 h x1 x2 x3 x4 S g Z29))
def wp_X2_aim_29 (h : Nat) (x1 : Option Nat) (x2 : Option Nat) (x3 : Int32) (x4 : Int32) (S : xm_S) (g : Int32 → xm_S → Prop) : Prop :=
  ∀ Z29 : Option Nat → Option Nat → Int32 → Int32 → xm_S → Prop, (∀ x1 x2 x3 x4 S, wp_X2_aim_29B h x1 x2 x3 x4 S g Z29 → Z29 x1 x2 x3 x4 S) → Z29 x1 x2 x3 x4 S
set_option maxRecDepth 100000 in
set_option maxHeartbeats 4000000 in
theorem kp_X2_aim_29B {K : xm_K} (h : Nat) (x1 : Option Nat) (x2 : Option Nat) (x3 : Int32) (x4 : Int32) (S : xm_S) {g : Int32 → xm_S → Prop} {Z29 : Option Nat → Option Nat → Int32 → Int32 → xm_S → Prop} (C : xm_Cx K cX2_aim RX2 8 (some (FieldType.int)) rm_X2_aim) (N : xm_Nx K) (hg : ∀ v S, g v S → xm_q K (some (xm_i v)) S) (hZ29 : ∀ x1 x2 x3 x4 S, Z29 x1 x2 x3 x4 S → xm_W K 0 0 29 [(0, xm_r (some h)), (1, xm_r x1), (2, xm_r x2), (3, xm_i x3), (4, xm_i x4)] [] S) (h1 : wp_X2_aim_29B h x1 x2 x3 x4 S g Z29) : xm_W K 0 0 29 [(0, xm_r (some h)), (1, xm_r x1), (2, xm_r x2), (3, xm_i x3), (4, xm_i x4)] [] S := by
  unfold wp_X2_aim_29B at h1
  refine x_iload C 4 dX2_aim_29 rfl ?_
  refine x_bipush (v := (nI 6)) C dX2_aim_31 (by decide) ?_
  refine x_icmp_ge (tgt := 125) C dX2_aim_33 (by decide) (fun z9 => ?_) (fun z9 => ?_)
  · have h1 := h1.1 z9
    refine x_iload_n C 3 dX2_aim_125 rfl rfl ?_
    exact x_iret C (Nat.le_of_ble_eq_true rfl) (Nat.le_of_ble_eq_true rfl) rfl dX2_aim_126 (hg _ _ h1)
  · have h1 := h1.2 z9
    refine x_aload_n C 2 dX2_aim_36 rfl rfl ?_
    refine x_iload C 4 dX2_aim_37 rfl ?_
    obtain ⟨n34, hr35, h1⟩ := h1
    obtain ⟨z37, ht36, h1⟩ := h1
    obtain ⟨hi38, h1⟩ := h1
    refine x_iald (n := n34) C hr35 ht36 hi38 dX2_aim_39 ?_
    refine x_iconst (v := (-1 : Int32)) C dX2_aim_40 (by decide) ?_
    refine x_icmp_ne (tgt := 47) C dX2_aim_41 (by decide) (fun z9 => ?_) (fun z9 => ?_)
    · have h1 := h1.1 z9
      refine x_aload_n C 1 dX2_aim_47 rfl rfl ?_
      refine x_iload C 4 dX2_aim_48 rfl ?_
      obtain ⟨n39, hr40, h1⟩ := h1
      obtain ⟨z42, ht41, h1⟩ := h1
      obtain ⟨hi43, h1⟩ := h1
      refine x_aald (n := n39) C hr40 (by decide) rfl ht41 hi43 dX2_aim_50 ?_
      obtain ⟨n44, hr45, h1⟩ := h1
      obtain ⟨ht46, h1⟩ := h1
      refine x_getf_r (n := n44) C hr45 ht46 fd_15 (by decide) dX2_aim_51 ?_
      refine x_aload_n C 2 dX2_aim_54 rfl rfl ?_
      refine x_iload C 4 dX2_aim_55 rfl ?_
      obtain ⟨n47, hr48, h1⟩ := h1
      obtain ⟨z50, ht49, h1⟩ := h1
      obtain ⟨hi51, h1⟩ := h1
      refine x_iald (n := n47) C hr48 ht49 hi51 dX2_aim_57 ?_
      obtain ⟨n52, hr53, h1⟩ := h1
      obtain ⟨z55, ht54, h1⟩ := h1
      obtain ⟨hi56, h1⟩ := h1
      refine x_aald (n := n52) C hr53 (by decide) rfl ht54 hi56 dX2_aim_58 ?_
      refine x_astore (L' := [(5, xm_r (st_r S n52 ((st_i S n47 (x4).toNatClampNeg)).toNatClampNeg)), (0, xm_r (some h)), (1, xm_r x1), (2, xm_r x2), (3, xm_i x3), (4, xm_i x4)]) C dX2_aim_59 (by decide) rfl ?_
      refine x_iconst (v := (0 : Int32)) C dX2_aim_61 (by decide) ?_
      refine x_istore (L' := [(6, xm_i (0 : Int32)), (5, xm_r (st_r S n52 ((st_i S n47 (x4).toNatClampNeg)).toNatClampNeg)), (0, xm_r (some h)), (1, xm_r x1), (2, xm_r x2), (3, xm_i x3), (4, xm_i x4)]) C dX2_aim_62 (by decide) rfl ?_
      refine x_keep (L' := [(0, xm_r (some h)), (1, xm_r x1), (2, xm_r x2), (3, xm_i x3), (4, xm_i x4), (5, xm_r (st_r S n52 ((st_i S n47 (x4).toNatClampNeg)).toNatClampNeg)), (6, xm_i (0 : Int32))]) C [2, 3, 4, 5, 6, 1, 0] rfl ?_
      exact kp_X2_aim_64 h x1 x2 x3 x4 (st_r S n52 ((st_i S n47 (x4).toNatClampNeg)).toNatClampNeg) (0 : Int32) S C N hg hZ29 h1
    · have h1 := h1.2 z9
      refine x_goto (tgt := 119) C dX2_aim_44 (by decide) ?_
      exact kp_X2_aim_119 h x1 x2 x3 x4 S C N hg hZ29 h1
theorem kp_X2_aim_29 {K : xm_K} (h : Nat) (x1 : Option Nat) (x2 : Option Nat) (x3 : Int32) (x4 : Int32) (S : xm_S) {g : Int32 → xm_S → Prop} (C : xm_Cx K cX2_aim RX2 8 (some (FieldType.int)) rm_X2_aim) (N : xm_Nx K) (hg : ∀ v S, g v S → xm_q K (some (xm_i v)) S)  (h1 : wp_X2_aim_29 h x1 x2 x3 x4 S g) : xm_W K 0 0 29 [(0, xm_r (some h)), (1, xm_r x1), (2, xm_r x2), (3, xm_i x3), (4, xm_i x4)] [] S :=
  h1 (fun x1 x2 x3 x4 S => xm_W K 0 0 29 [(0, xm_r (some h)), (1, xm_r x1), (2, xm_r x2), (3, xm_i x3), (4, xm_i x4)] [] S) (fun x1 x2 x3 x4 S hb => kp_X2_aim_29B h x1 x2 x3 x4 S C N hg (fun x1 x2 x3 x4 S hz => hz) hb)
def wp_X2_aim_5B (h : Nat) (x1 : Option Nat) (x2 : Option Nat) (x3 : Int32) (x4 : Int32) (S : xm_S) (g : Int32 → xm_S → Prop) (Z5 : Option Nat → Option Nat → Int32 → Int32 → xm_S → Prop) : Prop :=
  ((nI 16) ≤ x4 → wp_X2_aim_29 h x1 x2 x3 (0 : Int32) S g) ∧ (¬ (nI 16) ≤ x4 → st_t S h = some (2, 0) ∧ ∃ n58, (st_r S h 9) = some n58 ∧ ∃ z61, st_t S n58 = some (101, z61) ∧ vp_in x4 z61 ∧ ∀ S63, S63 = st_pi S n58 (x4).toNatClampNeg (0 : Int32) → ∀ y65, y65 = (x4 + (1 : Int32)) → Z5 x1 x2 x3 y65 S63)
def wp_X2_aim_5 (h : Nat) (x1 : Option Nat) (x2 : Option Nat) (x3 : Int32) (x4 : Int32) (S : xm_S) (g : Int32 → xm_S → Prop) : Prop :=
  ∀ Z5 : Option Nat → Option Nat → Int32 → Int32 → xm_S → Prop, (∀ x1 x2 x3 x4 S, wp_X2_aim_5B h x1 x2 x3 x4 S g Z5 → Z5 x1 x2 x3 x4 S) → Z5 x1 x2 x3 x4 S
set_option maxRecDepth 100000 in
set_option maxHeartbeats 4000000 in
theorem kp_X2_aim_5B {K : xm_K} (h : Nat) (x1 : Option Nat) (x2 : Option Nat) (x3 : Int32) (x4 : Int32) (S : xm_S) {g : Int32 → xm_S → Prop} {Z5 : Option Nat → Option Nat → Int32 → Int32 → xm_S → Prop} (C : xm_Cx K cX2_aim RX2 8 (some (FieldType.int)) rm_X2_aim) (N : xm_Nx K) (hg : ∀ v S, g v S → xm_q K (some (xm_i v)) S) (hZ5 : ∀ x1 x2 x3 x4 S, Z5 x1 x2 x3 x4 S → xm_W K 0 0 5 [(0, xm_r (some h)), (1, xm_r x1), (2, xm_r x2), (3, xm_i x3), (4, xm_i x4)] [] S) (h1 : wp_X2_aim_5B h x1 x2 x3 x4 S g Z5) : xm_W K 0 0 5 [(0, xm_r (some h)), (1, xm_r x1), (2, xm_r x2), (3, xm_i x3), (4, xm_i x4)] [] S := by
  unfold wp_X2_aim_5B at h1
  refine x_iload C 4 dX2_aim_5 rfl ?_
  refine x_bipush (v := (nI 16)) C dX2_aim_7 (by decide) ?_
  refine x_icmp_ge (tgt := 26) C dX2_aim_9 (by decide) (fun z9 => ?_) (fun z9 => ?_)
  · have h1 := h1.1 z9
    refine x_iconst (v := (0 : Int32)) C dX2_aim_26 (by decide) ?_
    refine x_istore (L' := [(4, xm_i (0 : Int32)), (0, xm_r (some h)), (1, xm_r x1), (2, xm_r x2), (3, xm_i x3)]) C dX2_aim_27 (by decide) rfl ?_
    refine x_keep (L' := [(0, xm_r (some h)), (1, xm_r x1), (2, xm_r x2), (3, xm_i x3), (4, xm_i (0 : Int32))]) C [1, 2, 3, 4, 0] rfl ?_
    exact kp_X2_aim_29 h x1 x2 x3 (0 : Int32) S C N hg  h1
  · have h1 := h1.2 z9
    refine x_aload_n C 0 dX2_aim_12 rfl rfl ?_
    obtain ⟨ht57, h1⟩ := h1
    refine x_getf_r (n := h) C rfl ht57 fd_14 (by decide) dX2_aim_13 ?_
    refine x_iload C 4 dX2_aim_16 rfl ?_
    refine x_iconst (v := (0 : Int32)) C dX2_aim_18 (by decide) ?_
    obtain ⟨n58, hr59, h1⟩ := h1
    obtain ⟨z61, ht60, h1⟩ := h1
    obtain ⟨hi62, h1⟩ := h1
    refine x_zast (n := n58) C hr59 ht60 hi62 (by decide) dX2_aim_19 ?_
    refine x_topS (fun S63 e64 => ?_)
    have h1 := h1 S63 e64
    obtain ⟨y65, e66⟩ : ∃ y65, y65 = (x4 + (1 : Int32)) := ⟨_, rfl⟩
    have h1 := h1 y65 e66
    refine x_iinc (v := y65) (L' := [(4, xm_i y65), (0, xm_r (some h)), (1, xm_r x1), (2, xm_r x2), (3, xm_i x3)]) C 4 dX2_aim_20 rfl (by rw [e66]; rfl) (by decide) rfl ?_
    refine x_goto (tgt := 5) C dX2_aim_23 (by decide) ?_
    refine x_keep (L' := [(0, xm_r (some h)), (1, xm_r x1), (2, xm_r x2), (3, xm_i x3), (4, xm_i y65)]) C [1, 2, 3, 4, 0] rfl ?_
    exact hZ5 x1 x2 x3 y65 S63 h1
theorem kp_X2_aim_5 {K : xm_K} (h : Nat) (x1 : Option Nat) (x2 : Option Nat) (x3 : Int32) (x4 : Int32) (S : xm_S) {g : Int32 → xm_S → Prop} (C : xm_Cx K cX2_aim RX2 8 (some (FieldType.int)) rm_X2_aim) (N : xm_Nx K) (hg : ∀ v S, g v S → xm_q K (some (xm_i v)) S)  (h1 : wp_X2_aim_5 h x1 x2 x3 x4 S g) : xm_W K 0 0 5 [(0, xm_r (some h)), (1, xm_r x1), (2, xm_r x2), (3, xm_i x3), (4, xm_i x4)] [] S :=
  h1 (fun x1 x2 x3 x4 S => xm_W K 0 0 5 [(0, xm_r (some h)), (1, xm_r x1), (2, xm_r x2), (3, xm_i x3), (4, xm_i x4)] [] S) (fun x1 x2 x3 x4 S hb => kp_X2_aim_5B h x1 x2 x3 x4 S C N hg (fun x1 x2 x3 x4 S hz => hz) hb)
def wp_X2_aim (h : Nat) (x1 : Option Nat) (x2 : Option Nat) (S : xm_S) (g : Int32 → xm_S → Prop) : Prop :=
  wp_X2_aim_5 h x1 x2 (0 : Int32) (0 : Int32) S g
set_option maxRecDepth 100000 in
set_option maxHeartbeats 4000000 in
theorem kp_X2_aim {K : xm_K} (h : Nat) (x1 : Option Nat) (x2 : Option Nat) (S : xm_S) {g : Int32 → xm_S → Prop} (C : xm_Cx K cX2_aim RX2 8 (some (FieldType.int)) rm_X2_aim) (N : xm_Nx K) (hg : ∀ v S, g v S → xm_q K (some (xm_i v)) S)  (h1 : wp_X2_aim h x1 x2 S g) : xm_W K 0 0 0 [(0, xm_r (some h)), (1, xm_r x1), (2, xm_r x2)] [] S := by
  unfold wp_X2_aim at h1
  refine x_iconst (v := (0 : Int32)) C dX2_aim_0 (by decide) ?_
  refine x_istore_n (L' := [(3, xm_i (0 : Int32)), (0, xm_r (some h)), (1, xm_r x1), (2, xm_r x2)]) C dX2_aim_1 rfl (by decide) rfl ?_
  refine x_iconst (v := (0 : Int32)) C dX2_aim_2 (by decide) ?_
  refine x_istore (L' := [(4, xm_i (0 : Int32)), (3, xm_i (0 : Int32)), (0, xm_r (some h)), (1, xm_r x1), (2, xm_r x2)]) C dX2_aim_3 (by decide) rfl ?_
  refine x_keep (L' := [(0, xm_r (some h)), (1, xm_r x1), (2, xm_r x2), (3, xm_i (0 : Int32)), (4, xm_i (0 : Int32))]) C [2, 3, 4, 1, 0] rfl ?_
  exact kp_X2_aim_5 h x1 x2 (0 : Int32) (0 : Int32) S C N hg  h1
theorem kp_X2_aim_met {h : Nat} {x1 : Option Nat} {x2 : Option Nat} {S : xm_S} {g : Int32 → xm_S → Prop}  (h1 : wp_X2_aim h x1 x2 S g) : xm_Met yX2_aim cX2_aim 8 (some (FieldType.int)) rm_X2_aim [xm_r (some h), xm_r x1, xm_r x2] S (xm_qi g) xm_nox :=
  xm_ofW RX2 (by decide +kernel) rfl (Nat.le_of_ble_eq_true rfl) (fun K C N hq hx hi => kp_X2_aim h x1 x2 S C N (fun v S h => by rw [hq]; exact ⟨v, rfl, h⟩)  h1)
def rm_X2_isStray : Room := { frames := 1, cells := 0, slots := 0, locals := 20 }
theorem dX2_isStray_0 : decode cX2_isStray 0 = .ok (.aload_n 0, 1) := by decide +kernel
theorem dX2_isStray_1 : decode cX2_isStray 1 = .ok (.getfield 12, 3) := by decide +kernel
theorem dX2_isStray_4 : decode cX2_isStray 4 = .ok (.getfield 98, 3) := by decide +kernel
theorem dX2_isStray_7 : decode cX2_isStray 7 = .ok (.iload_n 1, 1) := by decide +kernel
theorem dX2_isStray_8 : decode cX2_isStray 8 = .ok (.iaload, 1) := by decide +kernel
theorem dX2_isStray_9 : decode cX2_isStray 9 = .ok (.iconst (-1), 1) := by decide +kernel
theorem dX2_isStray_10 : decode cX2_isStray 10 = .ok (.if_icmp .eq 16, 3) := by decide +kernel
theorem dX2_isStray_13 : decode cX2_isStray 13 = .ok (.aload_n 0, 1) := by decide +kernel
theorem dX2_isStray_14 : decode cX2_isStray 14 = .ok (.getfield 47, 3) := by decide +kernel
theorem dX2_isStray_17 : decode cX2_isStray 17 = .ok (.iload_n 1, 1) := by decide +kernel
theorem dX2_isStray_18 : decode cX2_isStray 18 = .ok (.baload, 1) := by decide +kernel
theorem dX2_isStray_19 : decode cX2_isStray 19 = .ok (.ifCond .ne 7, 3) := by decide +kernel
theorem dX2_isStray_22 : decode cX2_isStray 22 = .ok (.iconst 1, 1) := by decide +kernel
theorem dX2_isStray_23 : decode cX2_isStray 23 = .ok (.goto 4, 3) := by decide +kernel
theorem dX2_isStray_26 : decode cX2_isStray 26 = .ok (.iconst 0, 1) := by decide +kernel
theorem dX2_isStray_27 : decode cX2_isStray 27 = .ok (.ireturn, 1) := by decide +kernel
def wp_X2_isStray_27 (h : Nat) (s0 : Int32) (S : xm_S) (g : Int32 → xm_S → Prop) : Prop :=
  (s0 = 0 ∨ s0 = 1) ∧ g s0 S
set_option maxRecDepth 100000 in
set_option maxHeartbeats 4000000 in
theorem kp_X2_isStray_27 {K : xm_K} (h : Nat) (s0 : Int32) (S : xm_S) {g : Int32 → xm_S → Prop} (C : xm_Cx K cX2_isStray RX2 2 (some (FieldType.boolean)) rm_X2_isStray) (N : xm_Nx K) (hg : ∀ v S, g v S → xm_q K (some (xm_i v)) S)  (h1 : wp_X2_isStray_27 h s0 S g) : xm_W K 0 0 27 [] [xm_i s0] S := by
  unfold wp_X2_isStray_27 at h1
  exact x_zret C (Nat.le_of_ble_eq_true rfl) (Nat.le_of_ble_eq_true rfl) rfl h1.1 dX2_isStray_27 (hg _ _ h1.2)
def wp_X2_isStray_26 (h : Nat)  (S : xm_S) (g : Int32 → xm_S → Prop) : Prop :=
  wp_X2_isStray_27 h (0 : Int32) S g
set_option maxRecDepth 100000 in
set_option maxHeartbeats 4000000 in
theorem kp_X2_isStray_26 {K : xm_K} (h : Nat)  (S : xm_S) {g : Int32 → xm_S → Prop} (C : xm_Cx K cX2_isStray RX2 2 (some (FieldType.boolean)) rm_X2_isStray) (N : xm_Nx K) (hg : ∀ v S, g v S → xm_q K (some (xm_i v)) S)  (h1 : wp_X2_isStray_26 h  S g) : xm_W K 0 0 26 [] [] S := by
  unfold wp_X2_isStray_26 at h1
  refine x_iconst (v := (0 : Int32)) C dX2_isStray_26 (by decide) ?_
  exact kp_X2_isStray_27 h (0 : Int32) S C N hg  h1
def wp_X2_isStray (h : Nat) (x1 : Int32) (S : xm_S) (g : Int32 → xm_S → Prop) : Prop :=
  st_t S h = some (2, 0) ∧ ∃ n2, (st_r S h 0) = some n2 ∧ st_t S n2 = some (3, 0) ∧ ∃ n5, (st_r S n2 1) = some n5 ∧ ∃ z8, st_t S n5 = some (100, z8) ∧ vp_in x1 z8 ∧ ((st_i S n5 (x1).toNatClampNeg) = (-1 : Int32) → wp_X2_isStray_26 h S g) ∧ (¬ (st_i S n5 (x1).toNatClampNeg) = (-1 : Int32) → ∃ n10, (st_r S h 9) = some n10 ∧ ∃ z13, st_t S n10 = some (101, z13) ∧ vp_in x1 z13 ∧ (¬ (st_i S n10 (x1).toNatClampNeg) = 0 → wp_X2_isStray_26 h S g) ∧ ((st_i S n10 (x1).toNatClampNeg) = 0 → wp_X2_isStray_27 h (1 : Int32) S g))
set_option maxRecDepth 100000 in
set_option maxHeartbeats 4000000 in
theorem kp_X2_isStray {K : xm_K} (h : Nat) (x1 : Int32) (S : xm_S) {g : Int32 → xm_S → Prop} (C : xm_Cx K cX2_isStray RX2 2 (some (FieldType.boolean)) rm_X2_isStray) (N : xm_Nx K) (hg : ∀ v S, g v S → xm_q K (some (xm_i v)) S)  (h1 : wp_X2_isStray h x1 S g) : xm_W K 0 0 0 [(0, xm_r (some h)), (1, xm_i x1)] [] S := by
  unfold wp_X2_isStray at h1
  refine x_aload_n C 0 dX2_isStray_0 rfl rfl ?_
  obtain ⟨ht1, h1⟩ := h1
  refine x_getf_r (n := h) C rfl ht1 fd_16 (by decide) dX2_isStray_1 ?_
  obtain ⟨n2, hr3, h1⟩ := h1
  obtain ⟨ht4, h1⟩ := h1
  refine x_getf_r (n := n2) C hr3 ht4 fd_17 (by decide) dX2_isStray_4 ?_
  refine x_iload_n C 1 dX2_isStray_7 rfl rfl ?_
  obtain ⟨n5, hr6, h1⟩ := h1
  obtain ⟨z8, ht7, h1⟩ := h1
  obtain ⟨hi9, h1⟩ := h1
  refine x_iald (n := n5) C hr6 ht7 hi9 dX2_isStray_8 ?_
  refine x_iconst (v := (-1 : Int32)) C dX2_isStray_9 (by decide) ?_
  refine x_icmp_eq (tgt := 26) C dX2_isStray_10 (by decide) (fun z9 => ?_) (fun z9 => ?_)
  · have h1 := h1.1 z9
    refine x_keep (L' := []) C [] rfl ?_
    exact kp_X2_isStray_26 h S C N hg  h1
  · have h1 := h1.2 z9
    refine x_aload_n C 0 dX2_isStray_13 rfl rfl ?_
    refine x_getf_r (n := h) C rfl ht1 fd_14 (by decide) dX2_isStray_14 ?_
    refine x_iload_n C 1 dX2_isStray_17 rfl rfl ?_
    obtain ⟨n10, hr11, h1⟩ := h1
    obtain ⟨z13, ht12, h1⟩ := h1
    obtain ⟨hi14, h1⟩ := h1
    refine x_zald (n := n10) C hr11 ht12 hi14 dX2_isStray_18 ?_
    refine x_if_ne (tgt := 26) C dX2_isStray_19 (by decide) (fun z9 => ?_) (fun z9 => ?_)
    · have h1 := h1.1 z9
      refine x_keep (L' := []) C [] rfl ?_
      exact kp_X2_isStray_26 h S C N hg  h1
    · have h1 := h1.2 z9
      refine x_iconst (v := (1 : Int32)) C dX2_isStray_22 (by decide) ?_
      refine x_goto (tgt := 27) C dX2_isStray_23 (by decide) ?_
      refine x_keep (L' := []) C [] rfl ?_
      exact kp_X2_isStray_27 h (1 : Int32) S C N hg  h1
theorem kp_X2_isStray_met {h : Nat} {x1 : Int32} {S : xm_S} {g : Int32 → xm_S → Prop}  (h1 : wp_X2_isStray h x1 S g) : xm_Met yX2_isStray cX2_isStray 2 (some (FieldType.boolean)) rm_X2_isStray [xm_r (some h), xm_i x1] S (xm_qi g) xm_nox :=
  xm_ofW RX2 (by decide +kernel) rfl (Nat.le_of_ble_eq_true rfl) (fun K C N hq hx hi => kp_X2_isStray h x1 S C N (fun v S h => by rw [hq]; exact ⟨v, rfl, h⟩)  h1)
def rm_X3_put : Room := { frames := 1, cells := 0, slots := 0, locals := 20 }
theorem dX3_put_0 : decode cX3_put 0 = .ok (.aload_n 0, 1) := by decide +kernel
theorem dX3_put_1 : decode cX3_put 1 = .ok (.getfield 15, 3) := by decide +kernel
theorem dX3_put_4 : decode cX3_put 4 = .ok (.iload_n 1, 1) := by decide +kernel
theorem dX3_put_5 : decode cX3_put 5 = .ok (.iload_n 2, 1) := by decide +kernel
theorem dX3_put_6 : decode cX3_put 6 = .ok (.iastore, 1) := by decide +kernel
theorem dX3_put_7 : decode cX3_put 7 = .ok (.aload_n 0, 1) := by decide +kernel
theorem dX3_put_8 : decode cX3_put 8 = .ok (.getfield 18, 3) := by decide +kernel
theorem dX3_put_11 : decode cX3_put 11 = .ok (.iload_n 1, 1) := by decide +kernel
theorem dX3_put_12 : decode cX3_put 12 = .ok (.iload_n 3, 1) := by decide +kernel
theorem dX3_put_13 : decode cX3_put 13 = .ok (.iastore, 1) := by decide +kernel
theorem dX3_put_14 : decode cX3_put 14 = .ok (.aload_n 0, 1) := by decide +kernel
theorem dX3_put_15 : decode cX3_put 15 = .ok (.getfield 21, 3) := by decide +kernel
theorem dX3_put_18 : decode cX3_put 18 = .ok (.iload_n 1, 1) := by decide +kernel
theorem dX3_put_19 : decode cX3_put 19 = .ok (.iload 4, 2) := by decide +kernel
theorem dX3_put_21 : decode cX3_put 21 = .ok (.iastore, 1) := by decide +kernel
theorem dX3_put_22 : decode cX3_put 22 = .ok (.return_, 1) := by decide +kernel
def wp_X3_put (h : Nat) (x1 : Int32) (x2 : Int32) (x3 : Int32) (x4 : Int32) (S : xm_S) (g : xm_S → Prop) : Prop :=
  st_t S h = some (3, 0) ∧ ∃ n2, (st_r S h 1) = some n2 ∧ ∃ z5, st_t S n2 = some (100, z5) ∧ vp_in x1 z5 ∧ ∀ S7, S7 = st_pi S n2 (x1).toNatClampNeg x2 → ∃ n9, (st_r S7 h 2) = some n9 ∧ ∃ z12, st_t S7 n9 = some (100, z12) ∧ vp_in x1 z12 ∧ ∀ S14, S14 = st_pi S7 n9 (x1).toNatClampNeg x3 → ∃ n16, (st_r S14 h 3) = some n16 ∧ ∃ z19, st_t S14 n16 = some (100, z19) ∧ vp_in x1 z19 ∧ ∀ S21, S21 = st_pi S14 n16 (x1).toNatClampNeg x4 → g S21
set_option maxRecDepth 100000 in
set_option maxHeartbeats 4000000 in
theorem kp_X3_put {K : xm_K} (h : Nat) (x1 : Int32) (x2 : Int32) (x3 : Int32) (x4 : Int32) (S : xm_S) {g : xm_S → Prop} (C : xm_Cx K cX3_put RX3 5 none rm_X3_put) (N : xm_Nx K) (hg : ∀ S, g S → xm_q K none S)  (h1 : wp_X3_put h x1 x2 x3 x4 S g) : xm_W K 0 0 0 [(0, xm_r (some h)), (1, xm_i x1), (2, xm_i x2), (3, xm_i x3), (4, xm_i x4)] [] S := by
  unfold wp_X3_put at h1
  refine x_aload_n C 0 dX3_put_0 rfl rfl ?_
  obtain ⟨ht1, h1⟩ := h1
  refine x_getf_r (n := h) C rfl ht1 fd_3 (by decide) dX3_put_1 ?_
  refine x_iload_n C 1 dX3_put_4 rfl rfl ?_
  refine x_iload_n C 2 dX3_put_5 rfl rfl ?_
  obtain ⟨n2, hr3, h1⟩ := h1
  obtain ⟨z5, ht4, h1⟩ := h1
  obtain ⟨hi6, h1⟩ := h1
  refine x_iast (n := n2) C hr3 ht4 hi6 dX3_put_6 ?_
  refine x_topS (fun S7 e8 => ?_)
  have h1 := h1 S7 e8
  refine x_aload_n C 0 dX3_put_7 rfl rfl ?_
  refine x_getf_r (n := h) C rfl (tk_p e8 ht1) fd_4 (by decide) dX3_put_8 ?_
  refine x_iload_n C 1 dX3_put_11 rfl rfl ?_
  refine x_iload_n C 3 dX3_put_12 rfl rfl ?_
  obtain ⟨n9, hr10, h1⟩ := h1
  obtain ⟨z12, ht11, h1⟩ := h1
  obtain ⟨hi13, h1⟩ := h1
  refine x_iast (n := n9) C hr10 ht11 hi13 dX3_put_13 ?_
  refine x_topS (fun S14 e15 => ?_)
  have h1 := h1 S14 e15
  refine x_aload_n C 0 dX3_put_14 rfl rfl ?_
  refine x_getf_r (n := h) C rfl (tk_p e15 (tk_p e8 ht1)) fd_5 (by decide) dX3_put_15 ?_
  refine x_iload_n C 1 dX3_put_18 rfl rfl ?_
  refine x_iload C 4 dX3_put_19 rfl ?_
  obtain ⟨n16, hr17, h1⟩ := h1
  obtain ⟨z19, ht18, h1⟩ := h1
  obtain ⟨hi20, h1⟩ := h1
  refine x_iast (n := n16) C hr17 ht18 hi20 dX3_put_21 ?_
  refine x_topS (fun S21 e22 => ?_)
  have h1 := h1 S21 e22
  exact x_vret C (Nat.le_of_ble_eq_true rfl) (Nat.le_of_ble_eq_true rfl) rfl dX3_put_22 (hg _ h1)
theorem kp_X3_put_met {h : Nat} {x1 : Int32} {x2 : Int32} {x3 : Int32} {x4 : Int32} {S : xm_S} {g : xm_S → Prop}  (h1 : wp_X3_put h x1 x2 x3 x4 S g) : xm_Met yX3_put cX3_put 5 none rm_X3_put [xm_r (some h), xm_i x1, xm_i x2, xm_i x3, xm_i x4] S (xm_qv g) xm_nox :=
  xm_ofW RX3 (by decide +kernel) rfl (Nat.le_of_ble_eq_true rfl) (fun K C N hq hx hi => kp_X3_put h x1 x2 x3 x4 S C N (fun S h => by rw [hq]; exact ⟨rfl, h⟩)  h1)
def rm_X2_clearStrays : Room := { frames := 2, cells := 0, slots := 0, locals := 44 }
theorem dX2_clearStrays_0 : decode cX2_clearStrays 0 = .ok (.iconst 0, 1) := by decide +kernel
theorem dX2_clearStrays_1 : decode cX2_clearStrays 1 = .ok (.istore_n 1, 1) := by decide +kernel
theorem dX2_clearStrays_2 : decode cX2_clearStrays 2 = .ok (.iload_n 1, 1) := by decide +kernel
theorem dX2_clearStrays_3 : decode cX2_clearStrays 3 = .ok (.bipush 16, 2) := by decide +kernel
theorem dX2_clearStrays_5 : decode cX2_clearStrays 5 = .ok (.if_icmp .ge 28, 3) := by decide +kernel
theorem dX2_clearStrays_8 : decode cX2_clearStrays 8 = .ok (.aload_n 0, 1) := by decide +kernel
theorem dX2_clearStrays_9 : decode cX2_clearStrays 9 = .ok (.iload_n 1, 1) := by decide +kernel
theorem dX2_clearStrays_10 : decode cX2_clearStrays 10 = .ok (.invokevirtual 101, 3) := by decide +kernel
theorem dX2_clearStrays_13 : decode cX2_clearStrays 13 = .ok (.ifCond .eq 14, 3) := by decide +kernel
theorem dX2_clearStrays_16 : decode cX2_clearStrays 16 = .ok (.aload_n 0, 1) := by decide +kernel
theorem dX2_clearStrays_17 : decode cX2_clearStrays 17 = .ok (.getfield 12, 3) := by decide +kernel
theorem dX2_clearStrays_20 : decode cX2_clearStrays 20 = .ok (.iload_n 1, 1) := by decide +kernel
theorem dX2_clearStrays_21 : decode cX2_clearStrays 21 = .ok (.iconst (-1), 1) := by decide +kernel
theorem dX2_clearStrays_22 : decode cX2_clearStrays 22 = .ok (.iconst (-1), 1) := by decide +kernel
theorem dX2_clearStrays_23 : decode cX2_clearStrays 23 = .ok (.iconst (-1), 1) := by decide +kernel
theorem dX2_clearStrays_24 : decode cX2_clearStrays 24 = .ok (.invokevirtual 105, 3) := by decide +kernel
theorem dX2_clearStrays_27 : decode cX2_clearStrays 27 = .ok (.iinc 1 1, 3) := by decide +kernel
theorem dX2_clearStrays_30 : decode cX2_clearStrays 30 = .ok (.goto (-28), 3) := by decide +kernel
theorem dX2_clearStrays_33 : decode cX2_clearStrays 33 = .ok (.return_, 1) := by decide +kernel
def wp_X2_clearStrays_27 (h : Nat) (x1 : Int32) (S : xm_S) (g : xm_S → Prop) (Z2 : Int32 → xm_S → Prop) : Prop :=
  ∀ y1, y1 = (x1 + (1 : Int32)) → Z2 y1 S
set_option maxRecDepth 100000 in
set_option maxHeartbeats 4000000 in
theorem kp_X2_clearStrays_27 {K : xm_K} (h : Nat) (x1 : Int32) (S : xm_S) {g : xm_S → Prop} {Z2 : Int32 → xm_S → Prop} (C : xm_Cx K cX2_clearStrays RX2 2 none rm_X2_clearStrays) (N : xm_Nx K) (hg : ∀ S, g S → xm_q K none S) (hZ2 : ∀ x1 S, Z2 x1 S → xm_W K 0 0 2 [(0, xm_r (some h)), (1, xm_i x1)] [] S) (h1 : wp_X2_clearStrays_27 h x1 S g Z2) : xm_W K 0 0 27 [(0, xm_r (some h)), (1, xm_i x1)] [] S := by
  unfold wp_X2_clearStrays_27 at h1
  obtain ⟨y1, e2⟩ : ∃ y1, y1 = (x1 + (1 : Int32)) := ⟨_, rfl⟩
  have h1 := h1 y1 e2
  refine x_iinc (v := y1) (L' := [(1, xm_i y1), (0, xm_r (some h))]) C 1 dX2_clearStrays_27 rfl (by rw [e2]; rfl) (by decide) rfl ?_
  refine x_goto (tgt := 2) C dX2_clearStrays_30 (by decide) ?_
  refine x_keep (L' := [(0, xm_r (some h)), (1, xm_i y1)]) C [1, 0] rfl ?_
  exact hZ2 y1 S h1
def wp_X2_clearStrays_2B (h : Nat) (x1 : Int32) (S : xm_S) (g : xm_S → Prop) (Z2 : Int32 → xm_S → Prop) : Prop :=
  ((nI 16) ≤ x1 → g S) ∧ (¬ (nI 16) ≤ x1 → st_t S h = some (2, 0) ∧ wp_X2_isStray h x1 S (fun r5 S4 => (r5 = 0 → wp_X2_clearStrays_27 h x1 S4 g Z2) ∧ (¬ r5 = 0 → st_t S4 h = some (2, 0) ∧ ∃ n7, (st_r S4 h 0) = some n7 ∧ st_t S4 n7 = some (3, 0) ∧ wp_X3_put n7 x1 (-1 : Int32) (-1 : Int32) (-1 : Int32) S4 (fun S10 => wp_X2_clearStrays_27 h x1 S10 g Z2))))
def wp_X2_clearStrays_2 (h : Nat) (x1 : Int32) (S : xm_S) (g : xm_S → Prop) : Prop :=
  ∀ Z2 : Int32 → xm_S → Prop, (∀ x1 S, wp_X2_clearStrays_2B h x1 S g Z2 → Z2 x1 S) → Z2 x1 S
set_option maxRecDepth 100000 in
set_option maxHeartbeats 4000000 in
theorem kp_X2_clearStrays_2B {K : xm_K} (h : Nat) (x1 : Int32) (S : xm_S) {g : xm_S → Prop} {Z2 : Int32 → xm_S → Prop} (C : xm_Cx K cX2_clearStrays RX2 2 none rm_X2_clearStrays) (N : xm_Nx K) (hg : ∀ S, g S → xm_q K none S) (hZ2 : ∀ x1 S, Z2 x1 S → xm_W K 0 0 2 [(0, xm_r (some h)), (1, xm_i x1)] [] S) (h1 : wp_X2_clearStrays_2B h x1 S g Z2) : xm_W K 0 0 2 [(0, xm_r (some h)), (1, xm_i x1)] [] S := by
  unfold wp_X2_clearStrays_2B at h1
  refine x_iload_n C 1 dX2_clearStrays_2 rfl rfl ?_
  refine x_bipush (v := (nI 16)) C dX2_clearStrays_3 (by decide) ?_
  refine x_icmp_ge (tgt := 33) C dX2_clearStrays_5 (by decide) (fun z9 => ?_) (fun z9 => ?_)
  · have h1 := h1.1 z9
    exact x_vret C (Nat.le_of_ble_eq_true rfl) (Nat.le_of_ble_eq_true rfl) rfl dX2_clearStrays_33 (hg _ h1)
  · have h1 := h1.2 z9
    refine x_aload_n C 0 dX2_clearStrays_8 rfl rfl ?_
    refine x_iload_n C 1 dX2_clearStrays_9 rfl rfl ?_
    obtain ⟨ht3, h1⟩ := h1
    refine x_callV (rm' := rm_X2_isStray) (n := h) C (kp_X2_isStray_met h1) lk_2 gw_36 gw_37 xv_2 rfl rfl ht3 rfl (Nat.le_of_ble_eq_true rfl) ⟨Nat.le_of_ble_eq_true rfl, Nat.le_of_ble_eq_true rfl, (Nat.le_of_ble_eq_true rfl), (Nat.le_of_ble_eq_true rfl)⟩ dX2_clearStrays_10 xm_kx (xm_ki (fun r5 S4 h1 => ?_))
    refine x_if_eq (tgt := 27) C dX2_clearStrays_13 (by decide) (fun z9 => ?_) (fun z9 => ?_)
    · have h1 := h1.1 z9
      exact kp_X2_clearStrays_27 h x1 S4 C N hg hZ2 h1
    · have h1 := h1.2 z9
      refine x_aload_n C 0 dX2_clearStrays_16 rfl rfl ?_
      obtain ⟨ht6, h1⟩ := h1
      refine x_getf_r (n := h) C rfl ht6 fd_16 (by decide) dX2_clearStrays_17 ?_
      refine x_iload_n C 1 dX2_clearStrays_20 rfl rfl ?_
      refine x_iconst (v := (-1 : Int32)) C dX2_clearStrays_21 (by decide) ?_
      refine x_iconst (v := (-1 : Int32)) C dX2_clearStrays_22 (by decide) ?_
      refine x_iconst (v := (-1 : Int32)) C dX2_clearStrays_23 (by decide) ?_
      obtain ⟨n7, hr8, h1⟩ := h1
      obtain ⟨ht9, h1⟩ := h1
      refine x_callV (rm' := rm_X3_put) (n := n7) C (kp_X3_put_met h1) lk_3 gw_40 gw_41 xv_3 rfl hr8 ht9 rfl (Nat.le_of_ble_eq_true rfl) ⟨Nat.le_of_ble_eq_true rfl, Nat.le_of_ble_eq_true rfl, (Nat.le_of_ble_eq_true rfl), (Nat.le_of_ble_eq_true rfl)⟩ dX2_clearStrays_24 xm_kx (xm_kv (fun S10 h1 => ?_))
      exact kp_X2_clearStrays_27 h x1 S10 C N hg hZ2 h1
theorem kp_X2_clearStrays_2 {K : xm_K} (h : Nat) (x1 : Int32) (S : xm_S) {g : xm_S → Prop} (C : xm_Cx K cX2_clearStrays RX2 2 none rm_X2_clearStrays) (N : xm_Nx K) (hg : ∀ S, g S → xm_q K none S)  (h1 : wp_X2_clearStrays_2 h x1 S g) : xm_W K 0 0 2 [(0, xm_r (some h)), (1, xm_i x1)] [] S :=
  h1 (fun x1 S => xm_W K 0 0 2 [(0, xm_r (some h)), (1, xm_i x1)] [] S) (fun x1 S hb => kp_X2_clearStrays_2B h x1 S C N hg (fun x1 S hz => hz) hb)
def wp_X2_clearStrays (h : Nat)  (S : xm_S) (g : xm_S → Prop) : Prop :=
  wp_X2_clearStrays_2 h (0 : Int32) S g
set_option maxRecDepth 100000 in
set_option maxHeartbeats 4000000 in
theorem kp_X2_clearStrays {K : xm_K} (h : Nat)  (S : xm_S) {g : xm_S → Prop} (C : xm_Cx K cX2_clearStrays RX2 2 none rm_X2_clearStrays) (N : xm_Nx K) (hg : ∀ S, g S → xm_q K none S)  (h1 : wp_X2_clearStrays h  S g) : xm_W K 0 0 0 [(0, xm_r (some h))] [] S := by
  unfold wp_X2_clearStrays at h1
  refine x_iconst (v := (0 : Int32)) C dX2_clearStrays_0 (by decide) ?_
  refine x_istore_n (L' := [(1, xm_i (0 : Int32)), (0, xm_r (some h))]) C dX2_clearStrays_1 rfl (by decide) rfl ?_
  refine x_keep (L' := [(0, xm_r (some h)), (1, xm_i (0 : Int32))]) C [1, 0] rfl ?_
  exact kp_X2_clearStrays_2 h (0 : Int32) S C N hg  h1
theorem kp_X2_clearStrays_met {h : Nat}  {S : xm_S} {g : xm_S → Prop}  (h1 : wp_X2_clearStrays h  S g) : xm_Met yX2_clearStrays cX2_clearStrays 2 none rm_X2_clearStrays [xm_r (some h)] S (xm_qv g) xm_nox :=
  xm_ofW RX2 (by decide +kernel) rfl (Nat.le_of_ble_eq_true rfl) (fun K C N hq hx hi => kp_X2_clearStrays h  S C N (fun S h => by rw [hq]; exact ⟨rfl, h⟩)  h1)
def rm_X2_countStrays : Room := { frames := 2, cells := 0, slots := 0, locals := 41 }
theorem dX2_countStrays_0 : decode cX2_countStrays 0 = .ok (.iconst 0, 1) := by decide +kernel
theorem dX2_countStrays_1 : decode cX2_countStrays 1 = .ok (.istore_n 1, 1) := by decide +kernel
theorem dX2_countStrays_2 : decode cX2_countStrays 2 = .ok (.iconst 0, 1) := by decide +kernel
theorem dX2_countStrays_3 : decode cX2_countStrays 3 = .ok (.istore_n 2, 1) := by decide +kernel
theorem dX2_countStrays_4 : decode cX2_countStrays 4 = .ok (.iload_n 2, 1) := by decide +kernel
theorem dX2_countStrays_5 : decode cX2_countStrays 5 = .ok (.bipush 16, 2) := by decide +kernel
theorem dX2_countStrays_7 : decode cX2_countStrays 7 = .ok (.if_icmp .ge 25, 3) := by decide +kernel
theorem dX2_countStrays_10 : decode cX2_countStrays 10 = .ok (.iload_n 1, 1) := by decide +kernel
theorem dX2_countStrays_11 : decode cX2_countStrays 11 = .ok (.aload_n 0, 1) := by decide +kernel
theorem dX2_countStrays_12 : decode cX2_countStrays 12 = .ok (.iload_n 2, 1) := by decide +kernel
theorem dX2_countStrays_13 : decode cX2_countStrays 13 = .ok (.invokevirtual 101, 3) := by decide +kernel
theorem dX2_countStrays_16 : decode cX2_countStrays 16 = .ok (.ifCond .eq 7, 3) := by decide +kernel
theorem dX2_countStrays_19 : decode cX2_countStrays 19 = .ok (.iconst 1, 1) := by decide +kernel
theorem dX2_countStrays_20 : decode cX2_countStrays 20 = .ok (.goto 4, 3) := by decide +kernel
theorem dX2_countStrays_23 : decode cX2_countStrays 23 = .ok (.iconst 0, 1) := by decide +kernel
theorem dX2_countStrays_24 : decode cX2_countStrays 24 = .ok (.iadd, 1) := by decide +kernel
theorem dX2_countStrays_25 : decode cX2_countStrays 25 = .ok (.istore_n 1, 1) := by decide +kernel
theorem dX2_countStrays_26 : decode cX2_countStrays 26 = .ok (.iinc 2 1, 3) := by decide +kernel
theorem dX2_countStrays_29 : decode cX2_countStrays 29 = .ok (.goto (-25), 3) := by decide +kernel
theorem dX2_countStrays_32 : decode cX2_countStrays 32 = .ok (.iload_n 1, 1) := by decide +kernel
theorem dX2_countStrays_33 : decode cX2_countStrays 33 = .ok (.ireturn, 1) := by decide +kernel
def wp_X2_countStrays_24 (h : Nat) (x2 : Int32) (s0 : Int32) (s1 : Int32) (S : xm_S) (g : Int32 → xm_S → Prop) (Z4 : Int32 → Int32 → xm_S → Prop) : Prop :=
  ∀ y1, y1 = (s1 + s0) → ∀ y3, y3 = (x2 + (1 : Int32)) → Z4 y1 y3 S
set_option maxRecDepth 100000 in
set_option maxHeartbeats 4000000 in
theorem kp_X2_countStrays_24 {K : xm_K} (h : Nat) (x2 : Int32) (s0 : Int32) (s1 : Int32) (S : xm_S) {g : Int32 → xm_S → Prop} {Z4 : Int32 → Int32 → xm_S → Prop} (C : xm_Cx K cX2_countStrays RX2 3 (some (FieldType.int)) rm_X2_countStrays) (N : xm_Nx K) (hg : ∀ v S, g v S → xm_q K (some (xm_i v)) S) (hZ4 : ∀ x1 x2 S, Z4 x1 x2 S → xm_W K 0 0 4 [(0, xm_r (some h)), (1, xm_i x1), (2, xm_i x2)] [] S) (h1 : wp_X2_countStrays_24 h x2 s0 s1 S g Z4) : xm_W K 0 0 24 [(0, xm_r (some h)), (2, xm_i x2)] [xm_i s0, xm_i s1] S := by
  unfold wp_X2_countStrays_24 at h1
  refine x_iadd C dX2_countStrays_24 ?_
  refine x_topi (fun y1 e2 => ?_)
  have h1 := h1 y1 e2
  refine x_istore_n (L' := [(1, xm_i y1), (0, xm_r (some h)), (2, xm_i x2)]) C dX2_countStrays_25 rfl (by decide) rfl ?_
  obtain ⟨y3, e4⟩ : ∃ y3, y3 = (x2 + (1 : Int32)) := ⟨_, rfl⟩
  have h1 := h1 y3 e4
  refine x_iinc (v := y3) (L' := [(2, xm_i y3), (1, xm_i y1), (0, xm_r (some h))]) C 2 dX2_countStrays_26 rfl (by rw [e4]; rfl) (by decide) rfl ?_
  refine x_goto (tgt := 4) C dX2_countStrays_29 (by decide) ?_
  refine x_keep (L' := [(0, xm_r (some h)), (1, xm_i y1), (2, xm_i y3)]) C [2, 1, 0] rfl ?_
  exact hZ4 y1 y3 S h1
def wp_X2_countStrays_4B (h : Nat) (x1 : Int32) (x2 : Int32) (S : xm_S) (g : Int32 → xm_S → Prop) (Z4 : Int32 → Int32 → xm_S → Prop) : Prop :=
  ((nI 16) ≤ x2 → g x1 S) ∧ (¬ (nI 16) ≤ x2 → st_t S h = some (2, 0) ∧ wp_X2_isStray h x2 S (fun r7 S6 => (r7 = 0 → wp_X2_countStrays_24 h x2 (0 : Int32) x1 S6 g Z4) ∧ (¬ r7 = 0 → wp_X2_countStrays_24 h x2 (1 : Int32) x1 S6 g Z4)))
def wp_X2_countStrays_4 (h : Nat) (x1 : Int32) (x2 : Int32) (S : xm_S) (g : Int32 → xm_S → Prop) : Prop :=
  ∀ Z4 : Int32 → Int32 → xm_S → Prop, (∀ x1 x2 S, wp_X2_countStrays_4B h x1 x2 S g Z4 → Z4 x1 x2 S) → Z4 x1 x2 S
set_option maxRecDepth 100000 in
set_option maxHeartbeats 4000000 in
theorem kp_X2_countStrays_4B {K : xm_K} (h : Nat) (x1 : Int32) (x2 : Int32) (S : xm_S) {g : Int32 → xm_S → Prop} {Z4 : Int32 → Int32 → xm_S → Prop} (C : xm_Cx K cX2_countStrays RX2 3 (some (FieldType.int)) rm_X2_countStrays) (N : xm_Nx K) (hg : ∀ v S, g v S → xm_q K (some (xm_i v)) S) (hZ4 : ∀ x1 x2 S, Z4 x1 x2 S → xm_W K 0 0 4 [(0, xm_r (some h)), (1, xm_i x1), (2, xm_i x2)] [] S) (h1 : wp_X2_countStrays_4B h x1 x2 S g Z4) : xm_W K 0 0 4 [(0, xm_r (some h)), (1, xm_i x1), (2, xm_i x2)] [] S := by
  unfold wp_X2_countStrays_4B at h1
  refine x_iload_n C 2 dX2_countStrays_4 rfl rfl ?_
  refine x_bipush (v := (nI 16)) C dX2_countStrays_5 (by decide) ?_
  refine x_icmp_ge (tgt := 32) C dX2_countStrays_7 (by decide) (fun z9 => ?_) (fun z9 => ?_)
  · have h1 := h1.1 z9
    refine x_iload_n C 1 dX2_countStrays_32 rfl rfl ?_
    exact x_iret C (Nat.le_of_ble_eq_true rfl) (Nat.le_of_ble_eq_true rfl) rfl dX2_countStrays_33 (hg _ _ h1)
  · have h1 := h1.2 z9
    refine x_iload_n C 1 dX2_countStrays_10 rfl rfl ?_
    refine x_aload_n C 0 dX2_countStrays_11 rfl rfl ?_
    refine x_iload_n C 2 dX2_countStrays_12 rfl rfl ?_
    obtain ⟨ht5, h1⟩ := h1
    refine x_callV (rm' := rm_X2_isStray) (n := h) C (kp_X2_isStray_met h1) lk_2 gw_36 gw_37 xv_2 rfl rfl ht5 rfl (Nat.le_of_ble_eq_true rfl) ⟨Nat.le_of_ble_eq_true rfl, Nat.le_of_ble_eq_true rfl, (Nat.le_of_ble_eq_true rfl), (Nat.le_of_ble_eq_true rfl)⟩ dX2_countStrays_13 xm_kx (xm_ki (fun r7 S6 h1 => ?_))
    refine x_if_eq (tgt := 23) C dX2_countStrays_16 (by decide) (fun z9 => ?_) (fun z9 => ?_)
    · have h1 := h1.1 z9
      refine x_iconst (v := (0 : Int32)) C dX2_countStrays_23 (by decide) ?_
      refine x_keep (L' := [(0, xm_r (some h)), (2, xm_i x2)]) C [0, 2] rfl ?_
      exact kp_X2_countStrays_24 h x2 (0 : Int32) x1 S6 C N hg hZ4 h1
    · have h1 := h1.2 z9
      refine x_iconst (v := (1 : Int32)) C dX2_countStrays_19 (by decide) ?_
      refine x_goto (tgt := 24) C dX2_countStrays_20 (by decide) ?_
      refine x_keep (L' := [(0, xm_r (some h)), (2, xm_i x2)]) C [0, 2] rfl ?_
      exact kp_X2_countStrays_24 h x2 (1 : Int32) x1 S6 C N hg hZ4 h1
theorem kp_X2_countStrays_4 {K : xm_K} (h : Nat) (x1 : Int32) (x2 : Int32) (S : xm_S) {g : Int32 → xm_S → Prop} (C : xm_Cx K cX2_countStrays RX2 3 (some (FieldType.int)) rm_X2_countStrays) (N : xm_Nx K) (hg : ∀ v S, g v S → xm_q K (some (xm_i v)) S)  (h1 : wp_X2_countStrays_4 h x1 x2 S g) : xm_W K 0 0 4 [(0, xm_r (some h)), (1, xm_i x1), (2, xm_i x2)] [] S :=
  h1 (fun x1 x2 S => xm_W K 0 0 4 [(0, xm_r (some h)), (1, xm_i x1), (2, xm_i x2)] [] S) (fun x1 x2 S hb => kp_X2_countStrays_4B h x1 x2 S C N hg (fun x1 x2 S hz => hz) hb)
def wp_X2_countStrays (h : Nat)  (S : xm_S) (g : Int32 → xm_S → Prop) : Prop :=
  wp_X2_countStrays_4 h (0 : Int32) (0 : Int32) S g
set_option maxRecDepth 100000 in
set_option maxHeartbeats 4000000 in
theorem kp_X2_countStrays {K : xm_K} (h : Nat)  (S : xm_S) {g : Int32 → xm_S → Prop} (C : xm_Cx K cX2_countStrays RX2 3 (some (FieldType.int)) rm_X2_countStrays) (N : xm_Nx K) (hg : ∀ v S, g v S → xm_q K (some (xm_i v)) S)  (h1 : wp_X2_countStrays h  S g) : xm_W K 0 0 0 [(0, xm_r (some h))] [] S := by
  unfold wp_X2_countStrays at h1
  refine x_iconst (v := (0 : Int32)) C dX2_countStrays_0 (by decide) ?_
  refine x_istore_n (L' := [(1, xm_i (0 : Int32)), (0, xm_r (some h))]) C dX2_countStrays_1 rfl (by decide) rfl ?_
  refine x_iconst (v := (0 : Int32)) C dX2_countStrays_2 (by decide) ?_
  refine x_istore_n (L' := [(2, xm_i (0 : Int32)), (1, xm_i (0 : Int32)), (0, xm_r (some h))]) C dX2_countStrays_3 rfl (by decide) rfl ?_
  refine x_keep (L' := [(0, xm_r (some h)), (1, xm_i (0 : Int32)), (2, xm_i (0 : Int32))]) C [2, 1, 0] rfl ?_
  exact kp_X2_countStrays_4 h (0 : Int32) (0 : Int32) S C N hg  h1
theorem kp_X2_countStrays_met {h : Nat}  {S : xm_S} {g : Int32 → xm_S → Prop}  (h1 : wp_X2_countStrays h  S g) : xm_Met yX2_countStrays cX2_countStrays 3 (some (FieldType.int)) rm_X2_countStrays [xm_r (some h)] S (xm_qi g) xm_nox :=
  xm_ofW RX2 (by decide +kernel) rfl (Nat.le_of_ble_eq_true rfl) (fun K C N hq hx hi => kp_X2_countStrays h  S C N (fun v S h => by rw [hq]; exact ⟨v, rfl, h⟩)  h1)
def rm_X2_drop : Room := { frames := 1, cells := 0, slots := 0, locals := 20 }
theorem dX2_drop_0 : decode cX2_drop 0 = .ok (.iload_n 1, 1) := by decide +kernel
theorem dX2_drop_1 : decode cX2_drop 1 = .ok (.ifCond .lt 11, 3) := by decide +kernel
theorem dX2_drop_4 : decode cX2_drop 4 = .ok (.iload_n 1, 1) := by decide +kernel
theorem dX2_drop_5 : decode cX2_drop 5 = .ok (.aload_n 0, 1) := by decide +kernel
theorem dX2_drop_6 : decode cX2_drop 6 = .ok (.getfield 24, 3) := by decide +kernel
theorem dX2_drop_9 : decode cX2_drop 9 = .ok (.if_icmp .lt 4, 3) := by decide +kernel
theorem dX2_drop_12 : decode cX2_drop 12 = .ok (.return_, 1) := by decide +kernel
theorem dX2_drop_13 : decode cX2_drop 13 = .ok (.aload_n 0, 1) := by decide +kernel
theorem dX2_drop_14 : decode cX2_drop 14 = .ok (.getfield 20, 3) := by decide +kernel
theorem dX2_drop_17 : decode cX2_drop 17 = .ok (.iload_n 1, 1) := by decide +kernel
theorem dX2_drop_18 : decode cX2_drop 18 = .ok (.aaload, 1) := by decide +kernel
theorem dX2_drop_19 : decode cX2_drop 19 = .ok (.astore_n 2, 1) := by decide +kernel
theorem dX2_drop_20 : decode cX2_drop 20 = .ok (.iload_n 1, 1) := by decide +kernel
theorem dX2_drop_21 : decode cX2_drop 21 = .ok (.istore_n 3, 1) := by decide +kernel
theorem dX2_drop_22 : decode cX2_drop 22 = .ok (.iload_n 3, 1) := by decide +kernel
theorem dX2_drop_23 : decode cX2_drop 23 = .ok (.iconst 1, 1) := by decide +kernel
theorem dX2_drop_24 : decode cX2_drop 24 = .ok (.iadd, 1) := by decide +kernel
theorem dX2_drop_25 : decode cX2_drop 25 = .ok (.aload_n 0, 1) := by decide +kernel
theorem dX2_drop_26 : decode cX2_drop 26 = .ok (.getfield 24, 3) := by decide +kernel
theorem dX2_drop_29 : decode cX2_drop 29 = .ok (.if_icmp .ge 23, 3) := by decide +kernel
theorem dX2_drop_32 : decode cX2_drop 32 = .ok (.aload_n 0, 1) := by decide +kernel
theorem dX2_drop_33 : decode cX2_drop 33 = .ok (.getfield 20, 3) := by decide +kernel
theorem dX2_drop_36 : decode cX2_drop 36 = .ok (.iload_n 3, 1) := by decide +kernel
theorem dX2_drop_37 : decode cX2_drop 37 = .ok (.aload_n 0, 1) := by decide +kernel
theorem dX2_drop_38 : decode cX2_drop 38 = .ok (.getfield 20, 3) := by decide +kernel
theorem dX2_drop_41 : decode cX2_drop 41 = .ok (.iload_n 3, 1) := by decide +kernel
theorem dX2_drop_42 : decode cX2_drop 42 = .ok (.iconst 1, 1) := by decide +kernel
theorem dX2_drop_43 : decode cX2_drop 43 = .ok (.iadd, 1) := by decide +kernel
theorem dX2_drop_44 : decode cX2_drop 44 = .ok (.aaload, 1) := by decide +kernel
theorem dX2_drop_45 : decode cX2_drop 45 = .ok (.aastore, 1) := by decide +kernel
theorem dX2_drop_46 : decode cX2_drop 46 = .ok (.iinc 3 1, 3) := by decide +kernel
theorem dX2_drop_49 : decode cX2_drop 49 = .ok (.goto (-27), 3) := by decide +kernel
theorem dX2_drop_52 : decode cX2_drop 52 = .ok (.aload_n 0, 1) := by decide +kernel
theorem dX2_drop_53 : decode cX2_drop 53 = .ok (.dup, 1) := by decide +kernel
theorem dX2_drop_54 : decode cX2_drop 54 = .ok (.getfield 24, 3) := by decide +kernel
theorem dX2_drop_57 : decode cX2_drop 57 = .ok (.iconst 1, 1) := by decide +kernel
theorem dX2_drop_58 : decode cX2_drop 58 = .ok (.isub, 1) := by decide +kernel
theorem dX2_drop_59 : decode cX2_drop 59 = .ok (.putfield 24, 3) := by decide +kernel
theorem dX2_drop_62 : decode cX2_drop 62 = .ok (.aload_n 0, 1) := by decide +kernel
theorem dX2_drop_63 : decode cX2_drop 63 = .ok (.getfield 20, 3) := by decide +kernel
theorem dX2_drop_66 : decode cX2_drop 66 = .ok (.aload_n 0, 1) := by decide +kernel
theorem dX2_drop_67 : decode cX2_drop 67 = .ok (.getfield 24, 3) := by decide +kernel
theorem dX2_drop_70 : decode cX2_drop 70 = .ok (.aload_n 2, 1) := by decide +kernel
theorem dX2_drop_71 : decode cX2_drop 71 = .ok (.aastore, 1) := by decide +kernel
theorem dX2_drop_72 : decode cX2_drop 72 = .ok (.return_, 1) := by decide +kernel
def wp_X2_drop_12 (h : Nat)  (S : xm_S) (g : xm_S → Prop) : Prop :=
  g S
set_option maxRecDepth 100000 in
set_option maxHeartbeats 4000000 in
theorem kp_X2_drop_12 {K : xm_K} (h : Nat)  (S : xm_S) {g : xm_S → Prop} (C : xm_Cx K cX2_drop RX2 4 none rm_X2_drop) (N : xm_Nx K) (hg : ∀ S, g S → xm_q K none S)  (h1 : wp_X2_drop_12 h  S g) : xm_W K 0 0 12 [] [] S := by
  unfold wp_X2_drop_12 at h1
  exact x_vret C (Nat.le_of_ble_eq_true rfl) (Nat.le_of_ble_eq_true rfl) rfl dX2_drop_12 (hg _ h1)
def wp_X2_drop_22B (h : Nat) (x2 : Option Nat) (x3 : Int32) (S : xm_S) (g : xm_S → Prop) (Z22 : Option Nat → Int32 → xm_S → Prop) : Prop :=
  st_t S h = some (2, 0) ∧ ((st_i S h 2) ≤ (x3 + (1 : Int32)) → ∀ S2, S2 = st_pi S h 2 ((st_i S h 2) - (1 : Int32)) → ∃ n4, (st_r S2 h 1) = some n4 ∧ ∃ z7, st_t S2 n4 = some (111, z7) ∧ vp_in (st_i S2 h 2) z7 ∧ (∀ v9, x2 = some v9 → st_t S2 v9 = some (1, 0)) ∧ ∀ S10, S10 = st_pr S2 n4 ((st_i S2 h 2)).toNatClampNeg x2 → g S10) ∧ (¬ (st_i S h 2) ≤ (x3 + (1 : Int32)) → ∃ n12, (st_r S h 1) = some n12 ∧ ∃ z15, st_t S n12 = some (111, z15) ∧ vp_in (x3 + (1 : Int32)) z15 ∧ ∃ n17, (st_r S h 1) = some n17 ∧ ∃ z20, st_t S n17 = some (111, z20) ∧ vp_in x3 z20 ∧ (∀ v9, (st_r S n12 ((x3 + (1 : Int32))).toNatClampNeg) = some v9 → st_t S v9 = some (1, 0)) ∧ ∀ S23, S23 = st_pr S n17 (x3).toNatClampNeg (st_r S n12 ((x3 + (1 : Int32))).toNatClampNeg) → ∀ y25, y25 = (x3 + (1 : Int32)) → Z22 x2 y25 S23)
def wp_X2_drop_22 (h : Nat) (x2 : Option Nat) (x3 : Int32) (S : xm_S) (g : xm_S → Prop) : Prop :=
  ∀ Z22 : Option Nat → Int32 → xm_S → Prop, (∀ x2 x3 S, wp_X2_drop_22B h x2 x3 S g Z22 → Z22 x2 x3 S) → Z22 x2 x3 S
set_option maxRecDepth 100000 in
set_option maxHeartbeats 4000000 in
theorem kp_X2_drop_22B {K : xm_K} (h : Nat) (x2 : Option Nat) (x3 : Int32) (S : xm_S) {g : xm_S → Prop} {Z22 : Option Nat → Int32 → xm_S → Prop} (C : xm_Cx K cX2_drop RX2 4 none rm_X2_drop) (N : xm_Nx K) (hg : ∀ S, g S → xm_q K none S) (hZ22 : ∀ x2 x3 S, Z22 x2 x3 S → xm_W K 0 0 22 [(0, xm_r (some h)), (2, xm_r x2), (3, xm_i x3)] [] S) (h1 : wp_X2_drop_22B h x2 x3 S g Z22) : xm_W K 0 0 22 [(0, xm_r (some h)), (2, xm_r x2), (3, xm_i x3)] [] S := by
  unfold wp_X2_drop_22B at h1
  refine x_iload_n C 2 dX2_drop_22 rfl rfl ?_
  refine x_iconst (v := (1 : Int32)) C dX2_drop_23 (by decide) ?_
  refine x_iadd C dX2_drop_24 ?_
  refine x_aload_n C 0 dX2_drop_25 rfl rfl ?_
  obtain ⟨ht1, h1⟩ := h1
  refine x_getf_i (n := h) C rfl ht1 fd_18 (by decide) dX2_drop_26 ?_
  refine x_icmp_ge (tgt := 52) C dX2_drop_29 (by decide) (fun z9 => ?_) (fun z9 => ?_)
  · have h1 := h1.1 z9
    refine x_aload_n C 0 dX2_drop_52 rfl rfl ?_
    refine x_dup_r C dX2_drop_53 ?_
    refine x_getf_i (n := h) C rfl ht1 fd_18 (by decide) dX2_drop_54 ?_
    refine x_iconst (v := (1 : Int32)) C dX2_drop_57 (by decide) ?_
    refine x_isub C dX2_drop_58 ?_
    refine x_putf_i (n := h) C rfl ht1 fd_18 xc_2 (by decide) rfl ⟨rfl, rfl⟩ dX2_drop_59 ?_
    refine x_topS (fun S2 e3 => ?_)
    have h1 := h1 S2 e3
    refine x_aload_n C 0 dX2_drop_62 rfl rfl ?_
    refine x_getf_r (n := h) C rfl (tk_p e3 ht1) fd_19 (by decide) dX2_drop_63 ?_
    refine x_aload_n C 0 dX2_drop_66 rfl rfl ?_
    refine x_getf_i (n := h) C rfl (tk_p e3 ht1) fd_18 (by decide) dX2_drop_67 ?_
    refine x_aload_n C 1 dX2_drop_70 rfl rfl ?_
    obtain ⟨n4, hr5, h1⟩ := h1
    obtain ⟨z7, ht6, h1⟩ := h1
    obtain ⟨hi8, h1⟩ := h1
    obtain ⟨hv9, h1⟩ := h1
    refine x_aast (n := n4) (ci := 1) C hr5 (by decide) rfl rfl ht6 hi8 hv9 dX2_drop_71 ?_
    refine x_topS (fun S10 e11 => ?_)
    have h1 := h1 S10 e11
    exact x_vret C (Nat.le_of_ble_eq_true rfl) (Nat.le_of_ble_eq_true rfl) rfl dX2_drop_72 (hg _ h1)
  · have h1 := h1.2 z9
    refine x_aload_n C 0 dX2_drop_32 rfl rfl ?_
    refine x_getf_r (n := h) C rfl ht1 fd_19 (by decide) dX2_drop_33 ?_
    refine x_iload_n C 2 dX2_drop_36 rfl rfl ?_
    refine x_aload_n C 0 dX2_drop_37 rfl rfl ?_
    refine x_getf_r (n := h) C rfl ht1 fd_19 (by decide) dX2_drop_38 ?_
    refine x_iload_n C 2 dX2_drop_41 rfl rfl ?_
    refine x_iconst (v := (1 : Int32)) C dX2_drop_42 (by decide) ?_
    refine x_iadd C dX2_drop_43 ?_
    obtain ⟨n12, hr13, h1⟩ := h1
    obtain ⟨z15, ht14, h1⟩ := h1
    obtain ⟨hi16, h1⟩ := h1
    refine x_aald (n := n12) C hr13 (by decide) rfl ht14 hi16 dX2_drop_44 ?_
    obtain ⟨n17, hr18, h1⟩ := h1
    obtain ⟨z20, ht19, h1⟩ := h1
    obtain ⟨hi21, h1⟩ := h1
    obtain ⟨hv22, h1⟩ := h1
    refine x_aast (n := n17) (ci := 1) C hr18 (by decide) rfl rfl ht19 hi21 hv22 dX2_drop_45 ?_
    refine x_topS (fun S23 e24 => ?_)
    have h1 := h1 S23 e24
    obtain ⟨y25, e26⟩ : ∃ y25, y25 = (x3 + (1 : Int32)) := ⟨_, rfl⟩
    have h1 := h1 y25 e26
    refine x_iinc (v := y25) (L' := [(3, xm_i y25), (0, xm_r (some h)), (2, xm_r x2)]) C 2 dX2_drop_46 rfl (by rw [e26]; rfl) (by decide) rfl ?_
    refine x_goto (tgt := 22) C dX2_drop_49 (by decide) ?_
    refine x_keep (L' := [(0, xm_r (some h)), (2, xm_r x2), (3, xm_i y25)]) C [1, 2, 0] rfl ?_
    exact hZ22 x2 y25 S23 h1
theorem kp_X2_drop_22 {K : xm_K} (h : Nat) (x2 : Option Nat) (x3 : Int32) (S : xm_S) {g : xm_S → Prop} (C : xm_Cx K cX2_drop RX2 4 none rm_X2_drop) (N : xm_Nx K) (hg : ∀ S, g S → xm_q K none S)  (h1 : wp_X2_drop_22 h x2 x3 S g) : xm_W K 0 0 22 [(0, xm_r (some h)), (2, xm_r x2), (3, xm_i x3)] [] S :=
  h1 (fun x2 x3 S => xm_W K 0 0 22 [(0, xm_r (some h)), (2, xm_r x2), (3, xm_i x3)] [] S) (fun x2 x3 S hb => kp_X2_drop_22B h x2 x3 S C N hg (fun x2 x3 S hz => hz) hb)
def wp_X2_drop (h : Nat) (x1 : Int32) (S : xm_S) (g : xm_S → Prop) : Prop :=
  (x1 < 0 → wp_X2_drop_12 h S g) ∧ (¬ x1 < 0 → st_t S h = some (2, 0) ∧ (x1 < (st_i S h 2) → ∃ n28, (st_r S h 1) = some n28 ∧ ∃ z31, st_t S n28 = some (111, z31) ∧ vp_in x1 z31 ∧ wp_X2_drop_22 h (st_r S n28 (x1).toNatClampNeg) x1 S g) ∧ (¬ x1 < (st_i S h 2) → wp_X2_drop_12 h S g))
set_option maxRecDepth 100000 in
set_option maxHeartbeats 4000000 in
theorem kp_X2_drop {K : xm_K} (h : Nat) (x1 : Int32) (S : xm_S) {g : xm_S → Prop} (C : xm_Cx K cX2_drop RX2 4 none rm_X2_drop) (N : xm_Nx K) (hg : ∀ S, g S → xm_q K none S)  (h1 : wp_X2_drop h x1 S g) : xm_W K 0 0 0 [(0, xm_r (some h)), (1, xm_i x1)] [] S := by
  unfold wp_X2_drop at h1
  refine x_iload_n C 1 dX2_drop_0 rfl rfl ?_
  refine x_if_lt (tgt := 12) C dX2_drop_1 (by decide) (fun z9 => ?_) (fun z9 => ?_)
  · have h1 := h1.1 z9
    refine x_keep (L' := []) C [] rfl ?_
    exact kp_X2_drop_12 h S C N hg  h1
  · have h1 := h1.2 z9
    refine x_iload_n C 1 dX2_drop_4 rfl rfl ?_
    refine x_aload_n C 0 dX2_drop_5 rfl rfl ?_
    obtain ⟨ht27, h1⟩ := h1
    refine x_getf_i (n := h) C rfl ht27 fd_18 (by decide) dX2_drop_6 ?_
    refine x_icmp_lt (tgt := 13) C dX2_drop_9 (by decide) (fun z9 => ?_) (fun z9 => ?_)
    · have h1 := h1.1 z9
      refine x_aload_n C 0 dX2_drop_13 rfl rfl ?_
      refine x_getf_r (n := h) C rfl ht27 fd_19 (by decide) dX2_drop_14 ?_
      refine x_iload_n C 1 dX2_drop_17 rfl rfl ?_
      obtain ⟨n28, hr29, h1⟩ := h1
      obtain ⟨z31, ht30, h1⟩ := h1
      obtain ⟨hi32, h1⟩ := h1
      refine x_aald (n := n28) C hr29 (by decide) rfl ht30 hi32 dX2_drop_18 ?_
      refine x_astore_n (L' := [(2, xm_r (st_r S n28 (x1).toNatClampNeg)), (0, xm_r (some h)), (1, xm_i x1)]) C dX2_drop_19 rfl (by decide) rfl ?_
      refine x_iload_n C 2 dX2_drop_20 rfl rfl ?_
      refine x_istore_n (L' := [(3, xm_i x1), (2, xm_r (st_r S n28 (x1).toNatClampNeg)), (0, xm_r (some h)), (1, xm_i x1)]) C dX2_drop_21 rfl (by decide) rfl ?_
      refine x_keep (L' := [(0, xm_r (some h)), (2, xm_r (st_r S n28 (x1).toNatClampNeg)), (3, xm_i x1)]) C [2, 1, 0] rfl ?_
      exact kp_X2_drop_22 h (st_r S n28 (x1).toNatClampNeg) x1 S C N hg  h1
    · have h1 := h1.2 z9
      refine x_keep (L' := []) C [] rfl ?_
      exact kp_X2_drop_12 h S C N hg  h1
theorem kp_X2_drop_met {h : Nat} {x1 : Int32} {S : xm_S} {g : xm_S → Prop}  (h1 : wp_X2_drop h x1 S g) : xm_Met yX2_drop cX2_drop 4 none rm_X2_drop [xm_r (some h), xm_i x1] S (xm_qv g) xm_nox :=
  xm_ofW RX2 (by decide +kernel) rfl (Nat.le_of_ble_eq_true rfl) (fun K C N hq hx hi => kp_X2_drop h x1 S C N (fun S h => by rw [hq]; exact ⟨rfl, h⟩)  h1)
def rm_X2_canGo : Room := { frames := 1, cells := 0, slots := 0, locals := 20 }
theorem dX2_canGo_0 : decode cX2_canGo 0 = .ok (.aload_n 0, 1) := by decide +kernel
theorem dX2_canGo_1 : decode cX2_canGo 1 = .ok (.getfield 20, 3) := by decide +kernel
theorem dX2_canGo_4 : decode cX2_canGo 4 = .ok (.iload_n 1, 1) := by decide +kernel
theorem dX2_canGo_5 : decode cX2_canGo 5 = .ok (.aaload, 1) := by decide +kernel
theorem dX2_canGo_6 : decode cX2_canGo 6 = .ok (.getfield 128, 3) := by decide +kernel
theorem dX2_canGo_9 : decode cX2_canGo 9 = .ok (.ifCond .ne 23, 3) := by decide +kernel
theorem dX2_canGo_12 : decode cX2_canGo 12 = .ok (.aload_n 0, 1) := by decide +kernel
theorem dX2_canGo_13 : decode cX2_canGo 13 = .ok (.getfield 20, 3) := by decide +kernel
theorem dX2_canGo_16 : decode cX2_canGo 16 = .ok (.iload_n 1, 1) := by decide +kernel
theorem dX2_canGo_17 : decode cX2_canGo 17 = .ok (.aaload, 1) := by decide +kernel
theorem dX2_canGo_18 : decode cX2_canGo 18 = .ok (.getfield 125, 3) := by decide +kernel
theorem dX2_canGo_21 : decode cX2_canGo 21 = .ok (.aload_n 0, 1) := by decide +kernel
theorem dX2_canGo_22 : decode cX2_canGo 22 = .ok (.getfield 28, 3) := by decide +kernel
theorem dX2_canGo_25 : decode cX2_canGo 25 = .ok (.if_icmp .eq 7, 3) := by decide +kernel
theorem dX2_canGo_28 : decode cX2_canGo 28 = .ok (.iconst 1, 1) := by decide +kernel
theorem dX2_canGo_29 : decode cX2_canGo 29 = .ok (.goto 4, 3) := by decide +kernel
theorem dX2_canGo_32 : decode cX2_canGo 32 = .ok (.iconst 0, 1) := by decide +kernel
theorem dX2_canGo_33 : decode cX2_canGo 33 = .ok (.ireturn, 1) := by decide +kernel
def wp_X2_canGo_33 (h : Nat) (s0 : Int32) (S : xm_S) (g : Int32 → xm_S → Prop) : Prop :=
  (s0 = 0 ∨ s0 = 1) ∧ g s0 S
set_option maxRecDepth 100000 in
set_option maxHeartbeats 4000000 in
theorem kp_X2_canGo_33 {K : xm_K} (h : Nat) (s0 : Int32) (S : xm_S) {g : Int32 → xm_S → Prop} (C : xm_Cx K cX2_canGo RX2 2 (some (FieldType.boolean)) rm_X2_canGo) (N : xm_Nx K) (hg : ∀ v S, g v S → xm_q K (some (xm_i v)) S)  (h1 : wp_X2_canGo_33 h s0 S g) : xm_W K 0 0 33 [] [xm_i s0] S := by
  unfold wp_X2_canGo_33 at h1
  exact x_zret C (Nat.le_of_ble_eq_true rfl) (Nat.le_of_ble_eq_true rfl) rfl h1.1 dX2_canGo_33 (hg _ _ h1.2)
def wp_X2_canGo_32 (h : Nat)  (S : xm_S) (g : Int32 → xm_S → Prop) : Prop :=
  wp_X2_canGo_33 h (0 : Int32) S g
set_option maxRecDepth 100000 in
set_option maxHeartbeats 4000000 in
theorem kp_X2_canGo_32 {K : xm_K} (h : Nat)  (S : xm_S) {g : Int32 → xm_S → Prop} (C : xm_Cx K cX2_canGo RX2 2 (some (FieldType.boolean)) rm_X2_canGo) (N : xm_Nx K) (hg : ∀ v S, g v S → xm_q K (some (xm_i v)) S)  (h1 : wp_X2_canGo_32 h  S g) : xm_W K 0 0 32 [] [] S := by
  unfold wp_X2_canGo_32 at h1
  refine x_iconst (v := (0 : Int32)) C dX2_canGo_32 (by decide) ?_
  exact kp_X2_canGo_33 h (0 : Int32) S C N hg  h1
def wp_X2_canGo (h : Nat) (x1 : Int32) (S : xm_S) (g : Int32 → xm_S → Prop) : Prop :=
  st_t S h = some (2, 0) ∧ ∃ n2, (st_r S h 1) = some n2 ∧ ∃ z5, st_t S n2 = some (111, z5) ∧ vp_in x1 z5 ∧ ∃ n7, (st_r S n2 (x1).toNatClampNeg) = some n7 ∧ st_t S n7 = some (1, 0) ∧ (¬ (st_i S n7 1) = 0 → wp_X2_canGo_32 h S g) ∧ ((st_i S n7 1) = 0 → ∃ n10, (st_r S h 1) = some n10 ∧ ∃ z13, st_t S n10 = some (111, z13) ∧ vp_in x1 z13 ∧ ∃ n15, (st_r S n10 (x1).toNatClampNeg) = some n15 ∧ st_t S n15 = some (1, 0) ∧ ((st_i S n15 0) = (st_i S h 3) → wp_X2_canGo_32 h S g) ∧ (¬ (st_i S n15 0) = (st_i S h 3) → wp_X2_canGo_33 h (1 : Int32) S g))
set_option maxRecDepth 100000 in
set_option maxHeartbeats 4000000 in
theorem kp_X2_canGo {K : xm_K} (h : Nat) (x1 : Int32) (S : xm_S) {g : Int32 → xm_S → Prop} (C : xm_Cx K cX2_canGo RX2 2 (some (FieldType.boolean)) rm_X2_canGo) (N : xm_Nx K) (hg : ∀ v S, g v S → xm_q K (some (xm_i v)) S)  (h1 : wp_X2_canGo h x1 S g) : xm_W K 0 0 0 [(0, xm_r (some h)), (1, xm_i x1)] [] S := by
  unfold wp_X2_canGo at h1
  refine x_aload_n C 0 dX2_canGo_0 rfl rfl ?_
  obtain ⟨ht1, h1⟩ := h1
  refine x_getf_r (n := h) C rfl ht1 fd_19 (by decide) dX2_canGo_1 ?_
  refine x_iload_n C 1 dX2_canGo_4 rfl rfl ?_
  obtain ⟨n2, hr3, h1⟩ := h1
  obtain ⟨z5, ht4, h1⟩ := h1
  obtain ⟨hi6, h1⟩ := h1
  refine x_aald (n := n2) C hr3 (by decide) rfl ht4 hi6 dX2_canGo_5 ?_
  obtain ⟨n7, hr8, h1⟩ := h1
  obtain ⟨ht9, h1⟩ := h1
  refine x_getf_i (n := n7) C hr8 ht9 fd_20 (by decide) dX2_canGo_6 ?_
  refine x_if_ne (tgt := 32) C dX2_canGo_9 (by decide) (fun z9 => ?_) (fun z9 => ?_)
  · have h1 := h1.1 z9
    refine x_keep (L' := []) C [] rfl ?_
    exact kp_X2_canGo_32 h S C N hg  h1
  · have h1 := h1.2 z9
    refine x_aload_n C 0 dX2_canGo_12 rfl rfl ?_
    refine x_getf_r (n := h) C rfl ht1 fd_19 (by decide) dX2_canGo_13 ?_
    refine x_iload_n C 1 dX2_canGo_16 rfl rfl ?_
    obtain ⟨n10, hr11, h1⟩ := h1
    obtain ⟨z13, ht12, h1⟩ := h1
    obtain ⟨hi14, h1⟩ := h1
    refine x_aald (n := n10) C hr11 (by decide) rfl ht12 hi14 dX2_canGo_17 ?_
    obtain ⟨n15, hr16, h1⟩ := h1
    obtain ⟨ht17, h1⟩ := h1
    refine x_getf_i (n := n15) C hr16 ht17 fd_21 (by decide) dX2_canGo_18 ?_
    refine x_aload_n C 0 dX2_canGo_21 rfl rfl ?_
    refine x_getf_i (n := h) C rfl ht1 fd_22 (by decide) dX2_canGo_22 ?_
    refine x_icmp_eq (tgt := 32) C dX2_canGo_25 (by decide) (fun z9 => ?_) (fun z9 => ?_)
    · have h1 := h1.1 z9
      refine x_keep (L' := []) C [] rfl ?_
      exact kp_X2_canGo_32 h S C N hg  h1
    · have h1 := h1.2 z9
      refine x_iconst (v := (1 : Int32)) C dX2_canGo_28 (by decide) ?_
      refine x_goto (tgt := 33) C dX2_canGo_29 (by decide) ?_
      refine x_keep (L' := []) C [] rfl ?_
      exact kp_X2_canGo_33 h (1 : Int32) S C N hg  h1
theorem kp_X2_canGo_met {h : Nat} {x1 : Int32} {S : xm_S} {g : Int32 → xm_S → Prop}  (h1 : wp_X2_canGo h x1 S g) : xm_Met yX2_canGo cX2_canGo 2 (some (FieldType.boolean)) rm_X2_canGo [xm_r (some h), xm_i x1] S (xm_qi g) xm_nox :=
  xm_ofW RX2 (by decide +kernel) rfl (Nat.le_of_ble_eq_true rfl) (fun K C N hq hx hi => kp_X2_canGo h x1 S C N (fun v S h => by rw [hq]; exact ⟨v, rfl, h⟩)  h1)
def rm_X2_leastToGo : Room := { frames := 2, cells := 0, slots := 0, locals := 41 }
theorem dX2_leastToGo_0 : decode cX2_leastToGo 0 = .ok (.iconst 0, 1) := by decide +kernel
theorem dX2_leastToGo_1 : decode cX2_leastToGo 1 = .ok (.istore_n 1, 1) := by decide +kernel
theorem dX2_leastToGo_2 : decode cX2_leastToGo 2 = .ok (.iload_n 1, 1) := by decide +kernel
theorem dX2_leastToGo_3 : decode cX2_leastToGo 3 = .ok (.aload_n 0, 1) := by decide +kernel
theorem dX2_leastToGo_4 : decode cX2_leastToGo 4 = .ok (.getfield 24, 3) := by decide +kernel
theorem dX2_leastToGo_7 : decode cX2_leastToGo 7 = .ok (.if_icmp .ge 19, 3) := by decide +kernel
theorem dX2_leastToGo_10 : decode cX2_leastToGo 10 = .ok (.aload_n 0, 1) := by decide +kernel
theorem dX2_leastToGo_11 : decode cX2_leastToGo 11 = .ok (.iload_n 1, 1) := by decide +kernel
theorem dX2_leastToGo_12 : decode cX2_leastToGo 12 = .ok (.invokevirtual 139, 3) := by decide +kernel
theorem dX2_leastToGo_15 : decode cX2_leastToGo 15 = .ok (.ifCond .eq 5, 3) := by decide +kernel
theorem dX2_leastToGo_18 : decode cX2_leastToGo 18 = .ok (.iload_n 1, 1) := by decide +kernel
theorem dX2_leastToGo_19 : decode cX2_leastToGo 19 = .ok (.ireturn, 1) := by decide +kernel
theorem dX2_leastToGo_20 : decode cX2_leastToGo 20 = .ok (.iinc 1 1, 3) := by decide +kernel
theorem dX2_leastToGo_23 : decode cX2_leastToGo 23 = .ok (.goto (-21), 3) := by decide +kernel
theorem dX2_leastToGo_26 : decode cX2_leastToGo 26 = .ok (.iconst (-1), 1) := by decide +kernel
theorem dX2_leastToGo_27 : decode cX2_leastToGo 27 = .ok (.ireturn, 1) := by decide +kernel
def wp_X2_leastToGo_2B (h : Nat) (x1 : Int32) (S : xm_S) (g : Int32 → xm_S → Prop) (Z2 : Int32 → xm_S → Prop) : Prop :=
  st_t S h = some (2, 0) ∧ ((st_i S h 2) ≤ x1 → g (-1 : Int32) S) ∧ (¬ (st_i S h 2) ≤ x1 → wp_X2_canGo h x1 S (fun r3 S2 => (r3 = 0 → ∀ y4, y4 = (x1 + (1 : Int32)) → Z2 y4 S2) ∧ (¬ r3 = 0 → g x1 S2)))
def wp_X2_leastToGo_2 (h : Nat) (x1 : Int32) (S : xm_S) (g : Int32 → xm_S → Prop) : Prop :=
  ∀ Z2 : Int32 → xm_S → Prop, (∀ x1 S, wp_X2_leastToGo_2B h x1 S g Z2 → Z2 x1 S) → Z2 x1 S
set_option maxRecDepth 100000 in
set_option maxHeartbeats 4000000 in
theorem kp_X2_leastToGo_2B {K : xm_K} (h : Nat) (x1 : Int32) (S : xm_S) {g : Int32 → xm_S → Prop} {Z2 : Int32 → xm_S → Prop} (C : xm_Cx K cX2_leastToGo RX2 2 (some (FieldType.int)) rm_X2_leastToGo) (N : xm_Nx K) (hg : ∀ v S, g v S → xm_q K (some (xm_i v)) S) (hZ2 : ∀ x1 S, Z2 x1 S → xm_W K 0 0 2 [(0, xm_r (some h)), (1, xm_i x1)] [] S) (h1 : wp_X2_leastToGo_2B h x1 S g Z2) : xm_W K 0 0 2 [(0, xm_r (some h)), (1, xm_i x1)] [] S := by
  unfold wp_X2_leastToGo_2B at h1
  refine x_iload_n C 1 dX2_leastToGo_2 rfl rfl ?_
  refine x_aload_n C 0 dX2_leastToGo_3 rfl rfl ?_
  obtain ⟨ht1, h1⟩ := h1
  refine x_getf_i (n := h) C rfl ht1 fd_18 (by decide) dX2_leastToGo_4 ?_
  refine x_icmp_ge (tgt := 26) C dX2_leastToGo_7 (by decide) (fun z9 => ?_) (fun z9 => ?_)
  · have h1 := h1.1 z9
    refine x_iconst (v := (-1 : Int32)) C dX2_leastToGo_26 (by decide) ?_
    exact x_iret C (Nat.le_of_ble_eq_true rfl) (Nat.le_of_ble_eq_true rfl) rfl dX2_leastToGo_27 (hg _ _ h1)
  · have h1 := h1.2 z9
    refine x_aload_n C 0 dX2_leastToGo_10 rfl rfl ?_
    refine x_iload_n C 1 dX2_leastToGo_11 rfl rfl ?_
    refine x_callV (rm' := rm_X2_canGo) (n := h) C (kp_X2_canGo_met h1) lk_4 gw_49 gw_50 xv_2 rfl rfl ht1 rfl (Nat.le_of_ble_eq_true rfl) ⟨Nat.le_of_ble_eq_true rfl, Nat.le_of_ble_eq_true rfl, (Nat.le_of_ble_eq_true rfl), (Nat.le_of_ble_eq_true rfl)⟩ dX2_leastToGo_12 xm_kx (xm_ki (fun r3 S2 h1 => ?_))
    refine x_if_eq (tgt := 20) C dX2_leastToGo_15 (by decide) (fun z9 => ?_) (fun z9 => ?_)
    · have h1 := h1.1 z9
      obtain ⟨y4, e5⟩ : ∃ y4, y4 = (x1 + (1 : Int32)) := ⟨_, rfl⟩
      have h1 := h1 y4 e5
      refine x_iinc (v := y4) (L' := [(1, xm_i y4), (0, xm_r (some h))]) C 1 dX2_leastToGo_20 rfl (by rw [e5]; rfl) (by decide) rfl ?_
      refine x_goto (tgt := 2) C dX2_leastToGo_23 (by decide) ?_
      refine x_keep (L' := [(0, xm_r (some h)), (1, xm_i y4)]) C [1, 0] rfl ?_
      exact hZ2 y4 S2 h1
    · have h1 := h1.2 z9
      refine x_iload_n C 1 dX2_leastToGo_18 rfl rfl ?_
      exact x_iret C (Nat.le_of_ble_eq_true rfl) (Nat.le_of_ble_eq_true rfl) rfl dX2_leastToGo_19 (hg _ _ h1)
theorem kp_X2_leastToGo_2 {K : xm_K} (h : Nat) (x1 : Int32) (S : xm_S) {g : Int32 → xm_S → Prop} (C : xm_Cx K cX2_leastToGo RX2 2 (some (FieldType.int)) rm_X2_leastToGo) (N : xm_Nx K) (hg : ∀ v S, g v S → xm_q K (some (xm_i v)) S)  (h1 : wp_X2_leastToGo_2 h x1 S g) : xm_W K 0 0 2 [(0, xm_r (some h)), (1, xm_i x1)] [] S :=
  h1 (fun x1 S => xm_W K 0 0 2 [(0, xm_r (some h)), (1, xm_i x1)] [] S) (fun x1 S hb => kp_X2_leastToGo_2B h x1 S C N hg (fun x1 S hz => hz) hb)
def wp_X2_leastToGo (h : Nat)  (S : xm_S) (g : Int32 → xm_S → Prop) : Prop :=
  wp_X2_leastToGo_2 h (0 : Int32) S g
set_option maxRecDepth 100000 in
set_option maxHeartbeats 4000000 in
theorem kp_X2_leastToGo {K : xm_K} (h : Nat)  (S : xm_S) {g : Int32 → xm_S → Prop} (C : xm_Cx K cX2_leastToGo RX2 2 (some (FieldType.int)) rm_X2_leastToGo) (N : xm_Nx K) (hg : ∀ v S, g v S → xm_q K (some (xm_i v)) S)  (h1 : wp_X2_leastToGo h  S g) : xm_W K 0 0 0 [(0, xm_r (some h))] [] S := by
  unfold wp_X2_leastToGo at h1
  refine x_iconst (v := (0 : Int32)) C dX2_leastToGo_0 (by decide) ?_
  refine x_istore_n (L' := [(1, xm_i (0 : Int32)), (0, xm_r (some h))]) C dX2_leastToGo_1 rfl (by decide) rfl ?_
  refine x_keep (L' := [(0, xm_r (some h)), (1, xm_i (0 : Int32))]) C [1, 0] rfl ?_
  exact kp_X2_leastToGo_2 h (0 : Int32) S C N hg  h1
theorem kp_X2_leastToGo_met {h : Nat}  {S : xm_S} {g : Int32 → xm_S → Prop}  (h1 : wp_X2_leastToGo h  S g) : xm_Met yX2_leastToGo cX2_leastToGo 2 (some (FieldType.int)) rm_X2_leastToGo [xm_r (some h)] S (xm_qi g) xm_nox :=
  xm_ofW RX2 (by decide +kernel) rfl (Nat.le_of_ble_eq_true rfl) (fun K C N hq hx hi => kp_X2_leastToGo h  S C N (fun v S h => by rw [hq]; exact ⟨v, rfl, h⟩)  h1)
def rm_X3_becomeLike : Room := { frames := 2, cells := 0, slots := 0, locals := 44 }
theorem dX3_becomeLike_0 : decode cX3_becomeLike 0 = .ok (.iconst 0, 1) := by decide +kernel
theorem dX3_becomeLike_1 : decode cX3_becomeLike 1 = .ok (.istore_n 2, 1) := by decide +kernel
theorem dX3_becomeLike_2 : decode cX3_becomeLike 2 = .ok (.iconst 0, 1) := by decide +kernel
theorem dX3_becomeLike_3 : decode cX3_becomeLike 3 = .ok (.istore_n 3, 1) := by decide +kernel
theorem dX3_becomeLike_4 : decode cX3_becomeLike 4 = .ok (.iload_n 3, 1) := by decide +kernel
theorem dX3_becomeLike_5 : decode cX3_becomeLike 5 = .ok (.bipush 16, 2) := by decide +kernel
theorem dX3_becomeLike_7 : decode cX3_becomeLike 7 = .ok (.if_icmp .ge 97, 3) := by decide +kernel
theorem dX3_becomeLike_10 : decode cX3_becomeLike 10 = .ok (.aload_n 0, 1) := by decide +kernel
theorem dX3_becomeLike_11 : decode cX3_becomeLike 11 = .ok (.getfield 15, 3) := by decide +kernel
theorem dX3_becomeLike_14 : decode cX3_becomeLike 14 = .ok (.iload_n 3, 1) := by decide +kernel
theorem dX3_becomeLike_15 : decode cX3_becomeLike 15 = .ok (.iaload, 1) := by decide +kernel
theorem dX3_becomeLike_16 : decode cX3_becomeLike 16 = .ok (.aload_n 1, 1) := by decide +kernel
theorem dX3_becomeLike_17 : decode cX3_becomeLike 17 = .ok (.getfield 15, 3) := by decide +kernel
theorem dX3_becomeLike_20 : decode cX3_becomeLike 20 = .ok (.iload_n 3, 1) := by decide +kernel
theorem dX3_becomeLike_21 : decode cX3_becomeLike 21 = .ok (.iaload, 1) := by decide +kernel
theorem dX3_becomeLike_22 : decode cX3_becomeLike 22 = .ok (.if_icmp .ne 37, 3) := by decide +kernel
theorem dX3_becomeLike_25 : decode cX3_becomeLike 25 = .ok (.aload_n 0, 1) := by decide +kernel
theorem dX3_becomeLike_26 : decode cX3_becomeLike 26 = .ok (.getfield 18, 3) := by decide +kernel
theorem dX3_becomeLike_29 : decode cX3_becomeLike 29 = .ok (.iload_n 3, 1) := by decide +kernel
theorem dX3_becomeLike_30 : decode cX3_becomeLike 30 = .ok (.iaload, 1) := by decide +kernel
theorem dX3_becomeLike_31 : decode cX3_becomeLike 31 = .ok (.aload_n 1, 1) := by decide +kernel
theorem dX3_becomeLike_32 : decode cX3_becomeLike 32 = .ok (.getfield 18, 3) := by decide +kernel
theorem dX3_becomeLike_35 : decode cX3_becomeLike 35 = .ok (.iload_n 3, 1) := by decide +kernel
theorem dX3_becomeLike_36 : decode cX3_becomeLike 36 = .ok (.iaload, 1) := by decide +kernel
theorem dX3_becomeLike_37 : decode cX3_becomeLike 37 = .ok (.if_icmp .ne 22, 3) := by decide +kernel
theorem dX3_becomeLike_40 : decode cX3_becomeLike 40 = .ok (.aload_n 0, 1) := by decide +kernel
theorem dX3_becomeLike_41 : decode cX3_becomeLike 41 = .ok (.getfield 21, 3) := by decide +kernel
theorem dX3_becomeLike_44 : decode cX3_becomeLike 44 = .ok (.iload_n 3, 1) := by decide +kernel
theorem dX3_becomeLike_45 : decode cX3_becomeLike 45 = .ok (.iaload, 1) := by decide +kernel
theorem dX3_becomeLike_46 : decode cX3_becomeLike 46 = .ok (.aload_n 1, 1) := by decide +kernel
theorem dX3_becomeLike_47 : decode cX3_becomeLike 47 = .ok (.getfield 21, 3) := by decide +kernel
theorem dX3_becomeLike_50 : decode cX3_becomeLike 50 = .ok (.iload_n 3, 1) := by decide +kernel
theorem dX3_becomeLike_51 : decode cX3_becomeLike 51 = .ok (.iaload, 1) := by decide +kernel
theorem dX3_becomeLike_52 : decode cX3_becomeLike 52 = .ok (.if_icmp .ne 7, 3) := by decide +kernel
theorem dX3_becomeLike_55 : decode cX3_becomeLike 55 = .ok (.iconst 1, 1) := by decide +kernel
theorem dX3_becomeLike_56 : decode cX3_becomeLike 56 = .ok (.goto 4, 3) := by decide +kernel
theorem dX3_becomeLike_59 : decode cX3_becomeLike 59 = .ok (.iconst 0, 1) := by decide +kernel
theorem dX3_becomeLike_60 : decode cX3_becomeLike 60 = .ok (.istore 4, 2) := by decide +kernel
theorem dX3_becomeLike_62 : decode cX3_becomeLike 62 = .ok (.iload_n 2, 1) := by decide +kernel
theorem dX3_becomeLike_63 : decode cX3_becomeLike 63 = .ok (.iload 4, 2) := by decide +kernel
theorem dX3_becomeLike_65 : decode cX3_becomeLike 65 = .ok (.ifCond .eq 7, 3) := by decide +kernel
theorem dX3_becomeLike_68 : decode cX3_becomeLike 68 = .ok (.iconst 0, 1) := by decide +kernel
theorem dX3_becomeLike_69 : decode cX3_becomeLike 69 = .ok (.goto 4, 3) := by decide +kernel
theorem dX3_becomeLike_72 : decode cX3_becomeLike 72 = .ok (.iconst 1, 1) := by decide +kernel
theorem dX3_becomeLike_73 : decode cX3_becomeLike 73 = .ok (.iadd, 1) := by decide +kernel
theorem dX3_becomeLike_74 : decode cX3_becomeLike 74 = .ok (.istore_n 2, 1) := by decide +kernel
theorem dX3_becomeLike_75 : decode cX3_becomeLike 75 = .ok (.aload_n 0, 1) := by decide +kernel
theorem dX3_becomeLike_76 : decode cX3_becomeLike 76 = .ok (.iload_n 3, 1) := by decide +kernel
theorem dX3_becomeLike_77 : decode cX3_becomeLike 77 = .ok (.aload_n 1, 1) := by decide +kernel
theorem dX3_becomeLike_78 : decode cX3_becomeLike 78 = .ok (.getfield 15, 3) := by decide +kernel
theorem dX3_becomeLike_81 : decode cX3_becomeLike 81 = .ok (.iload_n 3, 1) := by decide +kernel
theorem dX3_becomeLike_82 : decode cX3_becomeLike 82 = .ok (.iaload, 1) := by decide +kernel
theorem dX3_becomeLike_83 : decode cX3_becomeLike 83 = .ok (.aload_n 1, 1) := by decide +kernel
theorem dX3_becomeLike_84 : decode cX3_becomeLike 84 = .ok (.getfield 18, 3) := by decide +kernel
theorem dX3_becomeLike_87 : decode cX3_becomeLike 87 = .ok (.iload_n 3, 1) := by decide +kernel
theorem dX3_becomeLike_88 : decode cX3_becomeLike 88 = .ok (.iaload, 1) := by decide +kernel
theorem dX3_becomeLike_89 : decode cX3_becomeLike 89 = .ok (.aload_n 1, 1) := by decide +kernel
theorem dX3_becomeLike_90 : decode cX3_becomeLike 90 = .ok (.getfield 21, 3) := by decide +kernel
theorem dX3_becomeLike_93 : decode cX3_becomeLike 93 = .ok (.iload_n 3, 1) := by decide +kernel
theorem dX3_becomeLike_94 : decode cX3_becomeLike 94 = .ok (.iaload, 1) := by decide +kernel
theorem dX3_becomeLike_95 : decode cX3_becomeLike 95 = .ok (.invokevirtual 24, 3) := by decide +kernel
theorem dX3_becomeLike_98 : decode cX3_becomeLike 98 = .ok (.iinc 3 1, 3) := by decide +kernel
theorem dX3_becomeLike_101 : decode cX3_becomeLike 101 = .ok (.goto (-97), 3) := by decide +kernel
theorem dX3_becomeLike_104 : decode cX3_becomeLike 104 = .ok (.iconst 0, 1) := by decide +kernel
theorem dX3_becomeLike_105 : decode cX3_becomeLike 105 = .ok (.istore_n 3, 1) := by decide +kernel
theorem dX3_becomeLike_106 : decode cX3_becomeLike 106 = .ok (.iload_n 3, 1) := by decide +kernel
theorem dX3_becomeLike_107 : decode cX3_becomeLike 107 = .ok (.bipush 6, 2) := by decide +kernel
theorem dX3_becomeLike_109 : decode cX3_becomeLike 109 = .ok (.if_icmp .ge 21, 3) := by decide +kernel
theorem dX3_becomeLike_112 : decode cX3_becomeLike 112 = .ok (.aload_n 0, 1) := by decide +kernel
theorem dX3_becomeLike_113 : decode cX3_becomeLike 113 = .ok (.getfield 9, 3) := by decide +kernel
theorem dX3_becomeLike_116 : decode cX3_becomeLike 116 = .ok (.iload_n 3, 1) := by decide +kernel
theorem dX3_becomeLike_117 : decode cX3_becomeLike 117 = .ok (.aload_n 1, 1) := by decide +kernel
theorem dX3_becomeLike_118 : decode cX3_becomeLike 118 = .ok (.getfield 9, 3) := by decide +kernel
theorem dX3_becomeLike_121 : decode cX3_becomeLike 121 = .ok (.iload_n 3, 1) := by decide +kernel
theorem dX3_becomeLike_122 : decode cX3_becomeLike 122 = .ok (.iaload, 1) := by decide +kernel
theorem dX3_becomeLike_123 : decode cX3_becomeLike 123 = .ok (.iastore, 1) := by decide +kernel
theorem dX3_becomeLike_124 : decode cX3_becomeLike 124 = .ok (.iinc 3 1, 3) := by decide +kernel
theorem dX3_becomeLike_127 : decode cX3_becomeLike 127 = .ok (.goto (-21), 3) := by decide +kernel
theorem dX3_becomeLike_130 : decode cX3_becomeLike 130 = .ok (.iload_n 2, 1) := by decide +kernel
theorem dX3_becomeLike_131 : decode cX3_becomeLike 131 = .ok (.ireturn, 1) := by decide +kernel
def wp_X3_becomeLike_73 (h : Nat) (x1 : Option Nat) (x3 : Int32) (s0 : Int32) (s1 : Int32) (S : xm_S) (g : Int32 → xm_S → Prop) (Z4 : Option Nat → Int32 → Int32 → xm_S → Prop) : Prop :=
  ∀ y1, y1 = (s1 + s0) → ∃ n3, x1 = some n3 ∧ st_t S n3 = some (3, 0) ∧ ∃ n6, (st_r S n3 1) = some n6 ∧ ∃ z9, st_t S n6 = some (100, z9) ∧ vp_in x3 z9 ∧ ∃ n11, x1 = some n11 ∧ st_t S n11 = some (3, 0) ∧ ∃ n14, (st_r S n11 2) = some n14 ∧ ∃ z17, st_t S n14 = some (100, z17) ∧ vp_in x3 z17 ∧ ∃ n19, x1 = some n19 ∧ st_t S n19 = some (3, 0) ∧ ∃ n22, (st_r S n19 3) = some n22 ∧ ∃ z25, st_t S n22 = some (100, z25) ∧ vp_in x3 z25 ∧ st_t S h = some (3, 0) ∧ wp_X3_put h x3 (st_i S n6 (x3).toNatClampNeg) (st_i S n14 (x3).toNatClampNeg) (st_i S n22 (x3).toNatClampNeg) S (fun S28 => ∀ y30, y30 = (x3 + (1 : Int32)) → Z4 x1 y1 y30 S28)
set_option maxRecDepth 100000 in
set_option maxHeartbeats 4000000 in
theorem kp_X3_becomeLike_73 {K : xm_K} (h : Nat) (x1 : Option Nat) (x3 : Int32) (s0 : Int32) (s1 : Int32) (S : xm_S) {g : Int32 → xm_S → Prop} {Z4 : Option Nat → Int32 → Int32 → xm_S → Prop} (C : xm_Cx K cX3_becomeLike RX3 5 (some (FieldType.int)) rm_X3_becomeLike) (N : xm_Nx K) (hg : ∀ v S, g v S → xm_q K (some (xm_i v)) S) (hZ4 : ∀ x1 x2 x3 S, Z4 x1 x2 x3 S → xm_W K 0 0 4 [(0, xm_r (some h)), (1, xm_r x1), (2, xm_i x2), (3, xm_i x3)] [] S) (h1 : wp_X3_becomeLike_73 h x1 x3 s0 s1 S g Z4) : xm_W K 0 0 73 [(0, xm_r (some h)), (1, xm_r x1), (3, xm_i x3)] [xm_i s0, xm_i s1] S := by
  unfold wp_X3_becomeLike_73 at h1
  refine x_iadd C dX3_becomeLike_73 ?_
  refine x_topi (fun y1 e2 => ?_)
  have h1 := h1 y1 e2
  refine x_istore_n (L' := [(2, xm_i y1), (0, xm_r (some h)), (1, xm_r x1), (3, xm_i x3)]) C dX3_becomeLike_74 rfl (by decide) rfl ?_
  refine x_aload_n C 1 dX3_becomeLike_75 rfl rfl ?_
  refine x_iload_n C 3 dX3_becomeLike_76 rfl rfl ?_
  refine x_aload_n C 2 dX3_becomeLike_77 rfl rfl ?_
  obtain ⟨n3, hr4, h1⟩ := h1
  obtain ⟨ht5, h1⟩ := h1
  refine x_getf_r (n := n3) C hr4 ht5 fd_3 (by decide) dX3_becomeLike_78 ?_
  refine x_iload_n C 3 dX3_becomeLike_81 rfl rfl ?_
  obtain ⟨n6, hr7, h1⟩ := h1
  obtain ⟨z9, ht8, h1⟩ := h1
  obtain ⟨hi10, h1⟩ := h1
  refine x_iald (n := n6) C hr7 ht8 hi10 dX3_becomeLike_82 ?_
  refine x_aload_n C 2 dX3_becomeLike_83 rfl rfl ?_
  obtain ⟨n11, hr12, h1⟩ := h1
  obtain ⟨ht13, h1⟩ := h1
  refine x_getf_r (n := n11) C hr12 ht13 fd_4 (by decide) dX3_becomeLike_84 ?_
  refine x_iload_n C 3 dX3_becomeLike_87 rfl rfl ?_
  obtain ⟨n14, hr15, h1⟩ := h1
  obtain ⟨z17, ht16, h1⟩ := h1
  obtain ⟨hi18, h1⟩ := h1
  refine x_iald (n := n14) C hr15 ht16 hi18 dX3_becomeLike_88 ?_
  refine x_aload_n C 2 dX3_becomeLike_89 rfl rfl ?_
  obtain ⟨n19, hr20, h1⟩ := h1
  obtain ⟨ht21, h1⟩ := h1
  refine x_getf_r (n := n19) C hr20 ht21 fd_5 (by decide) dX3_becomeLike_90 ?_
  refine x_iload_n C 3 dX3_becomeLike_93 rfl rfl ?_
  obtain ⟨n22, hr23, h1⟩ := h1
  obtain ⟨z25, ht24, h1⟩ := h1
  obtain ⟨hi26, h1⟩ := h1
  refine x_iald (n := n22) C hr23 ht24 hi26 dX3_becomeLike_94 ?_
  obtain ⟨ht27, h1⟩ := h1
  refine x_callV (rm' := rm_X3_put) (n := h) C (kp_X3_put_met h1) lk_5 gw_40 gw_41 xv_3 rfl rfl ht27 rfl (Nat.le_of_ble_eq_true rfl) ⟨Nat.le_of_ble_eq_true rfl, Nat.le_of_ble_eq_true rfl, (Nat.le_of_ble_eq_true rfl), (Nat.le_of_ble_eq_true rfl)⟩ dX3_becomeLike_95 xm_kx (xm_kv (fun S28 h1 => ?_))
  obtain ⟨y30, e31⟩ : ∃ y30, y30 = (x3 + (1 : Int32)) := ⟨_, rfl⟩
  have h1 := h1 y30 e31
  refine x_iinc (v := y30) (L' := [(3, xm_i y30), (2, xm_i y1), (0, xm_r (some h)), (1, xm_r x1)]) C 3 dX3_becomeLike_98 rfl (by rw [e31]; rfl) (by decide) rfl ?_
  refine x_goto (tgt := 4) C dX3_becomeLike_101 (by decide) ?_
  refine x_keep (L' := [(0, xm_r (some h)), (1, xm_r x1), (2, xm_i y1), (3, xm_i y30)]) C [2, 3, 1, 0] rfl ?_
  exact hZ4 x1 y1 y30 S28 h1
def wp_X3_becomeLike_60 (h : Nat) (x1 : Option Nat) (x2 : Int32) (x3 : Int32) (s0 : Int32) (S : xm_S) (g : Int32 → xm_S → Prop) (Z4 : Option Nat → Int32 → Int32 → xm_S → Prop) : Prop :=
  (s0 = 0 → wp_X3_becomeLike_73 h x1 x3 (1 : Int32) x2 S g Z4) ∧ (¬ s0 = 0 → wp_X3_becomeLike_73 h x1 x3 (0 : Int32) x2 S g Z4)
set_option maxRecDepth 100000 in
set_option maxHeartbeats 4000000 in
theorem kp_X3_becomeLike_60 {K : xm_K} (h : Nat) (x1 : Option Nat) (x2 : Int32) (x3 : Int32) (s0 : Int32) (S : xm_S) {g : Int32 → xm_S → Prop} {Z4 : Option Nat → Int32 → Int32 → xm_S → Prop} (C : xm_Cx K cX3_becomeLike RX3 5 (some (FieldType.int)) rm_X3_becomeLike) (N : xm_Nx K) (hg : ∀ v S, g v S → xm_q K (some (xm_i v)) S) (hZ4 : ∀ x1 x2 x3 S, Z4 x1 x2 x3 S → xm_W K 0 0 4 [(0, xm_r (some h)), (1, xm_r x1), (2, xm_i x2), (3, xm_i x3)] [] S) (h1 : wp_X3_becomeLike_60 h x1 x2 x3 s0 S g Z4) : xm_W K 0 0 60 [(0, xm_r (some h)), (1, xm_r x1), (2, xm_i x2), (3, xm_i x3)] [xm_i s0] S := by
  unfold wp_X3_becomeLike_60 at h1
  refine x_istore (L' := [(4, xm_i s0), (0, xm_r (some h)), (1, xm_r x1), (2, xm_i x2), (3, xm_i x3)]) C dX3_becomeLike_60 (by decide) rfl ?_
  refine x_iload_n C 3 dX3_becomeLike_62 rfl rfl ?_
  refine x_iload C 0 dX3_becomeLike_63 rfl ?_
  refine x_if_eq (tgt := 72) C dX3_becomeLike_65 (by decide) (fun z9 => ?_) (fun z9 => ?_)
  · have h1 := h1.1 z9
    refine x_iconst (v := (1 : Int32)) C dX3_becomeLike_72 (by decide) ?_
    refine x_keep (L' := [(0, xm_r (some h)), (1, xm_r x1), (3, xm_i x3)]) C [1, 2, 4] rfl ?_
    exact kp_X3_becomeLike_73 h x1 x3 (1 : Int32) x2 S C N hg hZ4 h1
  · have h1 := h1.2 z9
    refine x_iconst (v := (0 : Int32)) C dX3_becomeLike_68 (by decide) ?_
    refine x_goto (tgt := 73) C dX3_becomeLike_69 (by decide) ?_
    refine x_keep (L' := [(0, xm_r (some h)), (1, xm_r x1), (3, xm_i x3)]) C [1, 2, 4] rfl ?_
    exact kp_X3_becomeLike_73 h x1 x3 (0 : Int32) x2 S C N hg hZ4 h1
def wp_X3_becomeLike_59 (h : Nat) (x1 : Option Nat) (x2 : Int32) (x3 : Int32) (S : xm_S) (g : Int32 → xm_S → Prop) (Z4 : Option Nat → Int32 → Int32 → xm_S → Prop) : Prop :=
  wp_X3_becomeLike_60 h x1 x2 x3 (0 : Int32) S g Z4
set_option maxRecDepth 100000 in
set_option maxHeartbeats 4000000 in
theorem kp_X3_becomeLike_59 {K : xm_K} (h : Nat) (x1 : Option Nat) (x2 : Int32) (x3 : Int32) (S : xm_S) {g : Int32 → xm_S → Prop} {Z4 : Option Nat → Int32 → Int32 → xm_S → Prop} (C : xm_Cx K cX3_becomeLike RX3 5 (some (FieldType.int)) rm_X3_becomeLike) (N : xm_Nx K) (hg : ∀ v S, g v S → xm_q K (some (xm_i v)) S) (hZ4 : ∀ x1 x2 x3 S, Z4 x1 x2 x3 S → xm_W K 0 0 4 [(0, xm_r (some h)), (1, xm_r x1), (2, xm_i x2), (3, xm_i x3)] [] S) (h1 : wp_X3_becomeLike_59 h x1 x2 x3 S g Z4) : xm_W K 0 0 59 [(0, xm_r (some h)), (1, xm_r x1), (2, xm_i x2), (3, xm_i x3)] [] S := by
  unfold wp_X3_becomeLike_59 at h1
  refine x_iconst (v := (0 : Int32)) C dX3_becomeLike_59 (by decide) ?_
  exact kp_X3_becomeLike_60 h x1 x2 x3 (0 : Int32) S C N hg hZ4 h1
def wp_X3_becomeLike_106B (h : Nat) (x1 : Option Nat) (x2 : Int32) (x3 : Int32) (S : xm_S) (g : Int32 → xm_S → Prop) (Z106 : Option Nat → Int32 → Int32 → xm_S → Prop) : Prop :=
  ((nI 6) ≤ x3 → g x2 S) ∧ (¬ (nI 6) ≤ x3 → st_t S h = some (3, 0) ∧ ∃ n33, x1 = some n33 ∧ st_t S n33 = some (3, 0) ∧ ∃ n36, (st_r S n33 0) = some n36 ∧ ∃ z39, st_t S n36 = some (100, z39) ∧ vp_in x3 z39 ∧ ∃ n41, (st_r S h 0) = some n41 ∧ ∃ z44, st_t S n41 = some (100, z44) ∧ vp_in x3 z44 ∧ ∀ S46, S46 = st_pi S n41 (x3).toNatClampNeg (st_i S n36 (x3).toNatClampNeg) → ∀ y48, y48 = (x3 + (1 : Int32)) → Z106 x1 x2 y48 S46)
def wp_X3_becomeLike_106 (h : Nat) (x1 : Option Nat) (x2 : Int32) (x3 : Int32) (S : xm_S) (g : Int32 → xm_S → Prop) : Prop :=
  ∀ Z106 : Option Nat → Int32 → Int32 → xm_S → Prop, (∀ x1 x2 x3 S, wp_X3_becomeLike_106B h x1 x2 x3 S g Z106 → Z106 x1 x2 x3 S) → Z106 x1 x2 x3 S
set_option maxRecDepth 100000 in
set_option maxHeartbeats 4000000 in
theorem kp_X3_becomeLike_106B {K : xm_K} (h : Nat) (x1 : Option Nat) (x2 : Int32) (x3 : Int32) (S : xm_S) {g : Int32 → xm_S → Prop} {Z106 : Option Nat → Int32 → Int32 → xm_S → Prop} (C : xm_Cx K cX3_becomeLike RX3 5 (some (FieldType.int)) rm_X3_becomeLike) (N : xm_Nx K) (hg : ∀ v S, g v S → xm_q K (some (xm_i v)) S) (hZ106 : ∀ x1 x2 x3 S, Z106 x1 x2 x3 S → xm_W K 0 0 106 [(0, xm_r (some h)), (1, xm_r x1), (2, xm_i x2), (3, xm_i x3)] [] S) (h1 : wp_X3_becomeLike_106B h x1 x2 x3 S g Z106) : xm_W K 0 0 106 [(0, xm_r (some h)), (1, xm_r x1), (2, xm_i x2), (3, xm_i x3)] [] S := by
  unfold wp_X3_becomeLike_106B at h1
  refine x_iload_n C 3 dX3_becomeLike_106 rfl rfl ?_
  refine x_bipush (v := (nI 6)) C dX3_becomeLike_107 (by decide) ?_
  refine x_icmp_ge (tgt := 130) C dX3_becomeLike_109 (by decide) (fun z9 => ?_) (fun z9 => ?_)
  · have h1 := h1.1 z9
    refine x_iload_n C 2 dX3_becomeLike_130 rfl rfl ?_
    exact x_iret C (Nat.le_of_ble_eq_true rfl) (Nat.le_of_ble_eq_true rfl) rfl dX3_becomeLike_131 (hg _ _ h1)
  · have h1 := h1.2 z9
    refine x_aload_n C 0 dX3_becomeLike_112 rfl rfl ?_
    obtain ⟨ht32, h1⟩ := h1
    refine x_getf_r (n := h) C rfl ht32 fd_6 (by decide) dX3_becomeLike_113 ?_
    refine x_iload_n C 3 dX3_becomeLike_116 rfl rfl ?_
    refine x_aload_n C 1 dX3_becomeLike_117 rfl rfl ?_
    obtain ⟨n33, hr34, h1⟩ := h1
    obtain ⟨ht35, h1⟩ := h1
    refine x_getf_r (n := n33) C hr34 ht35 fd_6 (by decide) dX3_becomeLike_118 ?_
    refine x_iload_n C 3 dX3_becomeLike_121 rfl rfl ?_
    obtain ⟨n36, hr37, h1⟩ := h1
    obtain ⟨z39, ht38, h1⟩ := h1
    obtain ⟨hi40, h1⟩ := h1
    refine x_iald (n := n36) C hr37 ht38 hi40 dX3_becomeLike_122 ?_
    obtain ⟨n41, hr42, h1⟩ := h1
    obtain ⟨z44, ht43, h1⟩ := h1
    obtain ⟨hi45, h1⟩ := h1
    refine x_iast (n := n41) C hr42 ht43 hi45 dX3_becomeLike_123 ?_
    refine x_topS (fun S46 e47 => ?_)
    have h1 := h1 S46 e47
    obtain ⟨y48, e49⟩ : ∃ y48, y48 = (x3 + (1 : Int32)) := ⟨_, rfl⟩
    have h1 := h1 y48 e49
    refine x_iinc (v := y48) (L' := [(3, xm_i y48), (0, xm_r (some h)), (1, xm_r x1), (2, xm_i x2)]) C 3 dX3_becomeLike_124 rfl (by rw [e49]; rfl) (by decide) rfl ?_
    refine x_goto (tgt := 106) C dX3_becomeLike_127 (by decide) ?_
    refine x_keep (L' := [(0, xm_r (some h)), (1, xm_r x1), (2, xm_i x2), (3, xm_i y48)]) C [1, 2, 3, 0] rfl ?_
    exact hZ106 x1 x2 y48 S46 h1
theorem kp_X3_becomeLike_106 {K : xm_K} (h : Nat) (x1 : Option Nat) (x2 : Int32) (x3 : Int32) (S : xm_S) {g : Int32 → xm_S → Prop} (C : xm_Cx K cX3_becomeLike RX3 5 (some (FieldType.int)) rm_X3_becomeLike) (N : xm_Nx K) (hg : ∀ v S, g v S → xm_q K (some (xm_i v)) S)  (h1 : wp_X3_becomeLike_106 h x1 x2 x3 S g) : xm_W K 0 0 106 [(0, xm_r (some h)), (1, xm_r x1), (2, xm_i x2), (3, xm_i x3)] [] S :=
  h1 (fun x1 x2 x3 S => xm_W K 0 0 106 [(0, xm_r (some h)), (1, xm_r x1), (2, xm_i x2), (3, xm_i x3)] [] S) (fun x1 x2 x3 S hb => kp_X3_becomeLike_106B h x1 x2 x3 S C N hg (fun x1 x2 x3 S hz => hz) hb)
def wp_X3_becomeLike_4B (h : Nat) (x1 : Option Nat) (x2 : Int32) (x3 : Int32) (S : xm_S) (g : Int32 → xm_S → Prop) (Z4 : Option Nat → Int32 → Int32 → xm_S → Prop) : Prop :=
  ((nI 16) ≤ x3 → wp_X3_becomeLike_106 h x1 x2 (0 : Int32) S g) ∧ (¬ (nI 16) ≤ x3 → st_t S h = some (3, 0) ∧ ∃ n51, (st_r S h 1) = some n51 ∧ ∃ z54, st_t S n51 = some (100, z54) ∧ vp_in x3 z54 ∧ ∃ n56, x1 = some n56 ∧ st_t S n56 = some (3, 0) ∧ ∃ n59, (st_r S n56 1) = some n59 ∧ ∃ z62, st_t S n59 = some (100, z62) ∧ vp_in x3 z62 ∧ (¬ (st_i S n51 (x3).toNatClampNeg) = (st_i S n59 (x3).toNatClampNeg) → wp_X3_becomeLike_59 h x1 x2 x3 S g Z4) ∧ ((st_i S n51 (x3).toNatClampNeg) = (st_i S n59 (x3).toNatClampNeg) → ∃ n64, (st_r S h 2) = some n64 ∧ ∃ z67, st_t S n64 = some (100, z67) ∧ vp_in x3 z67 ∧ ∃ n69, x1 = some n69 ∧ st_t S n69 = some (3, 0) ∧ ∃ n72, (st_r S n69 2) = some n72 ∧ ∃ z75, st_t S n72 = some (100, z75) ∧ vp_in x3 z75 ∧ (¬ (st_i S n64 (x3).toNatClampNeg) = (st_i S n72 (x3).toNatClampNeg) → wp_X3_becomeLike_59 h x1 x2 x3 S g Z4) ∧ ((st_i S n64 (x3).toNatClampNeg) = (st_i S n72 (x3).toNatClampNeg) → ∃ n77, (st_r S h 3) = some n77 ∧ ∃ z80, st_t S n77 = some (100, z80) ∧ vp_in x3 z80 ∧ ∃ n82, x1 = some n82 ∧ st_t S n82 = some (3, 0) ∧ ∃ n85, (st_r S n82 3) = some n85 ∧ ∃ z88, st_t S n85 = some (100, z88) ∧ vp_in x3 z88 ∧ (¬ (st_i S n77 (x3).toNatClampNeg) = (st_i S n85 (x3).toNatClampNeg) → wp_X3_becomeLike_59 h x1 x2 x3 S g Z4) ∧ ((st_i S n77 (x3).toNatClampNeg) = (st_i S n85 (x3).toNatClampNeg) → wp_X3_becomeLike_60 h x1 x2 x3 (1 : Int32) S g Z4))))
def wp_X3_becomeLike_4 (h : Nat) (x1 : Option Nat) (x2 : Int32) (x3 : Int32) (S : xm_S) (g : Int32 → xm_S → Prop) : Prop :=
  ∀ Z4 : Option Nat → Int32 → Int32 → xm_S → Prop, (∀ x1 x2 x3 S, wp_X3_becomeLike_4B h x1 x2 x3 S g Z4 → Z4 x1 x2 x3 S) → Z4 x1 x2 x3 S
set_option maxRecDepth 100000 in
set_option maxHeartbeats 4000000 in
theorem kp_X3_becomeLike_4B {K : xm_K} (h : Nat) (x1 : Option Nat) (x2 : Int32) (x3 : Int32) (S : xm_S) {g : Int32 → xm_S → Prop} {Z4 : Option Nat → Int32 → Int32 → xm_S → Prop} (C : xm_Cx K cX3_becomeLike RX3 5 (some (FieldType.int)) rm_X3_becomeLike) (N : xm_Nx K) (hg : ∀ v S, g v S → xm_q K (some (xm_i v)) S) (hZ4 : ∀ x1 x2 x3 S, Z4 x1 x2 x3 S → xm_W K 0 0 4 [(0, xm_r (some h)), (1, xm_r x1), (2, xm_i x2), (3, xm_i x3)] [] S) (h1 : wp_X3_becomeLike_4B h x1 x2 x3 S g Z4) : xm_W K 0 0 4 [(0, xm_r (some h)), (1, xm_r x1), (2, xm_i x2), (3, xm_i x3)] [] S := by
  unfold wp_X3_becomeLike_4B at h1
  refine x_iload_n C 3 dX3_becomeLike_4 rfl rfl ?_
  refine x_bipush (v := (nI 16)) C dX3_becomeLike_5 (by decide) ?_
  refine x_icmp_ge (tgt := 104) C dX3_becomeLike_7 (by decide) (fun z9 => ?_) (fun z9 => ?_)
  · have h1 := h1.1 z9
    refine x_iconst (v := (0 : Int32)) C dX3_becomeLike_104 (by decide) ?_
    refine x_istore_n (L' := [(3, xm_i (0 : Int32)), (0, xm_r (some h)), (1, xm_r x1), (2, xm_i x2)]) C dX3_becomeLike_105 rfl (by decide) rfl ?_
    refine x_keep (L' := [(0, xm_r (some h)), (1, xm_r x1), (2, xm_i x2), (3, xm_i (0 : Int32))]) C [1, 2, 3, 0] rfl ?_
    exact kp_X3_becomeLike_106 h x1 x2 (0 : Int32) S C N hg  h1
  · have h1 := h1.2 z9
    refine x_aload_n C 0 dX3_becomeLike_10 rfl rfl ?_
    obtain ⟨ht50, h1⟩ := h1
    refine x_getf_r (n := h) C rfl ht50 fd_3 (by decide) dX3_becomeLike_11 ?_
    refine x_iload_n C 3 dX3_becomeLike_14 rfl rfl ?_
    obtain ⟨n51, hr52, h1⟩ := h1
    obtain ⟨z54, ht53, h1⟩ := h1
    obtain ⟨hi55, h1⟩ := h1
    refine x_iald (n := n51) C hr52 ht53 hi55 dX3_becomeLike_15 ?_
    refine x_aload_n C 1 dX3_becomeLike_16 rfl rfl ?_
    obtain ⟨n56, hr57, h1⟩ := h1
    obtain ⟨ht58, h1⟩ := h1
    refine x_getf_r (n := n56) C hr57 ht58 fd_3 (by decide) dX3_becomeLike_17 ?_
    refine x_iload_n C 3 dX3_becomeLike_20 rfl rfl ?_
    obtain ⟨n59, hr60, h1⟩ := h1
    obtain ⟨z62, ht61, h1⟩ := h1
    obtain ⟨hi63, h1⟩ := h1
    refine x_iald (n := n59) C hr60 ht61 hi63 dX3_becomeLike_21 ?_
    refine x_icmp_ne (tgt := 59) C dX3_becomeLike_22 (by decide) (fun z9 => ?_) (fun z9 => ?_)
    · have h1 := h1.1 z9
      exact kp_X3_becomeLike_59 h x1 x2 x3 S C N hg hZ4 h1
    · have h1 := h1.2 z9
      refine x_aload_n C 0 dX3_becomeLike_25 rfl rfl ?_
      refine x_getf_r (n := h) C rfl ht50 fd_4 (by decide) dX3_becomeLike_26 ?_
      refine x_iload_n C 3 dX3_becomeLike_29 rfl rfl ?_
      obtain ⟨n64, hr65, h1⟩ := h1
      obtain ⟨z67, ht66, h1⟩ := h1
      obtain ⟨hi68, h1⟩ := h1
      refine x_iald (n := n64) C hr65 ht66 hi68 dX3_becomeLike_30 ?_
      refine x_aload_n C 1 dX3_becomeLike_31 rfl rfl ?_
      obtain ⟨n69, hr70, h1⟩ := h1
      obtain ⟨ht71, h1⟩ := h1
      refine x_getf_r (n := n69) C hr70 ht71 fd_4 (by decide) dX3_becomeLike_32 ?_
      refine x_iload_n C 3 dX3_becomeLike_35 rfl rfl ?_
      obtain ⟨n72, hr73, h1⟩ := h1
      obtain ⟨z75, ht74, h1⟩ := h1
      obtain ⟨hi76, h1⟩ := h1
      refine x_iald (n := n72) C hr73 ht74 hi76 dX3_becomeLike_36 ?_
      refine x_icmp_ne (tgt := 59) C dX3_becomeLike_37 (by decide) (fun z9 => ?_) (fun z9 => ?_)
      · have h1 := h1.1 z9
        exact kp_X3_becomeLike_59 h x1 x2 x3 S C N hg hZ4 h1
      · have h1 := h1.2 z9
        refine x_aload_n C 0 dX3_becomeLike_40 rfl rfl ?_
        refine x_getf_r (n := h) C rfl ht50 fd_5 (by decide) dX3_becomeLike_41 ?_
        refine x_iload_n C 3 dX3_becomeLike_44 rfl rfl ?_
        obtain ⟨n77, hr78, h1⟩ := h1
        obtain ⟨z80, ht79, h1⟩ := h1
        obtain ⟨hi81, h1⟩ := h1
        refine x_iald (n := n77) C hr78 ht79 hi81 dX3_becomeLike_45 ?_
        refine x_aload_n C 1 dX3_becomeLike_46 rfl rfl ?_
        obtain ⟨n82, hr83, h1⟩ := h1
        obtain ⟨ht84, h1⟩ := h1
        refine x_getf_r (n := n82) C hr83 ht84 fd_5 (by decide) dX3_becomeLike_47 ?_
        refine x_iload_n C 3 dX3_becomeLike_50 rfl rfl ?_
        obtain ⟨n85, hr86, h1⟩ := h1
        obtain ⟨z88, ht87, h1⟩ := h1
        obtain ⟨hi89, h1⟩ := h1
        refine x_iald (n := n85) C hr86 ht87 hi89 dX3_becomeLike_51 ?_
        refine x_icmp_ne (tgt := 59) C dX3_becomeLike_52 (by decide) (fun z9 => ?_) (fun z9 => ?_)
        · have h1 := h1.1 z9
          exact kp_X3_becomeLike_59 h x1 x2 x3 S C N hg hZ4 h1
        · have h1 := h1.2 z9
          refine x_iconst (v := (1 : Int32)) C dX3_becomeLike_55 (by decide) ?_
          refine x_goto (tgt := 60) C dX3_becomeLike_56 (by decide) ?_
          exact kp_X3_becomeLike_60 h x1 x2 x3 (1 : Int32) S C N hg hZ4 h1
theorem kp_X3_becomeLike_4 {K : xm_K} (h : Nat) (x1 : Option Nat) (x2 : Int32) (x3 : Int32) (S : xm_S) {g : Int32 → xm_S → Prop} (C : xm_Cx K cX3_becomeLike RX3 5 (some (FieldType.int)) rm_X3_becomeLike) (N : xm_Nx K) (hg : ∀ v S, g v S → xm_q K (some (xm_i v)) S)  (h1 : wp_X3_becomeLike_4 h x1 x2 x3 S g) : xm_W K 0 0 4 [(0, xm_r (some h)), (1, xm_r x1), (2, xm_i x2), (3, xm_i x3)] [] S :=
  h1 (fun x1 x2 x3 S => xm_W K 0 0 4 [(0, xm_r (some h)), (1, xm_r x1), (2, xm_i x2), (3, xm_i x3)] [] S) (fun x1 x2 x3 S hb => kp_X3_becomeLike_4B h x1 x2 x3 S C N hg (fun x1 x2 x3 S hz => hz) hb)
def wp_X3_becomeLike (h : Nat) (x1 : Option Nat) (S : xm_S) (g : Int32 → xm_S → Prop) : Prop :=
  wp_X3_becomeLike_4 h x1 (0 : Int32) (0 : Int32) S g
set_option maxRecDepth 100000 in
set_option maxHeartbeats 4000000 in
theorem kp_X3_becomeLike {K : xm_K} (h : Nat) (x1 : Option Nat) (S : xm_S) {g : Int32 → xm_S → Prop} (C : xm_Cx K cX3_becomeLike RX3 5 (some (FieldType.int)) rm_X3_becomeLike) (N : xm_Nx K) (hg : ∀ v S, g v S → xm_q K (some (xm_i v)) S)  (h1 : wp_X3_becomeLike h x1 S g) : xm_W K 0 0 0 [(0, xm_r (some h)), (1, xm_r x1)] [] S := by
  unfold wp_X3_becomeLike at h1
  refine x_iconst (v := (0 : Int32)) C dX3_becomeLike_0 (by decide) ?_
  refine x_istore_n (L' := [(2, xm_i (0 : Int32)), (0, xm_r (some h)), (1, xm_r x1)]) C dX3_becomeLike_1 rfl (by decide) rfl ?_
  refine x_iconst (v := (0 : Int32)) C dX3_becomeLike_2 (by decide) ?_
  refine x_istore_n (L' := [(3, xm_i (0 : Int32)), (2, xm_i (0 : Int32)), (0, xm_r (some h)), (1, xm_r x1)]) C dX3_becomeLike_3 rfl (by decide) rfl ?_
  refine x_keep (L' := [(0, xm_r (some h)), (1, xm_r x1), (2, xm_i (0 : Int32)), (3, xm_i (0 : Int32))]) C [2, 3, 1, 0] rfl ?_
  exact kp_X3_becomeLike_4 h x1 (0 : Int32) (0 : Int32) S C N hg  h1
theorem kp_X3_becomeLike_met {h : Nat} {x1 : Option Nat} {S : xm_S} {g : Int32 → xm_S → Prop}  (h1 : wp_X3_becomeLike h x1 S g) : xm_Met yX3_becomeLike cX3_becomeLike 5 (some (FieldType.int)) rm_X3_becomeLike [xm_r (some h), xm_r x1] S (xm_qi g) xm_nox :=
  xm_ofW RX3 (by decide +kernel) rfl (Nat.le_of_ble_eq_true rfl) (fun K C N hq hx hi => kp_X3_becomeLike h x1 S C N (fun v S h => by rw [hq]; exact ⟨v, rfl, h⟩)  h1)
def rm_X2_keep : Room := { frames := 3, cells := 0, slots := 0, locals := 68 }
theorem dX2_keep_0 : decode cX2_keep 0 = .ok (.aload_n 0, 1) := by decide +kernel
theorem dX2_keep_1 : decode cX2_keep 1 = .ok (.getfield 24, 3) := by decide +kernel
theorem dX2_keep_4 : decode cX2_keep 4 = .ok (.bipush 6, 2) := by decide +kernel
theorem dX2_keep_6 : decode cX2_keep 6 = .ok (.if_icmp .lt 11, 3) := by decide +kernel
theorem dX2_keep_9 : decode cX2_keep 9 = .ok (.aload_n 0, 1) := by decide +kernel
theorem dX2_keep_10 : decode cX2_keep 10 = .ok (.aload_n 0, 1) := by decide +kernel
theorem dX2_keep_11 : decode cX2_keep 11 = .ok (.invokevirtual 56, 3) := by decide +kernel
theorem dX2_keep_14 : decode cX2_keep 14 = .ok (.invokevirtual 121, 3) := by decide +kernel
theorem dX2_keep_17 : decode cX2_keep 17 = .ok (.aload_n 0, 1) := by decide +kernel
theorem dX2_keep_18 : decode cX2_keep 18 = .ok (.getfield 24, 3) := by decide +kernel
theorem dX2_keep_21 : decode cX2_keep 21 = .ok (.bipush 6, 2) := by decide +kernel
theorem dX2_keep_23 : decode cX2_keep 23 = .ok (.if_icmp .ge 66, 3) := by decide +kernel
theorem dX2_keep_26 : decode cX2_keep 26 = .ok (.aload_n 0, 1) := by decide +kernel
theorem dX2_keep_27 : decode cX2_keep 27 = .ok (.getfield 20, 3) := by decide +kernel
theorem dX2_keep_30 : decode cX2_keep 30 = .ok (.aload_n 0, 1) := by decide +kernel
theorem dX2_keep_31 : decode cX2_keep 31 = .ok (.getfield 24, 3) := by decide +kernel
theorem dX2_keep_34 : decode cX2_keep 34 = .ok (.aaload, 1) := by decide +kernel
theorem dX2_keep_35 : decode cX2_keep 35 = .ok (.astore_n 1, 1) := by decide +kernel
theorem dX2_keep_36 : decode cX2_keep 36 = .ok (.aload_n 0, 1) := by decide +kernel
theorem dX2_keep_37 : decode cX2_keep 37 = .ok (.dup, 1) := by decide +kernel
theorem dX2_keep_38 : decode cX2_keep 38 = .ok (.getfield 24, 3) := by decide +kernel
theorem dX2_keep_41 : decode cX2_keep 41 = .ok (.iconst 1, 1) := by decide +kernel
theorem dX2_keep_42 : decode cX2_keep 42 = .ok (.iadd, 1) := by decide +kernel
theorem dX2_keep_43 : decode cX2_keep 43 = .ok (.putfield 24, 3) := by decide +kernel
theorem dX2_keep_46 : decode cX2_keep 46 = .ok (.aload_n 1, 1) := by decide +kernel
theorem dX2_keep_47 : decode cX2_keep 47 = .ok (.aload_n 0, 1) := by decide +kernel
theorem dX2_keep_48 : decode cX2_keep 48 = .ok (.getfield 31, 3) := by decide +kernel
theorem dX2_keep_51 : decode cX2_keep 51 = .ok (.putfield 125, 3) := by decide +kernel
theorem dX2_keep_54 : decode cX2_keep 54 = .ok (.aload_n 1, 1) := by decide +kernel
theorem dX2_keep_55 : decode cX2_keep 55 = .ok (.iconst 0, 1) := by decide +kernel
theorem dX2_keep_56 : decode cX2_keep 56 = .ok (.putfield 128, 3) := by decide +kernel
theorem dX2_keep_59 : decode cX2_keep 59 = .ok (.aload_n 1, 1) := by decide +kernel
theorem dX2_keep_60 : decode cX2_keep 60 = .ok (.getfield 132, 3) := by decide +kernel
theorem dX2_keep_63 : decode cX2_keep 63 = .ok (.aload_n 0, 1) := by decide +kernel
theorem dX2_keep_64 : decode cX2_keep 64 = .ok (.getfield 12, 3) := by decide +kernel
theorem dX2_keep_67 : decode cX2_keep 67 = .ok (.invokevirtual 135, 3) := by decide +kernel
theorem dX2_keep_70 : decode cX2_keep 70 = .ok (.pop, 1) := by decide +kernel
theorem dX2_keep_71 : decode cX2_keep 71 = .ok (.aload_n 0, 1) := by decide +kernel
theorem dX2_keep_72 : decode cX2_keep 72 = .ok (.aload_n 0, 1) := by decide +kernel
theorem dX2_keep_73 : decode cX2_keep 73 = .ok (.getfield 31, 3) := by decide +kernel
theorem dX2_keep_76 : decode cX2_keep 76 = .ok (.putfield 28, 3) := by decide +kernel
theorem dX2_keep_79 : decode cX2_keep 79 = .ok (.aload_n 0, 1) := by decide +kernel
theorem dX2_keep_80 : decode cX2_keep 80 = .ok (.dup, 1) := by decide +kernel
theorem dX2_keep_81 : decode cX2_keep 81 = .ok (.getfield 31, 3) := by decide +kernel
theorem dX2_keep_84 : decode cX2_keep 84 = .ok (.iconst 1, 1) := by decide +kernel
theorem dX2_keep_85 : decode cX2_keep 85 = .ok (.iadd, 1) := by decide +kernel
theorem dX2_keep_86 : decode cX2_keep 86 = .ok (.putfield 31, 3) := by decide +kernel
theorem dX2_keep_89 : decode cX2_keep 89 = .ok (.return_, 1) := by decide +kernel
def wp_X2_keep_89 (h : Nat)  (S : xm_S) (g : xm_S → Prop) : Prop :=
  g S
set_option maxRecDepth 100000 in
set_option maxHeartbeats 4000000 in
theorem kp_X2_keep_89 {K : xm_K} (h : Nat)  (S : xm_S) {g : xm_S → Prop} (C : xm_Cx K cX2_keep RX2 2 none rm_X2_keep) (N : xm_Nx K) (hg : ∀ S, g S → xm_q K none S)  (h1 : wp_X2_keep_89 h  S g) : xm_W K 0 0 89 [] [] S := by
  unfold wp_X2_keep_89 at h1
  exact x_vret C (Nat.le_of_ble_eq_true rfl) (Nat.le_of_ble_eq_true rfl) rfl dX2_keep_89 (hg _ h1)
def wp_X2_keep_17 (h : Nat)  (S : xm_S) (g : xm_S → Prop) : Prop :=
  st_t S h = some (2, 0) ∧ ((nI 6) ≤ (st_i S h 2) → wp_X2_keep_89 h S g) ∧ (¬ (nI 6) ≤ (st_i S h 2) → ∃ n2, (st_r S h 1) = some n2 ∧ ∃ z5, st_t S n2 = some (111, z5) ∧ vp_in (st_i S h 2) z5 ∧ ∀ S7, S7 = st_pi S h 2 ((st_i S h 2) + (1 : Int32)) → ∃ n9, (st_r S n2 ((st_i S h 2)).toNatClampNeg) = some n9 ∧ st_t S7 n9 = some (1, 0) ∧ ∀ S12, S12 = st_pi S7 n9 0 (st_i S7 h 4) → ∃ n14, (st_r S n2 ((st_i S h 2)).toNatClampNeg) = some n14 ∧ st_t S12 n14 = some (1, 0) ∧ ∀ S17, S17 = st_pi S12 n14 1 (0 : Int32) → ∃ n19, (st_r S n2 ((st_i S h 2)).toNatClampNeg) = some n19 ∧ st_t S17 n19 = some (1, 0) ∧ ∃ n22, (st_r S17 n19 2) = some n22 ∧ st_t S17 n22 = some (3, 0) ∧ wp_X3_becomeLike n22 (st_r S17 h 0) S17 (fun r26 S25 => st_t S25 h = some (2, 0) ∧ ∀ S28, S28 = st_pi S25 h 3 (st_i S25 h 4) → ∀ S30, S30 = st_pi S28 h 4 ((st_i S28 h 4) + (1 : Int32)) → wp_X2_keep_89 h S30 g))
set_option maxRecDepth 100000 in
set_option maxHeartbeats 4000000 in
theorem kp_X2_keep_17 {K : xm_K} (h : Nat)  (S : xm_S) {g : xm_S → Prop} (C : xm_Cx K cX2_keep RX2 2 none rm_X2_keep) (N : xm_Nx K) (hg : ∀ S, g S → xm_q K none S)  (h1 : wp_X2_keep_17 h  S g) : xm_W K 0 0 17 [(0, xm_r (some h))] [] S := by
  unfold wp_X2_keep_17 at h1
  refine x_aload_n C 0 dX2_keep_17 rfl rfl ?_
  obtain ⟨ht1, h1⟩ := h1
  refine x_getf_i (n := h) C rfl ht1 fd_18 (by decide) dX2_keep_18 ?_
  refine x_bipush (v := (nI 6)) C dX2_keep_21 (by decide) ?_
  refine x_icmp_ge (tgt := 89) C dX2_keep_23 (by decide) (fun z9 => ?_) (fun z9 => ?_)
  · have h1 := h1.1 z9
    refine x_keep (L' := []) C [] rfl ?_
    exact kp_X2_keep_89 h S C N hg  h1
  · have h1 := h1.2 z9
    refine x_aload_n C 0 dX2_keep_26 rfl rfl ?_
    refine x_getf_r (n := h) C rfl ht1 fd_19 (by decide) dX2_keep_27 ?_
    refine x_aload_n C 0 dX2_keep_30 rfl rfl ?_
    refine x_getf_i (n := h) C rfl ht1 fd_18 (by decide) dX2_keep_31 ?_
    obtain ⟨n2, hr3, h1⟩ := h1
    obtain ⟨z5, ht4, h1⟩ := h1
    obtain ⟨hi6, h1⟩ := h1
    refine x_aald (n := n2) C hr3 (by decide) rfl ht4 hi6 dX2_keep_34 ?_
    refine x_astore_n (L' := [(1, xm_r (st_r S n2 ((st_i S h 2)).toNatClampNeg)), (0, xm_r (some h))]) C dX2_keep_35 rfl (by decide) rfl ?_
    refine x_aload_n C 1 dX2_keep_36 rfl rfl ?_
    refine x_dup_r C dX2_keep_37 ?_
    refine x_getf_i (n := h) C rfl ht1 fd_18 (by decide) dX2_keep_38 ?_
    refine x_iconst (v := (1 : Int32)) C dX2_keep_41 (by decide) ?_
    refine x_iadd C dX2_keep_42 ?_
    refine x_putf_i (n := h) C rfl ht1 fd_18 xc_2 (by decide) rfl ⟨rfl, rfl⟩ dX2_keep_43 ?_
    refine x_topS (fun S7 e8 => ?_)
    have h1 := h1 S7 e8
    refine x_aload_n C 0 dX2_keep_46 rfl rfl ?_
    refine x_aload_n C 1 dX2_keep_47 rfl rfl ?_
    refine x_getf_i (n := h) C rfl (tk_p e8 ht1) fd_23 (by decide) dX2_keep_48 ?_
    obtain ⟨n9, hr10, h1⟩ := h1
    obtain ⟨ht11, h1⟩ := h1
    refine x_putf_i (n := n9) C hr10 ht11 fd_21 xc_1 (by decide) rfl ⟨rfl, rfl⟩ dX2_keep_51 ?_
    refine x_topS (fun S12 e13 => ?_)
    have h1 := h1 S12 e13
    refine x_aload_n C 0 dX2_keep_54 rfl rfl ?_
    refine x_iconst (v := (0 : Int32)) C dX2_keep_55 (by decide) ?_
    obtain ⟨n14, hr15, h1⟩ := h1
    obtain ⟨ht16, h1⟩ := h1
    refine x_putf_i (n := n14) C hr15 ht16 fd_20 xc_1 (by decide) rfl (xm_nz (by decide)) dX2_keep_56 ?_
    refine x_topS (fun S17 e18 => ?_)
    have h1 := h1 S17 e18
    refine x_aload_n C 0 dX2_keep_59 rfl rfl ?_
    obtain ⟨n19, hr20, h1⟩ := h1
    obtain ⟨ht21, h1⟩ := h1
    refine x_getf_r (n := n19) C hr20 ht21 fd_24 (by decide) dX2_keep_60 ?_
    refine x_aload_n C 1 dX2_keep_63 rfl rfl ?_
    refine x_getf_r (n := h) C rfl (tk_p e18 (tk_p e13 (tk_p e8 ht1))) fd_16 (by decide) dX2_keep_64 ?_
    obtain ⟨n22, hr23, h1⟩ := h1
    obtain ⟨ht24, h1⟩ := h1
    refine x_callV (rm' := rm_X3_becomeLike) (n := n22) C (kp_X3_becomeLike_met h1) lk_6 gw_56 gw_57 xv_3 rfl hr23 ht24 rfl (Nat.le_of_ble_eq_true rfl) ⟨Nat.le_of_ble_eq_true rfl, Nat.le_of_ble_eq_true rfl, (Nat.le_of_ble_eq_true rfl), (Nat.le_of_ble_eq_true rfl)⟩ dX2_keep_67 xm_kx (xm_ki (fun r26 S25 h1 => ?_))
    refine x_pop_i C dX2_keep_70 ?_
    refine x_aload_n C 1 dX2_keep_71 rfl rfl ?_
    refine x_aload_n C 1 dX2_keep_72 rfl rfl ?_
    obtain ⟨ht27, h1⟩ := h1
    refine x_getf_i (n := h) C rfl ht27 fd_23 (by decide) dX2_keep_73 ?_
    refine x_putf_i (n := h) C rfl ht27 fd_22 xc_2 (by decide) rfl ⟨rfl, rfl⟩ dX2_keep_76 ?_
    refine x_topS (fun S28 e29 => ?_)
    have h1 := h1 S28 e29
    refine x_aload_n C 1 dX2_keep_79 rfl rfl ?_
    refine x_dup_r C dX2_keep_80 ?_
    refine x_getf_i (n := h) C rfl (tk_p e29 ht27) fd_23 (by decide) dX2_keep_81 ?_
    refine x_iconst (v := (1 : Int32)) C dX2_keep_84 (by decide) ?_
    refine x_iadd C dX2_keep_85 ?_
    refine x_putf_i (n := h) C rfl (tk_p e29 ht27) fd_23 xc_2 (by decide) rfl ⟨rfl, rfl⟩ dX2_keep_86 ?_
    refine x_topS (fun S30 e31 => ?_)
    have h1 := h1 S30 e31
    refine x_keep (L' := []) C [] rfl ?_
    exact kp_X2_keep_89 h S30 C N hg  h1
def wp_X2_keep (h : Nat)  (S : xm_S) (g : xm_S → Prop) : Prop :=
  st_t S h = some (2, 0) ∧ ((st_i S h 2) < (nI 6) → wp_X2_keep_17 h S g) ∧ (¬ (st_i S h 2) < (nI 6) → wp_X2_leastToGo h S (fun r34 S33 => st_t S33 h = some (2, 0) ∧ wp_X2_drop h r34 S33 (fun S36 => wp_X2_keep_17 h S36 g)))
set_option maxRecDepth 100000 in
set_option maxHeartbeats 4000000 in
theorem kp_X2_keep {K : xm_K} (h : Nat)  (S : xm_S) {g : xm_S → Prop} (C : xm_Cx K cX2_keep RX2 2 none rm_X2_keep) (N : xm_Nx K) (hg : ∀ S, g S → xm_q K none S)  (h1 : wp_X2_keep h  S g) : xm_W K 0 0 0 [(0, xm_r (some h))] [] S := by
  unfold wp_X2_keep at h1
  refine x_aload_n C 0 dX2_keep_0 rfl rfl ?_
  obtain ⟨ht32, h1⟩ := h1
  refine x_getf_i (n := h) C rfl ht32 fd_18 (by decide) dX2_keep_1 ?_
  refine x_bipush (v := (nI 6)) C dX2_keep_4 (by decide) ?_
  refine x_icmp_lt (tgt := 17) C dX2_keep_6 (by decide) (fun z9 => ?_) (fun z9 => ?_)
  · have h1 := h1.1 z9
    exact kp_X2_keep_17 h S C N hg  h1
  · have h1 := h1.2 z9
    refine x_aload_n C 0 dX2_keep_9 rfl rfl ?_
    refine x_aload_n C 0 dX2_keep_10 rfl rfl ?_
    refine x_callV (rm' := rm_X2_leastToGo) (n := h) C (kp_X2_leastToGo_met h1) lk_7 gw_60 gw_61 xv_2 rfl rfl ht32 rfl (Nat.le_of_ble_eq_true rfl) ⟨Nat.le_of_ble_eq_true rfl, Nat.le_of_ble_eq_true rfl, (Nat.le_of_ble_eq_true rfl), (Nat.le_of_ble_eq_true rfl)⟩ dX2_keep_11 xm_kx (xm_ki (fun r34 S33 h1 => ?_))
    obtain ⟨ht35, h1⟩ := h1
    refine x_callV (rm' := rm_X2_drop) (n := h) C (kp_X2_drop_met h1) lk_8 gw_64 gw_65 xv_2 rfl rfl ht35 rfl (Nat.le_of_ble_eq_true rfl) ⟨Nat.le_of_ble_eq_true rfl, Nat.le_of_ble_eq_true rfl, (Nat.le_of_ble_eq_true rfl), (Nat.le_of_ble_eq_true rfl)⟩ dX2_keep_14 xm_kx (xm_kv (fun S36 h1 => ?_))
    exact kp_X2_keep_17 h S36 C N hg  h1
theorem kp_X2_keep_met {h : Nat}  {S : xm_S} {g : xm_S → Prop}  (h1 : wp_X2_keep h  S g) : xm_Met yX2_keep cX2_keep 2 none rm_X2_keep [xm_r (some h)] S (xm_qv g) xm_nox :=
  xm_ofW RX2 (by decide +kernel) rfl (Nat.le_of_ble_eq_true rfl) (fun K C N hq hx hi => kp_X2_keep h  S C N (fun S h => by rw [hq]; exact ⟨rfl, h⟩)  h1)
def rm_X2_layFiles : Room := { frames := 2, cells := 0, slots := 0, locals := 44 }
theorem dX2_layFiles_0 : decode cX2_layFiles 0 = .ok (.iconst 0, 1) := by decide +kernel
theorem dX2_layFiles_1 : decode cX2_layFiles 1 = .ok (.istore_n 3, 1) := by decide +kernel
theorem dX2_layFiles_2 : decode cX2_layFiles 2 = .ok (.iload_n 3, 1) := by decide +kernel
theorem dX2_layFiles_3 : decode cX2_layFiles 3 = .ok (.aload_n 2, 1) := by decide +kernel
theorem dX2_layFiles_4 : decode cX2_layFiles 4 = .ok (.getfield 87, 3) := by decide +kernel
theorem dX2_layFiles_7 : decode cX2_layFiles 7 = .ok (.if_icmp .ge 149, 3) := by decide +kernel
theorem dX2_layFiles_10 : decode cX2_layFiles 10 = .ok (.aload_n 0, 1) := by decide +kernel
theorem dX2_layFiles_11 : decode cX2_layFiles 11 = .ok (.iload_n 1, 1) := by decide +kernel
theorem dX2_layFiles_12 : decode cX2_layFiles 12 = .ok (.aload_n 2, 1) := by decide +kernel
theorem dX2_layFiles_13 : decode cX2_layFiles 13 = .ok (.getfield 92, 3) := by decide +kernel
theorem dX2_layFiles_16 : decode cX2_layFiles 16 = .ok (.iload_n 3, 1) := by decide +kernel
theorem dX2_layFiles_17 : decode cX2_layFiles 17 = .ok (.iaload, 1) := by decide +kernel
theorem dX2_layFiles_18 : decode cX2_layFiles 18 = .ok (.invokevirtual 95, 3) := by decide +kernel
theorem dX2_layFiles_21 : decode cX2_layFiles 21 = .ok (.istore 4, 2) := by decide +kernel
theorem dX2_layFiles_23 : decode cX2_layFiles 23 = .ok (.aload_n 2, 1) := by decide +kernel
theorem dX2_layFiles_24 : decode cX2_layFiles 24 = .ok (.getfield 109, 3) := by decide +kernel
theorem dX2_layFiles_27 : decode cX2_layFiles 27 = .ok (.iload_n 3, 1) := by decide +kernel
theorem dX2_layFiles_28 : decode cX2_layFiles 28 = .ok (.iaload, 1) := by decide +kernel
theorem dX2_layFiles_29 : decode cX2_layFiles 29 = .ok (.istore 5, 2) := by decide +kernel
theorem dX2_layFiles_31 : decode cX2_layFiles 31 = .ok (.aload_n 0, 1) := by decide +kernel
theorem dX2_layFiles_32 : decode cX2_layFiles 32 = .ok (.getfield 12, 3) := by decide +kernel
theorem dX2_layFiles_35 : decode cX2_layFiles 35 = .ok (.getfield 98, 3) := by decide +kernel
theorem dX2_layFiles_38 : decode cX2_layFiles 38 = .ok (.iload 4, 2) := by decide +kernel
theorem dX2_layFiles_40 : decode cX2_layFiles 40 = .ok (.iaload, 1) := by decide +kernel
theorem dX2_layFiles_41 : decode cX2_layFiles 41 = .ok (.istore 6, 2) := by decide +kernel
theorem dX2_layFiles_43 : decode cX2_layFiles 43 = .ok (.aload_n 0, 1) := by decide +kernel
theorem dX2_layFiles_44 : decode cX2_layFiles 44 = .ok (.getfield 12, 3) := by decide +kernel
theorem dX2_layFiles_47 : decode cX2_layFiles 47 = .ok (.getfield 112, 3) := by decide +kernel
theorem dX2_layFiles_50 : decode cX2_layFiles 50 = .ok (.iload 4, 2) := by decide +kernel
theorem dX2_layFiles_52 : decode cX2_layFiles 52 = .ok (.iaload, 1) := by decide +kernel
theorem dX2_layFiles_53 : decode cX2_layFiles 53 = .ok (.istore 7, 2) := by decide +kernel
theorem dX2_layFiles_55 : decode cX2_layFiles 55 = .ok (.aload_n 2, 1) := by decide +kernel
theorem dX2_layFiles_56 : decode cX2_layFiles 56 = .ok (.getfield 115, 3) := by decide +kernel
theorem dX2_layFiles_59 : decode cX2_layFiles 59 = .ok (.iload_n 3, 1) := by decide +kernel
theorem dX2_layFiles_60 : decode cX2_layFiles 60 = .ok (.baload, 1) := by decide +kernel
theorem dX2_layFiles_61 : decode cX2_layFiles 61 = .ok (.ifCond .eq 21, 3) := by decide +kernel
theorem dX2_layFiles_64 : decode cX2_layFiles 64 = .ok (.aload_n 0, 1) := by decide +kernel
theorem dX2_layFiles_65 : decode cX2_layFiles 65 = .ok (.getfield 12, 3) := by decide +kernel
theorem dX2_layFiles_68 : decode cX2_layFiles 68 = .ok (.getfield 118, 3) := by decide +kernel
theorem dX2_layFiles_71 : decode cX2_layFiles 71 = .ok (.iload 4, 2) := by decide +kernel
theorem dX2_layFiles_73 : decode cX2_layFiles 73 = .ok (.iaload, 1) := by decide +kernel
theorem dX2_layFiles_74 : decode cX2_layFiles 74 = .ok (.iload_n 1, 1) := by decide +kernel
theorem dX2_layFiles_75 : decode cX2_layFiles 75 = .ok (.if_icmp .ne 7, 3) := by decide +kernel
theorem dX2_layFiles_78 : decode cX2_layFiles 78 = .ok (.iconst 1, 1) := by decide +kernel
theorem dX2_layFiles_79 : decode cX2_layFiles 79 = .ok (.goto 4, 3) := by decide +kernel
theorem dX2_layFiles_82 : decode cX2_layFiles 82 = .ok (.iconst 0, 1) := by decide +kernel
theorem dX2_layFiles_83 : decode cX2_layFiles 83 = .ok (.istore 8, 2) := by decide +kernel
theorem dX2_layFiles_85 : decode cX2_layFiles 85 = .ok (.iload 8, 2) := by decide +kernel
theorem dX2_layFiles_87 : decode cX2_layFiles 87 = .ok (.ifCond .eq 14, 3) := by decide +kernel
theorem dX2_layFiles_90 : decode cX2_layFiles 90 = .ok (.iload 6, 2) := by decide +kernel
theorem dX2_layFiles_92 : decode cX2_layFiles 92 = .ok (.iload 7, 2) := by decide +kernel
theorem dX2_layFiles_94 : decode cX2_layFiles 94 = .ok (.if_icmp .eq 7, 3) := by decide +kernel
theorem dX2_layFiles_97 : decode cX2_layFiles 97 = .ok (.iconst 1, 1) := by decide +kernel
theorem dX2_layFiles_98 : decode cX2_layFiles 98 = .ok (.goto 4, 3) := by decide +kernel
theorem dX2_layFiles_101 : decode cX2_layFiles 101 = .ok (.iconst 0, 1) := by decide +kernel
theorem dX2_layFiles_102 : decode cX2_layFiles 102 = .ok (.istore 9, 2) := by decide +kernel
theorem dX2_layFiles_104 : decode cX2_layFiles 104 = .ok (.iload 9, 2) := by decide +kernel
theorem dX2_layFiles_106 : decode cX2_layFiles 106 = .ok (.ifCond .eq 20, 3) := by decide +kernel
theorem dX2_layFiles_109 : decode cX2_layFiles 109 = .ok (.iload 7, 2) := by decide +kernel
theorem dX2_layFiles_111 : decode cX2_layFiles 111 = .ok (.iload 5, 2) := by decide +kernel
theorem dX2_layFiles_113 : decode cX2_layFiles 113 = .ok (.if_icmp .eq 13, 3) := by decide +kernel
theorem dX2_layFiles_116 : decode cX2_layFiles 116 = .ok (.aload_n 0, 1) := by decide +kernel
theorem dX2_layFiles_117 : decode cX2_layFiles 117 = .ok (.dup, 1) := by decide +kernel
theorem dX2_layFiles_118 : decode cX2_layFiles 118 = .ok (.getfield 37, 3) := by decide +kernel
theorem dX2_layFiles_121 : decode cX2_layFiles 121 = .ok (.iconst 1, 1) := by decide +kernel
theorem dX2_layFiles_122 : decode cX2_layFiles 122 = .ok (.iadd, 1) := by decide +kernel
theorem dX2_layFiles_123 : decode cX2_layFiles 123 = .ok (.putfield 37, 3) := by decide +kernel
theorem dX2_layFiles_126 : decode cX2_layFiles 126 = .ok (.aload_n 0, 1) := by decide +kernel
theorem dX2_layFiles_127 : decode cX2_layFiles 127 = .ok (.getfield 12, 3) := by decide +kernel
theorem dX2_layFiles_130 : decode cX2_layFiles 130 = .ok (.iload 4, 2) := by decide +kernel
theorem dX2_layFiles_132 : decode cX2_layFiles 132 = .ok (.iload 9, 2) := by decide +kernel
theorem dX2_layFiles_134 : decode cX2_layFiles 134 = .ok (.ifCond .eq 8, 3) := by decide +kernel
theorem dX2_layFiles_137 : decode cX2_layFiles 137 = .ok (.iload 6, 2) := by decide +kernel
theorem dX2_layFiles_139 : decode cX2_layFiles 139 = .ok (.goto 5, 3) := by decide +kernel
theorem dX2_layFiles_142 : decode cX2_layFiles 142 = .ok (.iload 5, 2) := by decide +kernel
theorem dX2_layFiles_144 : decode cX2_layFiles 144 = .ok (.iload_n 1, 1) := by decide +kernel
theorem dX2_layFiles_145 : decode cX2_layFiles 145 = .ok (.iload 5, 2) := by decide +kernel
theorem dX2_layFiles_147 : decode cX2_layFiles 147 = .ok (.invokevirtual 105, 3) := by decide +kernel
theorem dX2_layFiles_150 : decode cX2_layFiles 150 = .ok (.iinc 3 1, 3) := by decide +kernel
theorem dX2_layFiles_153 : decode cX2_layFiles 153 = .ok (.goto (-151), 3) := by decide +kernel
theorem dX2_layFiles_156 : decode cX2_layFiles 156 = .ok (.return_, 1) := by decide +kernel
def wp_X2_layFiles_144 (h : Nat) (x1 : Int32) (x2 : Option Nat) (x3 : Int32) (x5 : Int32) (s0 : Int32) (s1 : Int32) (s2 : Option Nat) (S : xm_S) (g : xm_S → Prop) (Z2 : Int32 → Option Nat → Int32 → xm_S → Prop) : Prop :=
  ∃ n1, s2 = some n1 ∧ st_t S n1 = some (3, 0) ∧ wp_X3_put n1 s1 s0 x1 x5 S (fun S4 => ∀ y6, y6 = (x3 + (1 : Int32)) → Z2 x1 x2 y6 S4)
set_option maxRecDepth 100000 in
set_option maxHeartbeats 4000000 in
theorem kp_X2_layFiles_144 {K : xm_K} (h : Nat) (x1 : Int32) (x2 : Option Nat) (x3 : Int32) (x5 : Int32) (s0 : Int32) (s1 : Int32) (s2 : Option Nat) (S : xm_S) {g : xm_S → Prop} {Z2 : Int32 → Option Nat → Int32 → xm_S → Prop} (C : xm_Cx K cX2_layFiles RX2 10 none rm_X2_layFiles) (N : xm_Nx K) (hg : ∀ S, g S → xm_q K none S) (hZ2 : ∀ x1 x2 x3 S, Z2 x1 x2 x3 S → xm_W K 0 0 2 [(0, xm_r (some h)), (1, xm_i x1), (2, xm_r x2), (3, xm_i x3)] [] S) (h1 : wp_X2_layFiles_144 h x1 x2 x3 x5 s0 s1 s2 S g Z2) : xm_W K 0 0 144 [(0, xm_r (some h)), (1, xm_i x1), (2, xm_r x2), (3, xm_i x3), (5, xm_i x5)] [xm_i s0, xm_i s1, xm_r s2] S := by
  unfold wp_X2_layFiles_144 at h1
  refine x_iload_n C 1 dX2_layFiles_144 rfl rfl ?_
  refine x_iload C 4 dX2_layFiles_145 rfl ?_
  obtain ⟨n1, hr2, h1⟩ := h1
  obtain ⟨ht3, h1⟩ := h1
  refine x_callV (rm' := rm_X3_put) (n := n1) C (kp_X3_put_met h1) lk_3 gw_40 gw_41 xv_3 rfl hr2 ht3 rfl (Nat.le_of_ble_eq_true rfl) ⟨Nat.le_of_ble_eq_true rfl, Nat.le_of_ble_eq_true rfl, (Nat.le_of_ble_eq_true rfl), (Nat.le_of_ble_eq_true rfl)⟩ dX2_layFiles_147 xm_kx (xm_kv (fun S4 h1 => ?_))
  obtain ⟨y6, e7⟩ : ∃ y6, y6 = (x3 + (1 : Int32)) := ⟨_, rfl⟩
  have h1 := h1 y6 e7
  refine x_iinc (v := y6) (L' := [(3, xm_i y6), (0, xm_r (some h)), (1, xm_i x1), (2, xm_r x2), (5, xm_i x5)]) C 3 dX2_layFiles_150 rfl (by rw [e7]; rfl) (by decide) rfl ?_
  refine x_goto (tgt := 2) C dX2_layFiles_153 (by decide) ?_
  refine x_keep (L' := [(0, xm_r (some h)), (1, xm_i x1), (2, xm_r x2), (3, xm_i y6)]) C [1, 2, 3, 0] rfl ?_
  exact hZ2 x1 x2 y6 S4 h1
def wp_X2_layFiles_126 (h : Nat) (x1 : Int32) (x2 : Option Nat) (x3 : Int32) (x4 : Int32) (x5 : Int32) (x6 : Int32) (x9 : Int32) (S : xm_S) (g : xm_S → Prop) (Z2 : Int32 → Option Nat → Int32 → xm_S → Prop) : Prop :=
  st_t S h = some (2, 0) ∧ (x9 = 0 → wp_X2_layFiles_144 h x1 x2 x3 x5 x5 x4 (st_r S h 0) S g Z2) ∧ (¬ x9 = 0 → wp_X2_layFiles_144 h x1 x2 x3 x5 x6 x4 (st_r S h 0) S g Z2)
set_option maxRecDepth 100000 in
set_option maxHeartbeats 4000000 in
theorem kp_X2_layFiles_126 {K : xm_K} (h : Nat) (x1 : Int32) (x2 : Option Nat) (x3 : Int32) (x4 : Int32) (x5 : Int32) (x6 : Int32) (x9 : Int32) (S : xm_S) {g : xm_S → Prop} {Z2 : Int32 → Option Nat → Int32 → xm_S → Prop} (C : xm_Cx K cX2_layFiles RX2 10 none rm_X2_layFiles) (N : xm_Nx K) (hg : ∀ S, g S → xm_q K none S) (hZ2 : ∀ x1 x2 x3 S, Z2 x1 x2 x3 S → xm_W K 0 0 2 [(0, xm_r (some h)), (1, xm_i x1), (2, xm_r x2), (3, xm_i x3)] [] S) (h1 : wp_X2_layFiles_126 h x1 x2 x3 x4 x5 x6 x9 S g Z2) : xm_W K 0 0 126 [(0, xm_r (some h)), (1, xm_i x1), (2, xm_r x2), (3, xm_i x3), (4, xm_i x4), (5, xm_i x5), (6, xm_i x6), (9, xm_i x9)] [] S := by
  unfold wp_X2_layFiles_126 at h1
  refine x_aload_n C 0 dX2_layFiles_126 rfl rfl ?_
  obtain ⟨ht8, h1⟩ := h1
  refine x_getf_r (n := h) C rfl ht8 fd_16 (by decide) dX2_layFiles_127 ?_
  refine x_iload C 4 dX2_layFiles_130 rfl ?_
  refine x_iload C 7 dX2_layFiles_132 rfl ?_
  refine x_if_eq (tgt := 142) C dX2_layFiles_134 (by decide) (fun z9 => ?_) (fun z9 => ?_)
  · have h1 := h1.1 z9
    refine x_iload C 5 dX2_layFiles_142 rfl ?_
    refine x_keep (L' := [(0, xm_r (some h)), (1, xm_i x1), (2, xm_r x2), (3, xm_i x3), (5, xm_i x5)]) C [0, 1, 2, 3, 5] rfl ?_
    exact kp_X2_layFiles_144 h x1 x2 x3 x5 x5 x4 (st_r S h 0) S C N hg hZ2 h1
  · have h1 := h1.2 z9
    refine x_iload C 6 dX2_layFiles_137 rfl ?_
    refine x_goto (tgt := 144) C dX2_layFiles_139 (by decide) ?_
    refine x_keep (L' := [(0, xm_r (some h)), (1, xm_i x1), (2, xm_r x2), (3, xm_i x3), (5, xm_i x5)]) C [0, 1, 2, 3, 5] rfl ?_
    exact kp_X2_layFiles_144 h x1 x2 x3 x5 x6 x4 (st_r S h 0) S C N hg hZ2 h1
def wp_X2_layFiles_102 (h : Nat) (x1 : Int32) (x2 : Option Nat) (x3 : Int32) (x4 : Int32) (x5 : Int32) (x6 : Int32) (x7 : Int32) (s0 : Int32) (S : xm_S) (g : xm_S → Prop) (Z2 : Int32 → Option Nat → Int32 → xm_S → Prop) : Prop :=
  (s0 = 0 → wp_X2_layFiles_126 h x1 x2 x3 x4 x5 x6 s0 S g Z2) ∧ (¬ s0 = 0 → (x7 = x5 → wp_X2_layFiles_126 h x1 x2 x3 x4 x5 x6 s0 S g Z2) ∧ (¬ x7 = x5 → st_t S h = some (2, 0) ∧ ∀ S10, S10 = st_pi S h 6 ((st_i S h 6) + (1 : Int32)) → wp_X2_layFiles_126 h x1 x2 x3 x4 x5 x6 s0 S10 g Z2))
set_option maxRecDepth 100000 in
set_option maxHeartbeats 4000000 in
theorem kp_X2_layFiles_102 {K : xm_K} (h : Nat) (x1 : Int32) (x2 : Option Nat) (x3 : Int32) (x4 : Int32) (x5 : Int32) (x6 : Int32) (x7 : Int32) (s0 : Int32) (S : xm_S) {g : xm_S → Prop} {Z2 : Int32 → Option Nat → Int32 → xm_S → Prop} (C : xm_Cx K cX2_layFiles RX2 10 none rm_X2_layFiles) (N : xm_Nx K) (hg : ∀ S, g S → xm_q K none S) (hZ2 : ∀ x1 x2 x3 S, Z2 x1 x2 x3 S → xm_W K 0 0 2 [(0, xm_r (some h)), (1, xm_i x1), (2, xm_r x2), (3, xm_i x3)] [] S) (h1 : wp_X2_layFiles_102 h x1 x2 x3 x4 x5 x6 x7 s0 S g Z2) : xm_W K 0 0 102 [(0, xm_r (some h)), (1, xm_i x1), (2, xm_r x2), (3, xm_i x3), (4, xm_i x4), (5, xm_i x5), (6, xm_i x6), (7, xm_i x7)] [xm_i s0] S := by
  unfold wp_X2_layFiles_102 at h1
  refine x_istore (L' := [(9, xm_i s0), (0, xm_r (some h)), (1, xm_i x1), (2, xm_r x2), (3, xm_i x3), (4, xm_i x4), (5, xm_i x5), (6, xm_i x6), (7, xm_i x7)]) C dX2_layFiles_102 (by decide) rfl ?_
  refine x_iload C 0 dX2_layFiles_104 rfl ?_
  refine x_if_eq (tgt := 126) C dX2_layFiles_106 (by decide) (fun z9 => ?_) (fun z9 => ?_)
  · have h1 := h1.1 z9
    refine x_keep (L' := [(0, xm_r (some h)), (1, xm_i x1), (2, xm_r x2), (3, xm_i x3), (4, xm_i x4), (5, xm_i x5), (6, xm_i x6), (9, xm_i s0)]) C [1, 2, 3, 4, 5, 6, 7, 0] rfl ?_
    exact kp_X2_layFiles_126 h x1 x2 x3 x4 x5 x6 s0 S C N hg hZ2 h1
  · have h1 := h1.2 z9
    refine x_iload C 8 dX2_layFiles_109 rfl ?_
    refine x_iload C 6 dX2_layFiles_111 rfl ?_
    refine x_icmp_eq (tgt := 126) C dX2_layFiles_113 (by decide) (fun z9 => ?_) (fun z9 => ?_)
    · have h1 := h1.1 z9
      refine x_keep (L' := [(0, xm_r (some h)), (1, xm_i x1), (2, xm_r x2), (3, xm_i x3), (4, xm_i x4), (5, xm_i x5), (6, xm_i x6), (9, xm_i s0)]) C [1, 2, 3, 4, 5, 6, 7, 0] rfl ?_
      exact kp_X2_layFiles_126 h x1 x2 x3 x4 x5 x6 s0 S C N hg hZ2 h1
    · have h1 := h1.2 z9
      refine x_aload_n C 1 dX2_layFiles_116 rfl rfl ?_
      refine x_dup_r C dX2_layFiles_117 ?_
      obtain ⟨ht9, h1⟩ := h1
      refine x_getf_i (n := h) C rfl ht9 fd_25 (by decide) dX2_layFiles_118 ?_
      refine x_iconst (v := (1 : Int32)) C dX2_layFiles_121 (by decide) ?_
      refine x_iadd C dX2_layFiles_122 ?_
      refine x_putf_i (n := h) C rfl ht9 fd_25 xc_2 (by decide) rfl ⟨rfl, rfl⟩ dX2_layFiles_123 ?_
      refine x_topS (fun S10 e11 => ?_)
      have h1 := h1 S10 e11
      refine x_keep (L' := [(0, xm_r (some h)), (1, xm_i x1), (2, xm_r x2), (3, xm_i x3), (4, xm_i x4), (5, xm_i x5), (6, xm_i x6), (9, xm_i s0)]) C [1, 2, 3, 4, 5, 6, 7, 0] rfl ?_
      exact kp_X2_layFiles_126 h x1 x2 x3 x4 x5 x6 s0 S10 C N hg hZ2 h1
def wp_X2_layFiles_101 (h : Nat) (x1 : Int32) (x2 : Option Nat) (x3 : Int32) (x4 : Int32) (x5 : Int32) (x6 : Int32) (x7 : Int32) (S : xm_S) (g : xm_S → Prop) (Z2 : Int32 → Option Nat → Int32 → xm_S → Prop) : Prop :=
  wp_X2_layFiles_102 h x1 x2 x3 x4 x5 x6 x7 (0 : Int32) S g Z2
set_option maxRecDepth 100000 in
set_option maxHeartbeats 4000000 in
theorem kp_X2_layFiles_101 {K : xm_K} (h : Nat) (x1 : Int32) (x2 : Option Nat) (x3 : Int32) (x4 : Int32) (x5 : Int32) (x6 : Int32) (x7 : Int32) (S : xm_S) {g : xm_S → Prop} {Z2 : Int32 → Option Nat → Int32 → xm_S → Prop} (C : xm_Cx K cX2_layFiles RX2 10 none rm_X2_layFiles) (N : xm_Nx K) (hg : ∀ S, g S → xm_q K none S) (hZ2 : ∀ x1 x2 x3 S, Z2 x1 x2 x3 S → xm_W K 0 0 2 [(0, xm_r (some h)), (1, xm_i x1), (2, xm_r x2), (3, xm_i x3)] [] S) (h1 : wp_X2_layFiles_101 h x1 x2 x3 x4 x5 x6 x7 S g Z2) : xm_W K 0 0 101 [(0, xm_r (some h)), (1, xm_i x1), (2, xm_r x2), (3, xm_i x3), (4, xm_i x4), (5, xm_i x5), (6, xm_i x6), (7, xm_i x7)] [] S := by
  unfold wp_X2_layFiles_101 at h1
  refine x_iconst (v := (0 : Int32)) C dX2_layFiles_101 (by decide) ?_
  exact kp_X2_layFiles_102 h x1 x2 x3 x4 x5 x6 x7 (0 : Int32) S C N hg hZ2 h1
def wp_X2_layFiles_83 (h : Nat) (x1 : Int32) (x2 : Option Nat) (x3 : Int32) (x4 : Int32) (x5 : Int32) (x6 : Int32) (x7 : Int32) (s0 : Int32) (S : xm_S) (g : xm_S → Prop) (Z2 : Int32 → Option Nat → Int32 → xm_S → Prop) : Prop :=
  (s0 = 0 → wp_X2_layFiles_101 h x1 x2 x3 x4 x5 x6 x7 S g Z2) ∧ (¬ s0 = 0 → (x6 = x7 → wp_X2_layFiles_101 h x1 x2 x3 x4 x5 x6 x7 S g Z2) ∧ (¬ x6 = x7 → wp_X2_layFiles_102 h x1 x2 x3 x4 x5 x6 x7 (1 : Int32) S g Z2))
set_option maxRecDepth 100000 in
set_option maxHeartbeats 4000000 in
theorem kp_X2_layFiles_83 {K : xm_K} (h : Nat) (x1 : Int32) (x2 : Option Nat) (x3 : Int32) (x4 : Int32) (x5 : Int32) (x6 : Int32) (x7 : Int32) (s0 : Int32) (S : xm_S) {g : xm_S → Prop} {Z2 : Int32 → Option Nat → Int32 → xm_S → Prop} (C : xm_Cx K cX2_layFiles RX2 10 none rm_X2_layFiles) (N : xm_Nx K) (hg : ∀ S, g S → xm_q K none S) (hZ2 : ∀ x1 x2 x3 S, Z2 x1 x2 x3 S → xm_W K 0 0 2 [(0, xm_r (some h)), (1, xm_i x1), (2, xm_r x2), (3, xm_i x3)] [] S) (h1 : wp_X2_layFiles_83 h x1 x2 x3 x4 x5 x6 x7 s0 S g Z2) : xm_W K 0 0 83 [(0, xm_r (some h)), (1, xm_i x1), (2, xm_r x2), (3, xm_i x3), (4, xm_i x4), (5, xm_i x5), (6, xm_i x6), (7, xm_i x7)] [xm_i s0] S := by
  unfold wp_X2_layFiles_83 at h1
  refine x_istore (L' := [(8, xm_i s0), (0, xm_r (some h)), (1, xm_i x1), (2, xm_r x2), (3, xm_i x3), (4, xm_i x4), (5, xm_i x5), (6, xm_i x6), (7, xm_i x7)]) C dX2_layFiles_83 (by decide) rfl ?_
  refine x_iload C 0 dX2_layFiles_85 rfl ?_
  refine x_if_eq (tgt := 101) C dX2_layFiles_87 (by decide) (fun z9 => ?_) (fun z9 => ?_)
  · have h1 := h1.1 z9
    refine x_keep (L' := [(0, xm_r (some h)), (1, xm_i x1), (2, xm_r x2), (3, xm_i x3), (4, xm_i x4), (5, xm_i x5), (6, xm_i x6), (7, xm_i x7)]) C [1, 2, 3, 4, 5, 6, 7, 8] rfl ?_
    exact kp_X2_layFiles_101 h x1 x2 x3 x4 x5 x6 x7 S C N hg hZ2 h1
  · have h1 := h1.2 z9
    refine x_iload C 7 dX2_layFiles_90 rfl ?_
    refine x_iload C 8 dX2_layFiles_92 rfl ?_
    refine x_icmp_eq (tgt := 101) C dX2_layFiles_94 (by decide) (fun z9 => ?_) (fun z9 => ?_)
    · have h1 := h1.1 z9
      refine x_keep (L' := [(0, xm_r (some h)), (1, xm_i x1), (2, xm_r x2), (3, xm_i x3), (4, xm_i x4), (5, xm_i x5), (6, xm_i x6), (7, xm_i x7)]) C [1, 2, 3, 4, 5, 6, 7, 8] rfl ?_
      exact kp_X2_layFiles_101 h x1 x2 x3 x4 x5 x6 x7 S C N hg hZ2 h1
    · have h1 := h1.2 z9
      refine x_iconst (v := (1 : Int32)) C dX2_layFiles_97 (by decide) ?_
      refine x_goto (tgt := 102) C dX2_layFiles_98 (by decide) ?_
      refine x_keep (L' := [(0, xm_r (some h)), (1, xm_i x1), (2, xm_r x2), (3, xm_i x3), (4, xm_i x4), (5, xm_i x5), (6, xm_i x6), (7, xm_i x7)]) C [1, 2, 3, 4, 5, 6, 7, 8] rfl ?_
      exact kp_X2_layFiles_102 h x1 x2 x3 x4 x5 x6 x7 (1 : Int32) S C N hg hZ2 h1
def wp_X2_layFiles_82 (h : Nat) (x1 : Int32) (x2 : Option Nat) (x3 : Int32) (x4 : Int32) (x5 : Int32) (x6 : Int32) (x7 : Int32) (S : xm_S) (g : xm_S → Prop) (Z2 : Int32 → Option Nat → Int32 → xm_S → Prop) : Prop :=
  wp_X2_layFiles_83 h x1 x2 x3 x4 x5 x6 x7 (0 : Int32) S g Z2
set_option maxRecDepth 100000 in
set_option maxHeartbeats 4000000 in
theorem kp_X2_layFiles_82 {K : xm_K} (h : Nat) (x1 : Int32) (x2 : Option Nat) (x3 : Int32) (x4 : Int32) (x5 : Int32) (x6 : Int32) (x7 : Int32) (S : xm_S) {g : xm_S → Prop} {Z2 : Int32 → Option Nat → Int32 → xm_S → Prop} (C : xm_Cx K cX2_layFiles RX2 10 none rm_X2_layFiles) (N : xm_Nx K) (hg : ∀ S, g S → xm_q K none S) (hZ2 : ∀ x1 x2 x3 S, Z2 x1 x2 x3 S → xm_W K 0 0 2 [(0, xm_r (some h)), (1, xm_i x1), (2, xm_r x2), (3, xm_i x3)] [] S) (h1 : wp_X2_layFiles_82 h x1 x2 x3 x4 x5 x6 x7 S g Z2) : xm_W K 0 0 82 [(0, xm_r (some h)), (1, xm_i x1), (2, xm_r x2), (3, xm_i x3), (4, xm_i x4), (5, xm_i x5), (6, xm_i x6), (7, xm_i x7)] [] S := by
  unfold wp_X2_layFiles_82 at h1
  refine x_iconst (v := (0 : Int32)) C dX2_layFiles_82 (by decide) ?_
  exact kp_X2_layFiles_83 h x1 x2 x3 x4 x5 x6 x7 (0 : Int32) S C N hg hZ2 h1
def wp_X2_layFiles_2B (h : Nat) (x1 : Int32) (x2 : Option Nat) (x3 : Int32) (S : xm_S) (g : xm_S → Prop) (Z2 : Int32 → Option Nat → Int32 → xm_S → Prop) : Prop :=
  ∃ n12, x2 = some n12 ∧ st_t S n12 = some (10, 0) ∧ ((st_i S n12 16) ≤ x3 → g S) ∧ (¬ (st_i S n12 16) ≤ x3 → ∃ n15, x2 = some n15 ∧ st_t S n15 = some (10, 0) ∧ ∃ n18, (st_r S n15 13) = some n18 ∧ ∃ z21, st_t S n18 = some (100, z21) ∧ vp_in x3 z21 ∧ st_t S h = some (2, 0) ∧ wp_X2_targetOf h x1 (st_i S n18 (x3).toNatClampNeg) S (fun r25 S24 => ∃ n26, x2 = some n26 ∧ st_t S24 n26 = some (10, 0) ∧ ∃ n29, (st_r S24 n26 14) = some n29 ∧ ∃ z32, st_t S24 n29 = some (100, z32) ∧ vp_in x3 z32 ∧ ∀ y34, y34 = (st_i S24 n29 (x3).toNatClampNeg) → st_t S24 h = some (2, 0) ∧ ∃ n37, (st_r S24 h 0) = some n37 ∧ st_t S24 n37 = some (3, 0) ∧ ∃ n40, (st_r S24 n37 1) = some n40 ∧ ∃ z43, st_t S24 n40 = some (100, z43) ∧ vp_in r25 z43 ∧ ∀ y45, y45 = (st_i S24 n40 (r25).toNatClampNeg) → ∃ n47, (st_r S24 h 0) = some n47 ∧ st_t S24 n47 = some (3, 0) ∧ ∃ n50, (st_r S24 n47 3) = some n50 ∧ ∃ z53, st_t S24 n50 = some (100, z53) ∧ vp_in r25 z53 ∧ ∀ y55, y55 = (st_i S24 n50 (r25).toNatClampNeg) → ∃ n57, x2 = some n57 ∧ st_t S24 n57 = some (10, 0) ∧ ∃ n60, (st_r S24 n57 15) = some n60 ∧ ∃ z63, st_t S24 n60 = some (101, z63) ∧ vp_in x3 z63 ∧ ((st_i S24 n60 (x3).toNatClampNeg) = 0 → wp_X2_layFiles_82 h x1 x2 x3 r25 y34 y45 y55 S24 g Z2) ∧ (¬ (st_i S24 n60 (x3).toNatClampNeg) = 0 → ∃ n65, (st_r S24 h 0) = some n65 ∧ st_t S24 n65 = some (3, 0) ∧ ∃ n68, (st_r S24 n65 2) = some n68 ∧ ∃ z71, st_t S24 n68 = some (100, z71) ∧ vp_in r25 z71 ∧ (¬ (st_i S24 n68 (r25).toNatClampNeg) = x1 → wp_X2_layFiles_82 h x1 x2 x3 r25 y34 y45 y55 S24 g Z2) ∧ ((st_i S24 n68 (r25).toNatClampNeg) = x1 → wp_X2_layFiles_83 h x1 x2 x3 r25 y34 y45 y55 (1 : Int32) S24 g Z2))))
def wp_X2_layFiles_2 (h : Nat) (x1 : Int32) (x2 : Option Nat) (x3 : Int32) (S : xm_S) (g : xm_S → Prop) : Prop :=
  ∀ Z2 : Int32 → Option Nat → Int32 → xm_S → Prop, (∀ x1 x2 x3 S, wp_X2_layFiles_2B h x1 x2 x3 S g Z2 → Z2 x1 x2 x3 S) → Z2 x1 x2 x3 S
set_option maxRecDepth 100000 in
set_option maxHeartbeats 4000000 in
theorem kp_X2_layFiles_2B {K : xm_K} (h : Nat) (x1 : Int32) (x2 : Option Nat) (x3 : Int32) (S : xm_S) {g : xm_S → Prop} {Z2 : Int32 → Option Nat → Int32 → xm_S → Prop} (C : xm_Cx K cX2_layFiles RX2 10 none rm_X2_layFiles) (N : xm_Nx K) (hg : ∀ S, g S → xm_q K none S) (hZ2 : ∀ x1 x2 x3 S, Z2 x1 x2 x3 S → xm_W K 0 0 2 [(0, xm_r (some h)), (1, xm_i x1), (2, xm_r x2), (3, xm_i x3)] [] S) (h1 : wp_X2_layFiles_2B h x1 x2 x3 S g Z2) : xm_W K 0 0 2 [(0, xm_r (some h)), (1, xm_i x1), (2, xm_r x2), (3, xm_i x3)] [] S := by
  unfold wp_X2_layFiles_2B at h1
  refine x_iload_n C 3 dX2_layFiles_2 rfl rfl ?_
  refine x_aload_n C 2 dX2_layFiles_3 rfl rfl ?_
  obtain ⟨n12, hr13, h1⟩ := h1
  obtain ⟨ht14, h1⟩ := h1
  refine x_getf_i (n := n12) C hr13 ht14 fd_12 (by decide) dX2_layFiles_4 ?_
  refine x_icmp_ge (tgt := 156) C dX2_layFiles_7 (by decide) (fun z9 => ?_) (fun z9 => ?_)
  · have h1 := h1.1 z9
    exact x_vret C (Nat.le_of_ble_eq_true rfl) (Nat.le_of_ble_eq_true rfl) rfl dX2_layFiles_156 (hg _ h1)
  · have h1 := h1.2 z9
    refine x_aload_n C 0 dX2_layFiles_10 rfl rfl ?_
    refine x_iload_n C 1 dX2_layFiles_11 rfl rfl ?_
    refine x_aload_n C 2 dX2_layFiles_12 rfl rfl ?_
    obtain ⟨n15, hr16, h1⟩ := h1
    obtain ⟨ht17, h1⟩ := h1
    refine x_getf_r (n := n15) C hr16 ht17 fd_13 (by decide) dX2_layFiles_13 ?_
    refine x_iload_n C 3 dX2_layFiles_16 rfl rfl ?_
    obtain ⟨n18, hr19, h1⟩ := h1
    obtain ⟨z21, ht20, h1⟩ := h1
    obtain ⟨hi22, h1⟩ := h1
    refine x_iald (n := n18) C hr19 ht20 hi22 dX2_layFiles_17 ?_
    obtain ⟨ht23, h1⟩ := h1
    refine x_callV (rm' := rm_X2_targetOf) (n := h) C (kp_X2_targetOf_met h1) lk_1 gw_28 gw_29 xv_2 rfl rfl ht23 rfl (Nat.le_of_ble_eq_true rfl) ⟨Nat.le_of_ble_eq_true rfl, Nat.le_of_ble_eq_true rfl, (Nat.le_of_ble_eq_true rfl), (Nat.le_of_ble_eq_true rfl)⟩ dX2_layFiles_18 xm_kx (xm_ki (fun r25 S24 h1 => ?_))
    refine x_istore (L' := [(4, xm_i r25), (0, xm_r (some h)), (1, xm_i x1), (2, xm_r x2), (3, xm_i x3)]) C dX2_layFiles_21 (by decide) rfl ?_
    refine x_aload_n C 3 dX2_layFiles_23 rfl rfl ?_
    obtain ⟨n26, hr27, h1⟩ := h1
    obtain ⟨ht28, h1⟩ := h1
    refine x_getf_r (n := n26) C hr27 ht28 fd_26 (by decide) dX2_layFiles_24 ?_
    refine x_iload_n C 4 dX2_layFiles_27 rfl rfl ?_
    obtain ⟨n29, hr30, h1⟩ := h1
    obtain ⟨z32, ht31, h1⟩ := h1
    obtain ⟨hi33, h1⟩ := h1
    refine x_iald (n := n29) C hr30 ht31 hi33 dX2_layFiles_28 ?_
    refine x_topi (fun y34 e35 => ?_)
    have h1 := h1 y34 e35
    refine x_istore (L' := [(5, xm_i y34), (4, xm_i r25), (0, xm_r (some h)), (1, xm_i x1), (2, xm_r x2), (3, xm_i x3)]) C dX2_layFiles_29 (by decide) rfl ?_
    refine x_aload_n C 2 dX2_layFiles_31 rfl rfl ?_
    obtain ⟨ht36, h1⟩ := h1
    refine x_getf_r (n := h) C rfl ht36 fd_16 (by decide) dX2_layFiles_32 ?_
    obtain ⟨n37, hr38, h1⟩ := h1
    obtain ⟨ht39, h1⟩ := h1
    refine x_getf_r (n := n37) C hr38 ht39 fd_17 (by decide) dX2_layFiles_35 ?_
    refine x_iload C 1 dX2_layFiles_38 rfl ?_
    obtain ⟨n40, hr41, h1⟩ := h1
    obtain ⟨z43, ht42, h1⟩ := h1
    obtain ⟨hi44, h1⟩ := h1
    refine x_iald (n := n40) C hr41 ht42 hi44 dX2_layFiles_40 ?_
    refine x_topi (fun y45 e46 => ?_)
    have h1 := h1 y45 e46
    refine x_istore (L' := [(6, xm_i y45), (5, xm_i y34), (4, xm_i r25), (0, xm_r (some h)), (1, xm_i x1), (2, xm_r x2), (3, xm_i x3)]) C dX2_layFiles_41 (by decide) rfl ?_
    refine x_aload_n C 3 dX2_layFiles_43 rfl rfl ?_
    refine x_getf_r (n := h) C rfl ht36 fd_16 (by decide) dX2_layFiles_44 ?_
    obtain ⟨n47, hr48, h1⟩ := h1
    obtain ⟨ht49, h1⟩ := h1
    refine x_getf_r (n := n47) C hr48 ht49 fd_27 (by decide) dX2_layFiles_47 ?_
    refine x_iload C 2 dX2_layFiles_50 rfl ?_
    obtain ⟨n50, hr51, h1⟩ := h1
    obtain ⟨z53, ht52, h1⟩ := h1
    obtain ⟨hi54, h1⟩ := h1
    refine x_iald (n := n50) C hr51 ht52 hi54 dX2_layFiles_52 ?_
    refine x_topi (fun y55 e56 => ?_)
    have h1 := h1 y55 e56
    refine x_istore (L' := [(7, xm_i y55), (6, xm_i y45), (5, xm_i y34), (4, xm_i r25), (0, xm_r (some h)), (1, xm_i x1), (2, xm_r x2), (3, xm_i x3)]) C dX2_layFiles_53 (by decide) rfl ?_
    refine x_aload_n C 6 dX2_layFiles_55 rfl rfl ?_
    obtain ⟨n57, hr58, h1⟩ := h1
    obtain ⟨ht59, h1⟩ := h1
    refine x_getf_r (n := n57) C hr58 ht59 fd_28 (by decide) dX2_layFiles_56 ?_
    refine x_iload_n C 7 dX2_layFiles_59 rfl rfl ?_
    obtain ⟨n60, hr61, h1⟩ := h1
    obtain ⟨z63, ht62, h1⟩ := h1
    obtain ⟨hi64, h1⟩ := h1
    refine x_zald (n := n60) C hr61 ht62 hi64 dX2_layFiles_60 ?_
    refine x_if_eq (tgt := 82) C dX2_layFiles_61 (by decide) (fun z9 => ?_) (fun z9 => ?_)
    · have h1 := h1.1 z9
      refine x_keep (L' := [(0, xm_r (some h)), (1, xm_i x1), (2, xm_r x2), (3, xm_i x3), (4, xm_i r25), (5, xm_i y34), (6, xm_i y45), (7, xm_i y55)]) C [4, 5, 6, 7, 3, 2, 1, 0] rfl ?_
      exact kp_X2_layFiles_82 h x1 x2 x3 r25 y34 y45 y55 S24 C N hg hZ2 h1
    · have h1 := h1.2 z9
      refine x_aload_n C 4 dX2_layFiles_64 rfl rfl ?_
      refine x_getf_r (n := h) C rfl ht36 fd_16 (by decide) dX2_layFiles_65 ?_
      obtain ⟨n65, hr66, h1⟩ := h1
      obtain ⟨ht67, h1⟩ := h1
      refine x_getf_r (n := n65) C hr66 ht67 fd_29 (by decide) dX2_layFiles_68 ?_
      refine x_iload C 3 dX2_layFiles_71 rfl ?_
      obtain ⟨n68, hr69, h1⟩ := h1
      obtain ⟨z71, ht70, h1⟩ := h1
      obtain ⟨hi72, h1⟩ := h1
      refine x_iald (n := n68) C hr69 ht70 hi72 dX2_layFiles_73 ?_
      refine x_iload_n C 5 dX2_layFiles_74 rfl rfl ?_
      refine x_icmp_ne (tgt := 82) C dX2_layFiles_75 (by decide) (fun z9 => ?_) (fun z9 => ?_)
      · have h1 := h1.1 z9
        refine x_keep (L' := [(0, xm_r (some h)), (1, xm_i x1), (2, xm_r x2), (3, xm_i x3), (4, xm_i r25), (5, xm_i y34), (6, xm_i y45), (7, xm_i y55)]) C [4, 5, 6, 7, 3, 2, 1, 0] rfl ?_
        exact kp_X2_layFiles_82 h x1 x2 x3 r25 y34 y45 y55 S24 C N hg hZ2 h1
      · have h1 := h1.2 z9
        refine x_iconst (v := (1 : Int32)) C dX2_layFiles_78 (by decide) ?_
        refine x_goto (tgt := 83) C dX2_layFiles_79 (by decide) ?_
        refine x_keep (L' := [(0, xm_r (some h)), (1, xm_i x1), (2, xm_r x2), (3, xm_i x3), (4, xm_i r25), (5, xm_i y34), (6, xm_i y45), (7, xm_i y55)]) C [4, 5, 6, 7, 3, 2, 1, 0] rfl ?_
        exact kp_X2_layFiles_83 h x1 x2 x3 r25 y34 y45 y55 (1 : Int32) S24 C N hg hZ2 h1
theorem kp_X2_layFiles_2 {K : xm_K} (h : Nat) (x1 : Int32) (x2 : Option Nat) (x3 : Int32) (S : xm_S) {g : xm_S → Prop} (C : xm_Cx K cX2_layFiles RX2 10 none rm_X2_layFiles) (N : xm_Nx K) (hg : ∀ S, g S → xm_q K none S)  (h1 : wp_X2_layFiles_2 h x1 x2 x3 S g) : xm_W K 0 0 2 [(0, xm_r (some h)), (1, xm_i x1), (2, xm_r x2), (3, xm_i x3)] [] S :=
  h1 (fun x1 x2 x3 S => xm_W K 0 0 2 [(0, xm_r (some h)), (1, xm_i x1), (2, xm_r x2), (3, xm_i x3)] [] S) (fun x1 x2 x3 S hb => kp_X2_layFiles_2B h x1 x2 x3 S C N hg (fun x1 x2 x3 S hz => hz) hb)
def wp_X2_layFiles (h : Nat) (x1 : Int32) (x2 : Option Nat) (S : xm_S) (g : xm_S → Prop) : Prop :=
  wp_X2_layFiles_2 h x1 x2 (0 : Int32) S g
set_option maxRecDepth 100000 in
set_option maxHeartbeats 4000000 in
theorem kp_X2_layFiles {K : xm_K} (h : Nat) (x1 : Int32) (x2 : Option Nat) (S : xm_S) {g : xm_S → Prop} (C : xm_Cx K cX2_layFiles RX2 10 none rm_X2_layFiles) (N : xm_Nx K) (hg : ∀ S, g S → xm_q K none S)  (h1 : wp_X2_layFiles h x1 x2 S g) : xm_W K 0 0 0 [(0, xm_r (some h)), (1, xm_i x1), (2, xm_r x2)] [] S := by
  unfold wp_X2_layFiles at h1
  refine x_iconst (v := (0 : Int32)) C dX2_layFiles_0 (by decide) ?_
  refine x_istore_n (L' := [(3, xm_i (0 : Int32)), (0, xm_r (some h)), (1, xm_i x1), (2, xm_r x2)]) C dX2_layFiles_1 rfl (by decide) rfl ?_
  refine x_keep (L' := [(0, xm_r (some h)), (1, xm_i x1), (2, xm_r x2), (3, xm_i (0 : Int32))]) C [1, 2, 3, 0] rfl ?_
  exact kp_X2_layFiles_2 h x1 x2 (0 : Int32) S C N hg  h1
theorem kp_X2_layFiles_met {h : Nat} {x1 : Int32} {x2 : Option Nat} {S : xm_S} {g : xm_S → Prop}  (h1 : wp_X2_layFiles h x1 x2 S g) : xm_Met yX2_layFiles cX2_layFiles 10 none rm_X2_layFiles [xm_r (some h), xm_i x1, xm_r x2] S (xm_qv g) xm_nox :=
  xm_ofW RX2 (by decide +kernel) rfl (Nat.le_of_ble_eq_true rfl) (fun K C N hq hx hi => kp_X2_layFiles h x1 x2 S C N (fun S h => by rw [hq]; exact ⟨rfl, h⟩)  h1)
def rm_X2_bring : Room := { frames := 4, cells := 0, slots := 0, locals := 89 }
theorem dX2_bring_0 : decode cX2_bring 0 = .ok (.aload_n 0, 1) := by decide +kernel
theorem dX2_bring_1 : decode cX2_bring 1 = .ok (.aload_n 1, 1) := by decide +kernel
theorem dX2_bring_2 : decode cX2_bring 2 = .ok (.aload_n 2, 1) := by decide +kernel
theorem dX2_bring_3 : decode cX2_bring 3 = .ok (.invokevirtual 52, 3) := by decide +kernel
theorem dX2_bring_6 : decode cX2_bring 6 = .ok (.istore 4, 2) := by decide +kernel
theorem dX2_bring_8 : decode cX2_bring 8 = .ok (.iload 4, 2) := by decide +kernel
theorem dX2_bring_10 : decode cX2_bring 10 = .ok (.iconst (-1), 1) := by decide +kernel
theorem dX2_bring_11 : decode cX2_bring 11 = .ok (.if_icmp .ne 6, 3) := by decide +kernel
theorem dX2_bring_14 : decode cX2_bring 14 = .ok (.bipush (-2), 2) := by decide +kernel
theorem dX2_bring_16 : decode cX2_bring 16 = .ok (.ireturn, 1) := by decide +kernel
theorem dX2_bring_17 : decode cX2_bring 17 = .ok (.aload_n 0, 1) := by decide +kernel
theorem dX2_bring_18 : decode cX2_bring 18 = .ok (.getfield 24, 3) := by decide +kernel
theorem dX2_bring_21 : decode cX2_bring 21 = .ok (.bipush 6, 2) := by decide +kernel
theorem dX2_bring_23 : decode cX2_bring 23 = .ok (.if_icmp .lt 14, 3) := by decide +kernel
theorem dX2_bring_26 : decode cX2_bring 26 = .ok (.aload_n 0, 1) := by decide +kernel
theorem dX2_bring_27 : decode cX2_bring 27 = .ok (.invokevirtual 56, 3) := by decide +kernel
theorem dX2_bring_30 : decode cX2_bring 30 = .ok (.iconst (-1), 1) := by decide +kernel
theorem dX2_bring_31 : decode cX2_bring 31 = .ok (.if_icmp .ne 6, 3) := by decide +kernel
theorem dX2_bring_34 : decode cX2_bring 34 = .ok (.bipush (-3), 2) := by decide +kernel
theorem dX2_bring_36 : decode cX2_bring 36 = .ok (.ireturn, 1) := by decide +kernel
theorem dX2_bring_37 : decode cX2_bring 37 = .ok (.aload_n 0, 1) := by decide +kernel
theorem dX2_bring_38 : decode cX2_bring 38 = .ok (.invokevirtual 60, 3) := by decide +kernel
theorem dX2_bring_41 : decode cX2_bring 41 = .ok (.iload 4, 2) := by decide +kernel
theorem dX2_bring_43 : decode cX2_bring 43 = .ok (.iadd, 1) := by decide +kernel
theorem dX2_bring_44 : decode cX2_bring 44 = .ok (.iconst 1, 1) := by decide +kernel
theorem dX2_bring_45 : decode cX2_bring 45 = .ok (.iadd, 1) := by decide +kernel
theorem dX2_bring_46 : decode cX2_bring 46 = .ok (.istore 5, 2) := by decide +kernel
theorem dX2_bring_48 : decode cX2_bring 48 = .ok (.aload_n 0, 1) := by decide +kernel
theorem dX2_bring_49 : decode cX2_bring 49 = .ok (.iload 5, 2) := by decide +kernel
theorem dX2_bring_51 : decode cX2_bring 51 = .ok (.iload_n 3, 1) := by decide +kernel
theorem dX2_bring_52 : decode cX2_bring 52 = .ok (.invokestatic 63, 3) := by decide +kernel
theorem dX2_bring_55 : decode cX2_bring 55 = .ok (.putfield 34, 3) := by decide +kernel
theorem dX2_bring_58 : decode cX2_bring 58 = .ok (.iload_n 3, 1) := by decide +kernel
theorem dX2_bring_59 : decode cX2_bring 59 = .ok (.iload 5, 2) := by decide +kernel
theorem dX2_bring_61 : decode cX2_bring 61 = .ok (.if_icmp .ge 5, 3) := by decide +kernel
theorem dX2_bring_64 : decode cX2_bring 64 = .ok (.iconst (-1), 1) := by decide +kernel
theorem dX2_bring_65 : decode cX2_bring 65 = .ok (.ireturn, 1) := by decide +kernel
theorem dX2_bring_66 : decode cX2_bring 66 = .ok (.aload_n 0, 1) := by decide +kernel
theorem dX2_bring_67 : decode cX2_bring 67 = .ok (.invokevirtual 69, 3) := by decide +kernel
theorem dX2_bring_70 : decode cX2_bring 70 = .ok (.iconst 0, 1) := by decide +kernel
theorem dX2_bring_71 : decode cX2_bring 71 = .ok (.istore 6, 2) := by decide +kernel
theorem dX2_bring_73 : decode cX2_bring 73 = .ok (.iload 6, 2) := by decide +kernel
theorem dX2_bring_75 : decode cX2_bring 75 = .ok (.bipush 6, 2) := by decide +kernel
theorem dX2_bring_77 : decode cX2_bring 77 = .ok (.if_icmp .ge 49, 3) := by decide +kernel
theorem dX2_bring_80 : decode cX2_bring 80 = .ok (.aload_n 0, 1) := by decide +kernel
theorem dX2_bring_81 : decode cX2_bring 81 = .ok (.getfield 12, 3) := by decide +kernel
theorem dX2_bring_84 : decode cX2_bring 84 = .ok (.getfield 72, 3) := by decide +kernel
theorem dX2_bring_87 : decode cX2_bring 87 = .ok (.iload 6, 2) := by decide +kernel
theorem dX2_bring_89 : decode cX2_bring 89 = .ok (.aload_n 2, 1) := by decide +kernel
theorem dX2_bring_90 : decode cX2_bring 90 = .ok (.iload 6, 2) := by decide +kernel
theorem dX2_bring_92 : decode cX2_bring 92 = .ok (.iaload, 1) := by decide +kernel
theorem dX2_bring_93 : decode cX2_bring 93 = .ok (.iastore, 1) := by decide +kernel
theorem dX2_bring_94 : decode cX2_bring 94 = .ok (.aload_n 2, 1) := by decide +kernel
theorem dX2_bring_95 : decode cX2_bring 95 = .ok (.iload 6, 2) := by decide +kernel
theorem dX2_bring_97 : decode cX2_bring 97 = .ok (.iaload, 1) := by decide +kernel
theorem dX2_bring_98 : decode cX2_bring 98 = .ok (.iconst (-1), 1) := by decide +kernel
theorem dX2_bring_99 : decode cX2_bring 99 = .ok (.if_icmp .eq 21, 3) := by decide +kernel
theorem dX2_bring_102 : decode cX2_bring 102 = .ok (.aload_n 0, 1) := by decide +kernel
theorem dX2_bring_103 : decode cX2_bring 103 = .ok (.iload 6, 2) := by decide +kernel
theorem dX2_bring_105 : decode cX2_bring 105 = .ok (.aload_n 1, 1) := by decide +kernel
theorem dX2_bring_106 : decode cX2_bring 106 = .ok (.iload 6, 2) := by decide +kernel
theorem dX2_bring_108 : decode cX2_bring 108 = .ok (.aaload, 1) := by decide +kernel
theorem dX2_bring_109 : decode cX2_bring 109 = .ok (.getfield 75, 3) := by decide +kernel
theorem dX2_bring_112 : decode cX2_bring 112 = .ok (.aload_n 2, 1) := by decide +kernel
theorem dX2_bring_113 : decode cX2_bring 113 = .ok (.iload 6, 2) := by decide +kernel
theorem dX2_bring_115 : decode cX2_bring 115 = .ok (.iaload, 1) := by decide +kernel
theorem dX2_bring_116 : decode cX2_bring 116 = .ok (.aaload, 1) := by decide +kernel
theorem dX2_bring_117 : decode cX2_bring 117 = .ok (.invokevirtual 80, 3) := by decide +kernel
theorem dX2_bring_120 : decode cX2_bring 120 = .ok (.iinc 6 1, 3) := by decide +kernel
theorem dX2_bring_123 : decode cX2_bring 123 = .ok (.goto (-50), 3) := by decide +kernel
theorem dX2_bring_126 : decode cX2_bring 126 = .ok (.aload_n 0, 1) := by decide +kernel
theorem dX2_bring_127 : decode cX2_bring 127 = .ok (.invokevirtual 84, 3) := by decide +kernel
theorem dX2_bring_130 : decode cX2_bring 130 = .ok (.aload_n 0, 1) := by decide +kernel
theorem dX2_bring_131 : decode cX2_bring 131 = .ok (.getfield 28, 3) := by decide +kernel
theorem dX2_bring_134 : decode cX2_bring 134 = .ok (.ireturn, 1) := by decide +kernel
def wp_X2_bring_120 (h : Nat) (x1 : Option Nat) (x2 : Option Nat) (x6 : Int32) (S : xm_S) (g : Int32 → xm_S → Prop) (Z73 : Option Nat → Option Nat → Int32 → xm_S → Prop) : Prop :=
  ∀ y1, y1 = (x6 + (1 : Int32)) → Z73 x1 x2 y1 S
set_option maxRecDepth 100000 in
set_option maxHeartbeats 4000000 in
theorem kp_X2_bring_120 {K : xm_K} (h : Nat) (x1 : Option Nat) (x2 : Option Nat) (x6 : Int32) (S : xm_S) {g : Int32 → xm_S → Prop} {Z73 : Option Nat → Option Nat → Int32 → xm_S → Prop} (C : xm_Cx K cX2_bring RX2 7 (some (FieldType.int)) rm_X2_bring) (N : xm_Nx K) (hg : ∀ v S, g v S → xm_q K (some (xm_i v)) S) (hZ73 : ∀ x1 x2 x6 S, Z73 x1 x2 x6 S → xm_W K 0 0 73 [(0, xm_r (some h)), (1, xm_r x1), (2, xm_r x2), (6, xm_i x6)] [] S) (h1 : wp_X2_bring_120 h x1 x2 x6 S g Z73) : xm_W K 0 0 120 [(0, xm_r (some h)), (1, xm_r x1), (2, xm_r x2), (6, xm_i x6)] [] S := by
  unfold wp_X2_bring_120 at h1
  obtain ⟨y1, e2⟩ : ∃ y1, y1 = (x6 + (1 : Int32)) := ⟨_, rfl⟩
  have h1 := h1 y1 e2
  refine x_iinc (v := y1) (L' := [(6, xm_i y1), (0, xm_r (some h)), (1, xm_r x1), (2, xm_r x2)]) C 3 dX2_bring_120 rfl (by rw [e2]; rfl) (by decide) rfl ?_
  refine x_goto (tgt := 73) C dX2_bring_123 (by decide) ?_
  refine x_keep (L' := [(0, xm_r (some h)), (1, xm_r x1), (2, xm_r x2), (6, xm_i y1)]) C [1, 2, 3, 0] rfl ?_
  exact hZ73 x1 x2 y1 S h1
def wp_X2_bring_73B (h : Nat) (x1 : Option Nat) (x2 : Option Nat) (x6 : Int32) (S : xm_S) (g : Int32 → xm_S → Prop) (Z73 : Option Nat → Option Nat → Int32 → xm_S → Prop) : Prop :=
  ((nI 6) ≤ x6 → st_t S h = some (2, 0) ∧ wp_X2_keep h S (fun S4 => st_t S4 h = some (2, 0) ∧ g (st_i S4 h 3) S4)) ∧ (¬ (nI 6) ≤ x6 → st_t S h = some (2, 0) ∧ ∃ n8, (st_r S h 0) = some n8 ∧ st_t S n8 = some (3, 0) ∧ ∃ n11, x2 = some n11 ∧ ∃ z14, st_t S n11 = some (100, z14) ∧ vp_in x6 z14 ∧ ∃ n16, (st_r S n8 0) = some n16 ∧ ∃ z19, st_t S n16 = some (100, z19) ∧ vp_in x6 z19 ∧ ∀ S21, S21 = st_pi S n16 (x6).toNatClampNeg (st_i S n11 (x6).toNatClampNeg) → ∃ n23, x2 = some n23 ∧ ∃ z26, st_t S21 n23 = some (100, z26) ∧ vp_in x6 z26 ∧ ((st_i S21 n23 (x6).toNatClampNeg) = (-1 : Int32) → wp_X2_bring_120 h x1 x2 x6 S21 g Z73) ∧ (¬ (st_i S21 n23 (x6).toNatClampNeg) = (-1 : Int32) → ∃ n28, x1 = some n28 ∧ ∃ z31, st_t S21 n28 = some (115, z31) ∧ vp_in x6 z31 ∧ ∃ n33, (st_r S21 n28 (x6).toNatClampNeg) = some n33 ∧ st_t S21 n33 = some (5, 0) ∧ ∃ n36, x2 = some n36 ∧ ∃ z39, st_t S21 n36 = some (100, z39) ∧ vp_in x6 z39 ∧ ∃ n41, (st_r S21 n33 1) = some n41 ∧ ∃ z44, st_t S21 n41 = some (120, z44) ∧ vp_in (st_i S21 n36 (x6).toNatClampNeg) z44 ∧ wp_X2_layFiles h x6 (st_r S21 n41 ((st_i S21 n36 (x6).toNatClampNeg)).toNatClampNeg) S21 (fun S46 => wp_X2_bring_120 h x1 x2 x6 S46 g Z73)))
def wp_X2_bring_73 (h : Nat) (x1 : Option Nat) (x2 : Option Nat) (x6 : Int32) (S : xm_S) (g : Int32 → xm_S → Prop) : Prop :=
  ∀ Z73 : Option Nat → Option Nat → Int32 → xm_S → Prop, (∀ x1 x2 x6 S, wp_X2_bring_73B h x1 x2 x6 S g Z73 → Z73 x1 x2 x6 S) → Z73 x1 x2 x6 S
set_option maxRecDepth 100000 in
set_option maxHeartbeats 4000000 in
theorem kp_X2_bring_73B {K : xm_K} (h : Nat) (x1 : Option Nat) (x2 : Option Nat) (x6 : Int32) (S : xm_S) {g : Int32 → xm_S → Prop} {Z73 : Option Nat → Option Nat → Int32 → xm_S → Prop} (C : xm_Cx K cX2_bring RX2 7 (some (FieldType.int)) rm_X2_bring) (N : xm_Nx K) (hg : ∀ v S, g v S → xm_q K (some (xm_i v)) S) (hZ73 : ∀ x1 x2 x6 S, Z73 x1 x2 x6 S → xm_W K 0 0 73 [(0, xm_r (some h)), (1, xm_r x1), (2, xm_r x2), (6, xm_i x6)] [] S) (h1 : wp_X2_bring_73B h x1 x2 x6 S g Z73) : xm_W K 0 0 73 [(0, xm_r (some h)), (1, xm_r x1), (2, xm_r x2), (6, xm_i x6)] [] S := by
  unfold wp_X2_bring_73B at h1
  refine x_iload C 3 dX2_bring_73 rfl ?_
  refine x_bipush (v := (nI 6)) C dX2_bring_75 (by decide) ?_
  refine x_icmp_ge (tgt := 126) C dX2_bring_77 (by decide) (fun z9 => ?_) (fun z9 => ?_)
  · have h1 := h1.1 z9
    refine x_aload_n C 0 dX2_bring_126 rfl rfl ?_
    obtain ⟨ht3, h1⟩ := h1
    refine x_callV (rm' := rm_X2_keep) (n := h) C (kp_X2_keep_met h1) lk_9 gw_73 gw_74 xv_2 rfl rfl ht3 rfl (Nat.le_of_ble_eq_true rfl) ⟨Nat.le_of_ble_eq_true rfl, Nat.le_of_ble_eq_true rfl, (Nat.le_of_ble_eq_true rfl), (Nat.le_of_ble_eq_true rfl)⟩ dX2_bring_127 xm_kx (xm_kv (fun S4 h1 => ?_))
    refine x_aload_n C 0 dX2_bring_130 rfl rfl ?_
    obtain ⟨ht6, h1⟩ := h1
    refine x_getf_i (n := h) C rfl ht6 fd_22 (by decide) dX2_bring_131 ?_
    exact x_iret C (Nat.le_of_ble_eq_true rfl) (Nat.le_of_ble_eq_true rfl) rfl dX2_bring_134 (hg _ _ h1)
  · have h1 := h1.2 z9
    refine x_aload_n C 0 dX2_bring_80 rfl rfl ?_
    obtain ⟨ht7, h1⟩ := h1
    refine x_getf_r (n := h) C rfl ht7 fd_16 (by decide) dX2_bring_81 ?_
    obtain ⟨n8, hr9, h1⟩ := h1
    obtain ⟨ht10, h1⟩ := h1
    refine x_getf_r (n := n8) C hr9 ht10 fd_30 (by decide) dX2_bring_84 ?_
    refine x_iload C 3 dX2_bring_87 rfl ?_
    refine x_aload_n C 2 dX2_bring_89 rfl rfl ?_
    refine x_iload C 3 dX2_bring_90 rfl ?_
    obtain ⟨n11, hr12, h1⟩ := h1
    obtain ⟨z14, ht13, h1⟩ := h1
    obtain ⟨hi15, h1⟩ := h1
    refine x_iald (n := n11) C hr12 ht13 hi15 dX2_bring_92 ?_
    obtain ⟨n16, hr17, h1⟩ := h1
    obtain ⟨z19, ht18, h1⟩ := h1
    obtain ⟨hi20, h1⟩ := h1
    refine x_iast (n := n16) C hr17 ht18 hi20 dX2_bring_93 ?_
    refine x_topS (fun S21 e22 => ?_)
    have h1 := h1 S21 e22
    refine x_aload_n C 2 dX2_bring_94 rfl rfl ?_
    refine x_iload C 3 dX2_bring_95 rfl ?_
    obtain ⟨n23, hr24, h1⟩ := h1
    obtain ⟨z26, ht25, h1⟩ := h1
    obtain ⟨hi27, h1⟩ := h1
    refine x_iald (n := n23) C hr24 ht25 hi27 dX2_bring_97 ?_
    refine x_iconst (v := (-1 : Int32)) C dX2_bring_98 (by decide) ?_
    refine x_icmp_eq (tgt := 120) C dX2_bring_99 (by decide) (fun z9 => ?_) (fun z9 => ?_)
    · have h1 := h1.1 z9
      exact kp_X2_bring_120 h x1 x2 x6 S21 C N hg hZ73 h1
    · have h1 := h1.2 z9
      refine x_aload_n C 0 dX2_bring_102 rfl rfl ?_
      refine x_iload C 3 dX2_bring_103 rfl ?_
      refine x_aload_n C 1 dX2_bring_105 rfl rfl ?_
      refine x_iload C 3 dX2_bring_106 rfl ?_
      obtain ⟨n28, hr29, h1⟩ := h1
      obtain ⟨z31, ht30, h1⟩ := h1
      obtain ⟨hi32, h1⟩ := h1
      refine x_aald (n := n28) C hr29 (by decide) rfl ht30 hi32 dX2_bring_108 ?_
      obtain ⟨n33, hr34, h1⟩ := h1
      obtain ⟨ht35, h1⟩ := h1
      refine x_getf_r (n := n33) C hr34 ht35 fd_15 (by decide) dX2_bring_109 ?_
      refine x_aload_n C 2 dX2_bring_112 rfl rfl ?_
      refine x_iload C 3 dX2_bring_113 rfl ?_
      obtain ⟨n36, hr37, h1⟩ := h1
      obtain ⟨z39, ht38, h1⟩ := h1
      obtain ⟨hi40, h1⟩ := h1
      refine x_iald (n := n36) C hr37 ht38 hi40 dX2_bring_115 ?_
      obtain ⟨n41, hr42, h1⟩ := h1
      obtain ⟨z44, ht43, h1⟩ := h1
      obtain ⟨hi45, h1⟩ := h1
      refine x_aald (n := n41) C hr42 (by decide) rfl ht43 hi45 dX2_bring_116 ?_
      refine x_callV (rm' := rm_X2_layFiles) (n := h) C (kp_X2_layFiles_met h1) lk_10 gw_78 gw_79 xv_2 rfl rfl (tk_p e22 ht7) rfl (Nat.le_of_ble_eq_true rfl) ⟨Nat.le_of_ble_eq_true rfl, Nat.le_of_ble_eq_true rfl, (Nat.le_of_ble_eq_true rfl), (Nat.le_of_ble_eq_true rfl)⟩ dX2_bring_117 xm_kx (xm_kv (fun S46 h1 => ?_))
      exact kp_X2_bring_120 h x1 x2 x6 S46 C N hg hZ73 h1
theorem kp_X2_bring_73 {K : xm_K} (h : Nat) (x1 : Option Nat) (x2 : Option Nat) (x6 : Int32) (S : xm_S) {g : Int32 → xm_S → Prop} (C : xm_Cx K cX2_bring RX2 7 (some (FieldType.int)) rm_X2_bring) (N : xm_Nx K) (hg : ∀ v S, g v S → xm_q K (some (xm_i v)) S)  (h1 : wp_X2_bring_73 h x1 x2 x6 S g) : xm_W K 0 0 73 [(0, xm_r (some h)), (1, xm_r x1), (2, xm_r x2), (6, xm_i x6)] [] S :=
  h1 (fun x1 x2 x6 S => xm_W K 0 0 73 [(0, xm_r (some h)), (1, xm_r x1), (2, xm_r x2), (6, xm_i x6)] [] S) (fun x1 x2 x6 S hb => kp_X2_bring_73B h x1 x2 x6 S C N hg (fun x1 x2 x6 S hz => hz) hb)
def wp_X2_bring_37 (h : Nat) (x1 : Option Nat) (x2 : Option Nat) (x3 : Int32) (x4 : Int32) (S : xm_S) (g : Int32 → xm_S → Prop) : Prop :=
  st_t S h = some (2, 0) ∧ wp_X2_countStrays h S (fun r50 S49 => ∀ y51, y51 = ((r50 + x4) + (1 : Int32)) → st_t S49 h = some (2, 0) ∧ ∀ S54, S54 = st_pi S49 h 5 (if x3 < y51 then x3 else y51) → (y51 ≤ x3 → wp_X2_clearStrays h S54 (fun S56 => wp_X2_bring_73 h x1 x2 (0 : Int32) S56 g)) ∧ (¬ y51 ≤ x3 → g (-1 : Int32) S54))
set_option maxRecDepth 100000 in
set_option maxHeartbeats 4000000 in
theorem kp_X2_bring_37 {K : xm_K} (h : Nat) (x1 : Option Nat) (x2 : Option Nat) (x3 : Int32) (x4 : Int32) (S : xm_S) {g : Int32 → xm_S → Prop} (C : xm_Cx K cX2_bring RX2 7 (some (FieldType.int)) rm_X2_bring) (N : xm_Nx K) (hg : ∀ v S, g v S → xm_q K (some (xm_i v)) S)  (h1 : wp_X2_bring_37 h x1 x2 x3 x4 S g) : xm_W K 0 0 37 [(0, xm_r (some h)), (1, xm_r x1), (2, xm_r x2), (3, xm_i x3), (4, xm_i x4)] [] S := by
  unfold wp_X2_bring_37 at h1
  refine x_aload_n C 0 dX2_bring_37 rfl rfl ?_
  obtain ⟨ht48, h1⟩ := h1
  refine x_callV (rm' := rm_X2_countStrays) (n := h) C (kp_X2_countStrays_met h1) lk_11 gw_82 gw_83 xv_2 rfl rfl ht48 rfl (Nat.le_of_ble_eq_true rfl) ⟨Nat.le_of_ble_eq_true rfl, Nat.le_of_ble_eq_true rfl, (Nat.le_of_ble_eq_true rfl), (Nat.le_of_ble_eq_true rfl)⟩ dX2_bring_38 xm_kx (xm_ki (fun r50 S49 h1 => ?_))
  refine x_iload C 4 dX2_bring_41 rfl ?_
  refine x_iadd C dX2_bring_43 ?_
  refine x_iconst (v := (1 : Int32)) C dX2_bring_44 (by decide) ?_
  refine x_iadd C dX2_bring_45 ?_
  refine x_topi (fun y51 e52 => ?_)
  have h1 := h1 y51 e52
  refine x_istore (L' := [(5, xm_i y51), (0, xm_r (some h)), (1, xm_r x1), (2, xm_r x2), (3, xm_i x3), (4, xm_i x4)]) C dX2_bring_46 (by decide) rfl ?_
  refine x_aload_n C 1 dX2_bring_48 rfl rfl ?_
  refine x_iload C 0 dX2_bring_49 rfl ?_
  refine x_iload_n C 4 dX2_bring_51 rfl rfl ?_
  refine x_mmin C gw_84 gw_85 gw_86 gw_87 (Nat.le_of_ble_eq_true rfl) (Nat.le_of_ble_eq_true rfl) (Nat.le_of_ble_eq_true rfl) (Nat.le_of_ble_eq_true rfl) (Nat.le_of_ble_eq_true rfl) dX2_bring_52 ?_
  obtain ⟨ht53, h1⟩ := h1
  refine x_putf_i (n := h) C rfl ht53 fd_31 xc_2 (by decide) rfl ⟨rfl, rfl⟩ dX2_bring_55 ?_
  refine x_topS (fun S54 e55 => ?_)
  have h1 := h1 S54 e55
  refine x_iload_n C 4 dX2_bring_58 rfl rfl ?_
  refine x_iload C 0 dX2_bring_59 rfl ?_
  refine x_icmp_ge (tgt := 66) C dX2_bring_61 (by decide) (fun z9 => ?_) (fun z9 => ?_)
  · have h1 := h1.1 z9
    refine x_aload_n C 1 dX2_bring_66 rfl rfl ?_
    refine x_callV (rm' := rm_X2_clearStrays) (n := h) C (kp_X2_clearStrays_met h1) lk_12 gw_91 gw_92 xv_2 rfl rfl (tk_p e55 ht53) rfl (Nat.le_of_ble_eq_true rfl) ⟨Nat.le_of_ble_eq_true rfl, Nat.le_of_ble_eq_true rfl, (Nat.le_of_ble_eq_true rfl), (Nat.le_of_ble_eq_true rfl)⟩ dX2_bring_67 xm_kx (xm_kv (fun S56 h1 => ?_))
    refine x_iconst (v := (0 : Int32)) C dX2_bring_70 (by decide) ?_
    refine x_istore (L' := [(6, xm_i (0 : Int32)), (5, xm_i y51), (0, xm_r (some h)), (1, xm_r x1), (2, xm_r x2), (3, xm_i x3), (4, xm_i x4)]) C dX2_bring_71 (by decide) rfl ?_
    refine x_keep (L' := [(0, xm_r (some h)), (1, xm_r x1), (2, xm_r x2), (6, xm_i (0 : Int32))]) C [2, 3, 4, 0] rfl ?_
    exact kp_X2_bring_73 h x1 x2 (0 : Int32) S56 C N hg  h1
  · have h1 := h1.2 z9
    refine x_iconst (v := (-1 : Int32)) C dX2_bring_64 (by decide) ?_
    exact x_iret C (Nat.le_of_ble_eq_true rfl) (Nat.le_of_ble_eq_true rfl) rfl dX2_bring_65 (hg _ _ h1)
def wp_X2_bring (h : Nat) (x1 : Option Nat) (x2 : Option Nat) (x3 : Int32) (S : xm_S) (g : Int32 → xm_S → Prop) : Prop :=
  st_t S h = some (2, 0) ∧ wp_X2_aim h x1 x2 S (fun r60 S59 => (¬ r60 = (-1 : Int32) → st_t S59 h = some (2, 0) ∧ ((st_i S59 h 2) < (nI 6) → wp_X2_bring_37 h x1 x2 x3 r60 S59 g) ∧ (¬ (st_i S59 h 2) < (nI 6) → wp_X2_leastToGo h S59 (fun r63 S62 => (¬ r63 = (-1 : Int32) → wp_X2_bring_37 h x1 x2 x3 r60 S62 g) ∧ (r63 = (-1 : Int32) → g (-3 : Int32) S62)))) ∧ (r60 = (-1 : Int32) → g (-2 : Int32) S59))
set_option maxRecDepth 100000 in
set_option maxHeartbeats 4000000 in
theorem kp_X2_bring {K : xm_K} (h : Nat) (x1 : Option Nat) (x2 : Option Nat) (x3 : Int32) (S : xm_S) {g : Int32 → xm_S → Prop} (C : xm_Cx K cX2_bring RX2 7 (some (FieldType.int)) rm_X2_bring) (N : xm_Nx K) (hg : ∀ v S, g v S → xm_q K (some (xm_i v)) S)  (h1 : wp_X2_bring h x1 x2 x3 S g) : xm_W K 0 0 0 [(0, xm_r (some h)), (1, xm_r x1), (2, xm_r x2), (3, xm_i x3)] [] S := by
  unfold wp_X2_bring at h1
  refine x_aload_n C 0 dX2_bring_0 rfl rfl ?_
  refine x_aload_n C 1 dX2_bring_1 rfl rfl ?_
  refine x_aload_n C 2 dX2_bring_2 rfl rfl ?_
  obtain ⟨ht58, h1⟩ := h1
  refine x_callV (rm' := rm_X2_aim) (n := h) C (kp_X2_aim_met h1) lk_13 gw_95 gw_96 xv_2 rfl rfl ht58 rfl (Nat.le_of_ble_eq_true rfl) ⟨Nat.le_of_ble_eq_true rfl, Nat.le_of_ble_eq_true rfl, (Nat.le_of_ble_eq_true rfl), (Nat.le_of_ble_eq_true rfl)⟩ dX2_bring_3 xm_kx (xm_ki (fun r60 S59 h1 => ?_))
  refine x_istore (L' := [(4, xm_i r60), (0, xm_r (some h)), (1, xm_r x1), (2, xm_r x2), (3, xm_i x3)]) C dX2_bring_6 (by decide) rfl ?_
  refine x_iload C 0 dX2_bring_8 rfl ?_
  refine x_iconst (v := (-1 : Int32)) C dX2_bring_10 (by decide) ?_
  refine x_icmp_ne (tgt := 17) C dX2_bring_11 (by decide) (fun z9 => ?_) (fun z9 => ?_)
  · have h1 := h1.1 z9
    refine x_aload_n C 1 dX2_bring_17 rfl rfl ?_
    obtain ⟨ht61, h1⟩ := h1
    refine x_getf_i (n := h) C rfl ht61 fd_18 (by decide) dX2_bring_18 ?_
    refine x_bipush (v := (nI 6)) C dX2_bring_21 (by decide) ?_
    refine x_icmp_lt (tgt := 37) C dX2_bring_23 (by decide) (fun z9 => ?_) (fun z9 => ?_)
    · have h1 := h1.1 z9
      refine x_keep (L' := [(0, xm_r (some h)), (1, xm_r x1), (2, xm_r x2), (3, xm_i x3), (4, xm_i r60)]) C [1, 2, 3, 4, 0] rfl ?_
      exact kp_X2_bring_37 h x1 x2 x3 r60 S59 C N hg  h1
    · have h1 := h1.2 z9
      refine x_aload_n C 1 dX2_bring_26 rfl rfl ?_
      refine x_callV (rm' := rm_X2_leastToGo) (n := h) C (kp_X2_leastToGo_met h1) lk_7 gw_60 gw_61 xv_2 rfl rfl ht61 rfl (Nat.le_of_ble_eq_true rfl) ⟨Nat.le_of_ble_eq_true rfl, Nat.le_of_ble_eq_true rfl, (Nat.le_of_ble_eq_true rfl), (Nat.le_of_ble_eq_true rfl)⟩ dX2_bring_27 xm_kx (xm_ki (fun r63 S62 h1 => ?_))
      refine x_iconst (v := (-1 : Int32)) C dX2_bring_30 (by decide) ?_
      refine x_icmp_ne (tgt := 37) C dX2_bring_31 (by decide) (fun z9 => ?_) (fun z9 => ?_)
      · have h1 := h1.1 z9
        refine x_keep (L' := [(0, xm_r (some h)), (1, xm_r x1), (2, xm_r x2), (3, xm_i x3), (4, xm_i r60)]) C [1, 2, 3, 4, 0] rfl ?_
        exact kp_X2_bring_37 h x1 x2 x3 r60 S62 C N hg  h1
      · have h1 := h1.2 z9
        refine x_bipush (v := (-3 : Int32)) C dX2_bring_34 (by decide) ?_
        exact x_iret C (Nat.le_of_ble_eq_true rfl) (Nat.le_of_ble_eq_true rfl) rfl dX2_bring_36 (hg _ _ h1)
  · have h1 := h1.2 z9
    refine x_bipush (v := (-2 : Int32)) C dX2_bring_14 (by decide) ?_
    exact x_iret C (Nat.le_of_ble_eq_true rfl) (Nat.le_of_ble_eq_true rfl) rfl dX2_bring_16 (hg _ _ h1)
theorem kp_X2_bring_met {h : Nat} {x1 : Option Nat} {x2 : Option Nat} {x3 : Int32} {S : xm_S} {g : Int32 → xm_S → Prop}  (h1 : wp_X2_bring h x1 x2 x3 S g) : xm_Met yX2_bring cX2_bring 7 (some (FieldType.int)) rm_X2_bring [xm_r (some h), xm_r x1, xm_r x2, xm_i x3] S (xm_qi g) xm_nox :=
  xm_ofW RX2 (by decide +kernel) rfl (Nat.le_of_ble_eq_true rfl) (fun K C N hq hx hi => kp_X2_bring h x1 x2 x3 S C N (fun v S h => by rw [hq]; exact ⟨v, rfl, h⟩)  h1)
def rm_X2_init : Room := { frames := 3, cells := 60, slots := 1000, locals := 61 }
theorem dX2_init_0 : decode cX2_init 0 = .ok (.aload_n 0, 1) := by decide +kernel
theorem dX2_init_1 : decode cX2_init 1 = .ok (.invokespecial 3, 3) := by decide +kernel
theorem dX2_init_4 : decode cX2_init 4 = .ok (.aload_n 0, 1) := by decide +kernel
theorem dX2_init_5 : decode cX2_init 5 = .ok (.new 9, 3) := by decide +kernel
theorem dX2_init_8 : decode cX2_init 8 = .ok (.dup, 1) := by decide +kernel
theorem dX2_init_9 : decode cX2_init 9 = .ok (.invokespecial 11, 3) := by decide +kernel
theorem dX2_init_12 : decode cX2_init 12 = .ok (.putfield 12, 3) := by decide +kernel
theorem dX2_init_15 : decode cX2_init 15 = .ok (.aload_n 0, 1) := by decide +kernel
theorem dX2_init_16 : decode cX2_init 16 = .ok (.bipush 6, 2) := by decide +kernel
theorem dX2_init_18 : decode cX2_init 18 = .ok (.anewarray 18, 3) := by decide +kernel
theorem dX2_init_21 : decode cX2_init 21 = .ok (.putfield 20, 3) := by decide +kernel
theorem dX2_init_24 : decode cX2_init 24 = .ok (.aload_n 0, 1) := by decide +kernel
theorem dX2_init_25 : decode cX2_init 25 = .ok (.iconst 0, 1) := by decide +kernel
theorem dX2_init_26 : decode cX2_init 26 = .ok (.putfield 24, 3) := by decide +kernel
theorem dX2_init_29 : decode cX2_init 29 = .ok (.aload_n 0, 1) := by decide +kernel
theorem dX2_init_30 : decode cX2_init 30 = .ok (.iconst (-1), 1) := by decide +kernel
theorem dX2_init_31 : decode cX2_init 31 = .ok (.putfield 28, 3) := by decide +kernel
theorem dX2_init_34 : decode cX2_init 34 = .ok (.aload_n 0, 1) := by decide +kernel
theorem dX2_init_35 : decode cX2_init 35 = .ok (.iconst 0, 1) := by decide +kernel
theorem dX2_init_36 : decode cX2_init 36 = .ok (.putfield 31, 3) := by decide +kernel
theorem dX2_init_39 : decode cX2_init 39 = .ok (.aload_n 0, 1) := by decide +kernel
theorem dX2_init_40 : decode cX2_init 40 = .ok (.iconst 0, 1) := by decide +kernel
theorem dX2_init_41 : decode cX2_init 41 = .ok (.putfield 34, 3) := by decide +kernel
theorem dX2_init_44 : decode cX2_init 44 = .ok (.aload_n 0, 1) := by decide +kernel
theorem dX2_init_45 : decode cX2_init 45 = .ok (.iconst 0, 1) := by decide +kernel
theorem dX2_init_46 : decode cX2_init 46 = .ok (.putfield 37, 3) := by decide +kernel
theorem dX2_init_49 : decode cX2_init 49 = .ok (.aload_n 0, 1) := by decide +kernel
theorem dX2_init_50 : decode cX2_init 50 = .ok (.bipush 16, 2) := by decide +kernel
theorem dX2_init_52 : decode cX2_init 52 = .ok (.newarray .int, 2) := by decide +kernel
theorem dX2_init_54 : decode cX2_init 54 = .ok (.putfield 40, 3) := by decide +kernel
theorem dX2_init_57 : decode cX2_init 57 = .ok (.aload_n 0, 1) := by decide +kernel
theorem dX2_init_58 : decode cX2_init 58 = .ok (.bipush 16, 2) := by decide +kernel
theorem dX2_init_60 : decode cX2_init 60 = .ok (.newarray .int, 2) := by decide +kernel
theorem dX2_init_62 : decode cX2_init 62 = .ok (.putfield 44, 3) := by decide +kernel
theorem dX2_init_65 : decode cX2_init 65 = .ok (.aload_n 0, 1) := by decide +kernel
theorem dX2_init_66 : decode cX2_init 66 = .ok (.bipush 16, 2) := by decide +kernel
theorem dX2_init_68 : decode cX2_init 68 = .ok (.newarray .boolean, 2) := by decide +kernel
theorem dX2_init_70 : decode cX2_init 70 = .ok (.putfield 47, 3) := by decide +kernel
theorem dX2_init_73 : decode cX2_init 73 = .ok (.iconst 0, 1) := by decide +kernel
theorem dX2_init_74 : decode cX2_init 74 = .ok (.istore_n 1, 1) := by decide +kernel
theorem dX2_init_75 : decode cX2_init 75 = .ok (.iload_n 1, 1) := by decide +kernel
theorem dX2_init_76 : decode cX2_init 76 = .ok (.bipush 6, 2) := by decide +kernel
theorem dX2_init_78 : decode cX2_init 78 = .ok (.if_icmp .ge 22, 3) := by decide +kernel
theorem dX2_init_81 : decode cX2_init 81 = .ok (.aload_n 0, 1) := by decide +kernel
theorem dX2_init_82 : decode cX2_init 82 = .ok (.getfield 20, 3) := by decide +kernel
theorem dX2_init_85 : decode cX2_init 85 = .ok (.iload_n 1, 1) := by decide +kernel
theorem dX2_init_86 : decode cX2_init 86 = .ok (.new 18, 3) := by decide +kernel
theorem dX2_init_89 : decode cX2_init 89 = .ok (.dup, 1) := by decide +kernel
theorem dX2_init_90 : decode cX2_init 90 = .ok (.invokespecial 51, 3) := by decide +kernel
theorem dX2_init_93 : decode cX2_init 93 = .ok (.aastore, 1) := by decide +kernel
theorem dX2_init_94 : decode cX2_init 94 = .ok (.iinc 1 1, 3) := by decide +kernel
theorem dX2_init_97 : decode cX2_init 97 = .ok (.goto (-22), 3) := by decide +kernel
theorem dX2_init_100 : decode cX2_init 100 = .ok (.iconst 0, 1) := by decide +kernel
theorem dX2_init_101 : decode cX2_init 101 = .ok (.istore_n 1, 1) := by decide +kernel
theorem dX2_init_102 : decode cX2_init 102 = .ok (.iload_n 1, 1) := by decide +kernel
theorem dX2_init_103 : decode cX2_init 103 = .ok (.bipush 16, 2) := by decide +kernel
theorem dX2_init_105 : decode cX2_init 105 = .ok (.if_icmp .ge 23, 3) := by decide +kernel
theorem dX2_init_108 : decode cX2_init 108 = .ok (.aload_n 0, 1) := by decide +kernel
theorem dX2_init_109 : decode cX2_init 109 = .ok (.getfield 40, 3) := by decide +kernel
theorem dX2_init_112 : decode cX2_init 112 = .ok (.iload_n 1, 1) := by decide +kernel
theorem dX2_init_113 : decode cX2_init 113 = .ok (.iconst (-1), 1) := by decide +kernel
theorem dX2_init_114 : decode cX2_init 114 = .ok (.iastore, 1) := by decide +kernel
theorem dX2_init_115 : decode cX2_init 115 = .ok (.aload_n 0, 1) := by decide +kernel
theorem dX2_init_116 : decode cX2_init 116 = .ok (.getfield 44, 3) := by decide +kernel
theorem dX2_init_119 : decode cX2_init 119 = .ok (.iload_n 1, 1) := by decide +kernel
theorem dX2_init_120 : decode cX2_init 120 = .ok (.iconst (-1), 1) := by decide +kernel
theorem dX2_init_121 : decode cX2_init 121 = .ok (.iastore, 1) := by decide +kernel
theorem dX2_init_122 : decode cX2_init 122 = .ok (.iinc 1 1, 3) := by decide +kernel
theorem dX2_init_125 : decode cX2_init 125 = .ok (.goto (-23), 3) := by decide +kernel
theorem dX2_init_128 : decode cX2_init 128 = .ok (.return_, 1) := by decide +kernel
def wp_X2_init_102B (h : Nat) (x1 : Int32) (S : xm_S) (kc ks : Nat) (g : xm_S → Prop) (Z102 : Int32 → xm_S → Nat → Nat → Prop) : Prop :=
  ((nI 16) ≤ x1 → kc ≤ 60 ∧ ks ≤ 1000 ∧ g S) ∧ (¬ (nI 16) ≤ x1 → st_t S h = some (2, 0) ∧ ∃ n4, (st_r S h 7) = some n4 ∧ ∃ z7, st_t S n4 = some (100, z7) ∧ vp_in x1 z7 ∧ ∀ S9, S9 = st_pi S n4 (x1).toNatClampNeg (-1 : Int32) → ∃ n11, (st_r S9 h 8) = some n11 ∧ ∃ z14, st_t S9 n11 = some (100, z14) ∧ vp_in x1 z14 ∧ ∀ S16, S16 = st_pi S9 n11 (x1).toNatClampNeg (-1 : Int32) → ∀ y18, y18 = (x1 + (1 : Int32)) → Z102 y18 S16 kc ks)
def wp_X2_init_102 (h : Nat) (x1 : Int32) (S : xm_S) (kc ks : Nat) (g : xm_S → Prop) : Prop :=
  ∀ Z102 : Int32 → xm_S → Nat → Nat → Prop, (∀ x1 S kc ks, wp_X2_init_102B h x1 S kc ks g Z102 → Z102 x1 S kc ks) → Z102 x1 S kc ks
set_option maxRecDepth 100000 in
set_option maxHeartbeats 4000000 in
theorem kp_X2_init_102B {K : xm_K} (h : Nat) (x1 : Int32) (S : xm_S) (kc ks : Nat) {g : xm_S → Prop} {Z102 : Int32 → xm_S → Nat → Nat → Prop} (C : xm_Cx K cX2_init RX2 2 none rm_X2_init) (N : xm_Nx K) (hini : xm_init K) (hg : ∀ S, g S → xm_q K none S) (hZ102 : ∀ x1 S kc ks, Z102 x1 S kc ks → xm_W K kc ks 102 [(0, xm_r (some h)), (1, xm_i x1)] [] S) (h1 : wp_X2_init_102B h x1 S kc ks g Z102) : xm_W K kc ks 102 [(0, xm_r (some h)), (1, xm_i x1)] [] S := by
  unfold wp_X2_init_102B at h1
  refine x_iload_n C 1 dX2_init_102 rfl rfl ?_
  refine x_bipush (v := (nI 16)) C dX2_init_103 (by decide) ?_
  refine x_icmp_ge (tgt := 128) C dX2_init_105 (by decide) (fun z9 => ?_) (fun z9 => ?_)
  · have h1 := h1.1 z9
    obtain ⟨hc1, hc2, h1⟩ := h1
    exact x_vret C hc1 hc2 rfl dX2_init_128 (hg _ h1)
  · have h1 := h1.2 z9
    refine x_aload_n C 0 dX2_init_108 rfl rfl ?_
    obtain ⟨ht3, h1⟩ := h1
    refine x_getf_r (n := h) C rfl ht3 fd_10 (by decide) dX2_init_109 ?_
    refine x_iload_n C 1 dX2_init_112 rfl rfl ?_
    refine x_iconst (v := (-1 : Int32)) C dX2_init_113 (by decide) ?_
    obtain ⟨n4, hr5, h1⟩ := h1
    obtain ⟨z7, ht6, h1⟩ := h1
    obtain ⟨hi8, h1⟩ := h1
    refine x_iast (n := n4) C hr5 ht6 hi8 dX2_init_114 ?_
    refine x_topS (fun S9 e10 => ?_)
    have h1 := h1 S9 e10
    refine x_aload_n C 0 dX2_init_115 rfl rfl ?_
    refine x_getf_r (n := h) C rfl (tk_p e10 ht3) fd_11 (by decide) dX2_init_116 ?_
    refine x_iload_n C 1 dX2_init_119 rfl rfl ?_
    refine x_iconst (v := (-1 : Int32)) C dX2_init_120 (by decide) ?_
    obtain ⟨n11, hr12, h1⟩ := h1
    obtain ⟨z14, ht13, h1⟩ := h1
    obtain ⟨hi15, h1⟩ := h1
    refine x_iast (n := n11) C hr12 ht13 hi15 dX2_init_121 ?_
    refine x_topS (fun S16 e17 => ?_)
    have h1 := h1 S16 e17
    obtain ⟨y18, e19⟩ : ∃ y18, y18 = (x1 + (1 : Int32)) := ⟨_, rfl⟩
    have h1 := h1 y18 e19
    refine x_iinc (v := y18) (L' := [(1, xm_i y18), (0, xm_r (some h))]) C 1 dX2_init_122 rfl (by rw [e19]; rfl) (by decide) rfl ?_
    refine x_goto (tgt := 102) C dX2_init_125 (by decide) ?_
    refine x_keep (L' := [(0, xm_r (some h)), (1, xm_i y18)]) C [1, 0] rfl ?_
    exact hZ102 y18 S16 kc ks h1
theorem kp_X2_init_102 {K : xm_K} (h : Nat) (x1 : Int32) (S : xm_S) (kc ks : Nat) {g : xm_S → Prop} (C : xm_Cx K cX2_init RX2 2 none rm_X2_init) (N : xm_Nx K) (hini : xm_init K) (hg : ∀ S, g S → xm_q K none S)  (h1 : wp_X2_init_102 h x1 S kc ks g) : xm_W K kc ks 102 [(0, xm_r (some h)), (1, xm_i x1)] [] S :=
  h1 (fun x1 S kc ks => xm_W K kc ks 102 [(0, xm_r (some h)), (1, xm_i x1)] [] S) (fun x1 S kc ks hb => kp_X2_init_102B h x1 S kc ks C N hini hg (fun x1 S kc ks hz => hz) hb)
def wp_X2_init_75B (h : Nat) (x1 : Int32) (S : xm_S) (kc ks : Nat) (g : xm_S → Prop) (Z75 : Int32 → xm_S → Nat → Nat → Prop) : Prop :=
  ((nI 6) ≤ x1 → wp_X2_init_102 h (0 : Int32) S kc ks g) ∧ (¬ (nI 6) ≤ x1 → st_t S h = some (2, 0) ∧ kc + 1 ≤ 60 ∧ ks + 3 ≤ 1000 ∧ ∃ n21, st_t S n21 = none ∧ ∀ S25, S25 = st_nw S n21 (1, 0) → (kc + 1) + 5 ≤ 60 ∧ (ks + 3) + 58 ≤ 1000 ∧ wp_X1_init n21 S25 (fun S29 => ∃ n31, (st_r S h 1) = some n31 ∧ ∃ z34, st_t S29 n31 = some (111, z34) ∧ vp_in x1 z34 ∧ (∀ v9, (some n21) = some v9 → st_t S29 v9 = some (1, 0)) ∧ ∀ S37, S37 = st_pr S29 n31 (x1).toNatClampNeg (some n21) → ∀ y39, y39 = (x1 + (1 : Int32)) → Z75 y39 S37 ((kc + 1) + 5) ((ks + 3) + 58)))
def wp_X2_init_75 (h : Nat) (x1 : Int32) (S : xm_S) (kc ks : Nat) (g : xm_S → Prop) : Prop :=
  ∀ Z75 : Int32 → xm_S → Nat → Nat → Prop, (∀ x1 S kc ks, wp_X2_init_75B h x1 S kc ks g Z75 → Z75 x1 S kc ks) → Z75 x1 S kc ks
set_option maxRecDepth 100000 in
set_option maxHeartbeats 4000000 in
theorem kp_X2_init_75B {K : xm_K} (h : Nat) (x1 : Int32) (S : xm_S) (kc ks : Nat) {g : xm_S → Prop} {Z75 : Int32 → xm_S → Nat → Nat → Prop} (C : xm_Cx K cX2_init RX2 2 none rm_X2_init) (N : xm_Nx K) (hini : xm_init K) (hg : ∀ S, g S → xm_q K none S) (hZ75 : ∀ x1 S kc ks, Z75 x1 S kc ks → xm_W K kc ks 75 [(0, xm_r (some h)), (1, xm_i x1)] [] S) (h1 : wp_X2_init_75B h x1 S kc ks g Z75) : xm_W K kc ks 75 [(0, xm_r (some h)), (1, xm_i x1)] [] S := by
  unfold wp_X2_init_75B at h1
  refine x_iload_n C 1 dX2_init_75 rfl rfl ?_
  refine x_bipush (v := (nI 6)) C dX2_init_76 (by decide) ?_
  refine x_icmp_ge (tgt := 100) C dX2_init_78 (by decide) (fun z9 => ?_) (fun z9 => ?_)
  · have h1 := h1.1 z9
    refine x_iconst (v := (0 : Int32)) C dX2_init_100 (by decide) ?_
    refine x_istore_n (L' := [(1, xm_i (0 : Int32)), (0, xm_r (some h))]) C dX2_init_101 rfl (by decide) rfl ?_
    refine x_keep (L' := [(0, xm_r (some h)), (1, xm_i (0 : Int32))]) C [1, 0] rfl ?_
    exact kp_X2_init_102 h (0 : Int32) S kc ks C N hini hg  h1
  · have h1 := h1.2 z9
    refine x_aload_n C 0 dX2_init_81 rfl rfl ?_
    obtain ⟨ht20, h1⟩ := h1
    refine x_getf_r (n := h) C rfl ht20 fd_19 (by decide) dX2_init_82 ?_
    refine x_iload_n C 1 dX2_init_85 rfl rfl ?_
    obtain ⟨hc23, hc24, h1⟩ := h1
    obtain ⟨n21, hn22, h1⟩ := h1
    refine x_new (n := n21) C xc_1 gw_97 hn22 hc23 hc24 dX2_init_86 ?_
    refine x_topS (fun S25 e26 => ?_)
    have h1 := h1 S25 e26
    refine x_dup_r C dX2_init_89 ?_
    obtain ⟨hc27, hc28, h1⟩ := h1
    refine x_callIN (rm' := rm_X1_init) (n := n21) RX11 C (kp_X1_init_met h1) (by decide +kernel) gw_98 gw_99 ⟨by decide, by decide, by decide +kernel⟩ gw_100 rfl rfl rfl (Nat.le_of_ble_eq_true rfl) ⟨Nat.le_of_ble_eq_true rfl, Nat.le_of_ble_eq_true rfl, hc27, hc28⟩ dX2_init_90 xm_kx (xm_kv (fun S29 h1 => ?_))
    obtain ⟨n31, hr32, h1⟩ := h1
    obtain ⟨z34, ht33, h1⟩ := h1
    obtain ⟨hi35, h1⟩ := h1
    obtain ⟨hv36, h1⟩ := h1
    refine x_aast (n := n31) (ci := 1) C hr32 (by decide) rfl rfl ht33 hi35 hv36 dX2_init_93 ?_
    refine x_topS (fun S37 e38 => ?_)
    have h1 := h1 S37 e38
    obtain ⟨y39, e40⟩ : ∃ y39, y39 = (x1 + (1 : Int32)) := ⟨_, rfl⟩
    have h1 := h1 y39 e40
    refine x_iinc (v := y39) (L' := [(1, xm_i y39), (0, xm_r (some h))]) C 1 dX2_init_94 rfl (by rw [e40]; rfl) (by decide) rfl ?_
    refine x_goto (tgt := 75) C dX2_init_97 (by decide) ?_
    refine x_keep (L' := [(0, xm_r (some h)), (1, xm_i y39)]) C [1, 0] rfl ?_
    exact hZ75 y39 S37 ((kc + 1) + 5) ((ks + 3) + 58) h1
theorem kp_X2_init_75 {K : xm_K} (h : Nat) (x1 : Int32) (S : xm_S) (kc ks : Nat) {g : xm_S → Prop} (C : xm_Cx K cX2_init RX2 2 none rm_X2_init) (N : xm_Nx K) (hini : xm_init K) (hg : ∀ S, g S → xm_q K none S)  (h1 : wp_X2_init_75 h x1 S kc ks g) : xm_W K kc ks 75 [(0, xm_r (some h)), (1, xm_i x1)] [] S :=
  h1 (fun x1 S kc ks => xm_W K kc ks 75 [(0, xm_r (some h)), (1, xm_i x1)] [] S) (fun x1 S kc ks hb => kp_X2_init_75B h x1 S kc ks C N hini hg (fun x1 S kc ks hz => hz) hb)
def wp_X2_init (h : Nat)  (S : xm_S) (g : xm_S → Prop) : Prop :=
  0 + 1 ≤ 60 ∧ 0 + 4 ≤ 1000 ∧ ∃ n41, st_t S n41 = none ∧ ∀ S45, S45 = st_nw S n41 (3, 0) → (0 + 1) + 4 ≤ 60 ∧ (0 + 4) + 54 ≤ 1000 ∧ wp_X3_init n41 S45 (fun S49 => st_t S49 h = some (2, 0) ∧ ∀ S52, S52 = st_pr S49 h 0 (some n41) → ((0 + 1) + 4) + 1 ≤ 60 ∧ ((0 + 4) + 54) + 6 ≤ 1000 ∧ ∃ n54, st_t S52 n54 = none ∧ ∀ S58, S58 = st_nw S52 n54 (111, 6) → ∀ S60, S60 = st_pr S58 h 1 (some n54) → ∀ S62, S62 = st_pi S60 h 2 (0 : Int32) → ∀ S64, S64 = st_pi S62 h 3 (-1 : Int32) → ∀ S66, S66 = st_pi S64 h 4 (0 : Int32) → ∀ S68, S68 = st_pi S66 h 5 (0 : Int32) → ∀ S70, S70 = st_pi S68 h 6 (0 : Int32) → (((0 + 1) + 4) + 1) + 1 ≤ 60 ∧ (((0 + 4) + 54) + 6) + 16 ≤ 1000 ∧ ∃ n72, st_t S70 n72 = none ∧ ∀ S76, S76 = st_nw S70 n72 (100, 16) → ∀ S78, S78 = st_pr S76 h 7 (some n72) → ((((0 + 1) + 4) + 1) + 1) + 1 ≤ 60 ∧ ((((0 + 4) + 54) + 6) + 16) + 16 ≤ 1000 ∧ ∃ n80, st_t S78 n80 = none ∧ ∀ S84, S84 = st_nw S78 n80 (100, 16) → ∀ S86, S86 = st_pr S84 h 8 (some n80) → (((((0 + 1) + 4) + 1) + 1) + 1) + 1 ≤ 60 ∧ (((((0 + 4) + 54) + 6) + 16) + 16) + 16 ≤ 1000 ∧ ∃ n88, st_t S86 n88 = none ∧ ∀ S92, S92 = st_nw S86 n88 (101, 16) → ∀ S94, S94 = st_pr S92 h 9 (some n88) → wp_X2_init_75 h (0 : Int32) S94 ((((((0 + 1) + 4) + 1) + 1) + 1) + 1) ((((((0 + 4) + 54) + 6) + 16) + 16) + 16) g)
set_option maxRecDepth 100000 in
set_option maxHeartbeats 4000000 in
theorem kp_X2_init {K : xm_K} (h : Nat)  (S : xm_S) {g : xm_S → Prop} (C : xm_Cx K cX2_init RX2 2 none rm_X2_init) (N : xm_Nx K) (hini : xm_init K) (hg : ∀ S, g S → xm_q K none S)  (h1 : wp_X2_init h  S g) : xm_W K 0 0 0 [(0, xm_r (some h))] [] S := by
  unfold wp_X2_init at h1
  refine x_aload_n C 0 dX2_init_0 rfl rfl ?_
  refine x_objInit (n := h) C rfl gw_101 (Nat.le_of_ble_eq_true rfl) (Nat.le_of_ble_eq_true rfl) (Nat.le_of_ble_eq_true rfl) dX2_init_1 gw_1 gw_2 ?_
  refine x_aload_n C 0 dX2_init_4 rfl rfl ?_
  obtain ⟨hc43, hc44, h1⟩ := h1
  obtain ⟨n41, hn42, h1⟩ := h1
  refine x_new (n := n41) C xc_3 gw_102 hn42 hc43 hc44 dX2_init_5 ?_
  refine x_topS (fun S45 e46 => ?_)
  have h1 := h1 S45 e46
  refine x_dup_r C dX2_init_8 ?_
  obtain ⟨hc47, hc48, h1⟩ := h1
  refine x_callI (rm' := rm_X3_init) (n := n41) C (kp_X3_init_met h1) lk_14 gw_19 rfl rfl rfl (Nat.le_of_ble_eq_true rfl) ⟨Nat.le_of_ble_eq_true rfl, Nat.le_of_ble_eq_true rfl, hc47, hc48⟩ dX2_init_9 xm_kx (xm_kv (fun S49 h1 => ?_))
  obtain ⟨ht51, h1⟩ := h1
  refine x_putfF_r (n := h) C rfl ht51 fd_16 xc_2 (by decide) rfl hini rfl (xm_nr rfl) dX2_init_12 ?_
  refine x_topS (fun S52 e53 => ?_)
  have h1 := h1 S52 e53
  refine x_aload_n C 0 dX2_init_15 rfl rfl ?_
  refine x_bipush (v := (nI 6)) C dX2_init_16 (by decide) ?_
  obtain ⟨hc56, hc57, h1⟩ := h1
  obtain ⟨n54, hn55, h1⟩ := h1
  refine x_newq (n := n54) (ci := 1) (len := 6) C gw_97 (by decide +kernel) (by decide) rfl (by decide) (by decide) hn55 hc56 hc57 dX2_init_18 ?_
  refine x_topS (fun S58 e59 => ?_)
  have h1 := h1 S58 e59
  refine x_putfF_r (n := h) C rfl (tk_n e59 hn55 (tk_p e53 ht51)) fd_19 xc_2 (by decide) rfl hini rfl (xm_nr rfl) dX2_init_21 ?_
  refine x_topS (fun S60 e61 => ?_)
  have h1 := h1 S60 e61
  refine x_aload_n C 0 dX2_init_24 rfl rfl ?_
  refine x_iconst (v := (0 : Int32)) C dX2_init_25 (by decide) ?_
  refine x_putf_i (n := h) C rfl (tk_p e61 (tk_n e59 hn55 (tk_p e53 ht51))) fd_18 xc_2 (by decide) rfl ⟨rfl, rfl⟩ dX2_init_26 ?_
  refine x_topS (fun S62 e63 => ?_)
  have h1 := h1 S62 e63
  refine x_aload_n C 0 dX2_init_29 rfl rfl ?_
  refine x_iconst (v := (-1 : Int32)) C dX2_init_30 (by decide) ?_
  refine x_putf_i (n := h) C rfl (tk_p e63 (tk_p e61 (tk_n e59 hn55 (tk_p e53 ht51)))) fd_22 xc_2 (by decide) rfl ⟨rfl, rfl⟩ dX2_init_31 ?_
  refine x_topS (fun S64 e65 => ?_)
  have h1 := h1 S64 e65
  refine x_aload_n C 0 dX2_init_34 rfl rfl ?_
  refine x_iconst (v := (0 : Int32)) C dX2_init_35 (by decide) ?_
  refine x_putf_i (n := h) C rfl (tk_p e65 (tk_p e63 (tk_p e61 (tk_n e59 hn55 (tk_p e53 ht51))))) fd_23 xc_2 (by decide) rfl ⟨rfl, rfl⟩ dX2_init_36 ?_
  refine x_topS (fun S66 e67 => ?_)
  have h1 := h1 S66 e67
  refine x_aload_n C 0 dX2_init_39 rfl rfl ?_
  refine x_iconst (v := (0 : Int32)) C dX2_init_40 (by decide) ?_
  refine x_putf_i (n := h) C rfl (tk_p e67 (tk_p e65 (tk_p e63 (tk_p e61 (tk_n e59 hn55 (tk_p e53 ht51)))))) fd_31 xc_2 (by decide) rfl ⟨rfl, rfl⟩ dX2_init_41 ?_
  refine x_topS (fun S68 e69 => ?_)
  have h1 := h1 S68 e69
  refine x_aload_n C 0 dX2_init_44 rfl rfl ?_
  refine x_iconst (v := (0 : Int32)) C dX2_init_45 (by decide) ?_
  refine x_putf_i (n := h) C rfl (tk_p e69 (tk_p e67 (tk_p e65 (tk_p e63 (tk_p e61 (tk_n e59 hn55 (tk_p e53 ht51))))))) fd_25 xc_2 (by decide) rfl ⟨rfl, rfl⟩ dX2_init_46 ?_
  refine x_topS (fun S70 e71 => ?_)
  have h1 := h1 S70 e71
  refine x_aload_n C 0 dX2_init_49 rfl rfl ?_
  refine x_bipush (v := (nI 16)) C dX2_init_50 (by decide) ?_
  obtain ⟨hc74, hc75, h1⟩ := h1
  obtain ⟨n72, hn73, h1⟩ := h1
  refine x_newa_i (n := n72) (len := 16) C gw_11 (by decide) (by decide) hn73 hc74 hc75 dX2_init_52 ?_
  refine x_topS (fun S76 e77 => ?_)
  have h1 := h1 S76 e77
  refine x_putfF_r (n := h) C rfl (tk_n e77 hn73 (tk_p e71 (tk_p e69 (tk_p e67 (tk_p e65 (tk_p e63 (tk_p e61 (tk_n e59 hn55 (tk_p e53 ht51))))))))) fd_10 xc_2 (by decide) rfl hini rfl (xm_nr rfl) dX2_init_54 ?_
  refine x_topS (fun S78 e79 => ?_)
  have h1 := h1 S78 e79
  refine x_aload_n C 0 dX2_init_57 rfl rfl ?_
  refine x_bipush (v := (nI 16)) C dX2_init_58 (by decide) ?_
  obtain ⟨hc82, hc83, h1⟩ := h1
  obtain ⟨n80, hn81, h1⟩ := h1
  refine x_newa_i (n := n80) (len := 16) C gw_11 (by decide) (by decide) hn81 hc82 hc83 dX2_init_60 ?_
  refine x_topS (fun S84 e85 => ?_)
  have h1 := h1 S84 e85
  refine x_putfF_r (n := h) C rfl (tk_n e85 hn81 (tk_p e79 (tk_n e77 hn73 (tk_p e71 (tk_p e69 (tk_p e67 (tk_p e65 (tk_p e63 (tk_p e61 (tk_n e59 hn55 (tk_p e53 ht51))))))))))) fd_11 xc_2 (by decide) rfl hini rfl (xm_nr rfl) dX2_init_62 ?_
  refine x_topS (fun S86 e87 => ?_)
  have h1 := h1 S86 e87
  refine x_aload_n C 0 dX2_init_65 rfl rfl ?_
  refine x_bipush (v := (nI 16)) C dX2_init_66 (by decide) ?_
  obtain ⟨hc90, hc91, h1⟩ := h1
  obtain ⟨n88, hn89, h1⟩ := h1
  refine x_newa_z (n := n88) (len := 16) C gw_104 (by decide) (by decide) hn89 hc90 hc91 dX2_init_68 ?_
  refine x_topS (fun S92 e93 => ?_)
  have h1 := h1 S92 e93
  refine x_putfF_r (n := h) C rfl (tk_n e93 hn89 (tk_p e87 (tk_n e85 hn81 (tk_p e79 (tk_n e77 hn73 (tk_p e71 (tk_p e69 (tk_p e67 (tk_p e65 (tk_p e63 (tk_p e61 (tk_n e59 hn55 (tk_p e53 ht51))))))))))))) fd_14 xc_2 (by decide) rfl hini rfl (xm_nr rfl) dX2_init_70 ?_
  refine x_topS (fun S94 e95 => ?_)
  have h1 := h1 S94 e95
  refine x_iconst (v := (0 : Int32)) C dX2_init_73 (by decide) ?_
  refine x_istore_n (L' := [(1, xm_i (0 : Int32)), (0, xm_r (some h))]) C dX2_init_74 rfl (by decide) rfl ?_
  refine x_keep (L' := [(0, xm_r (some h)), (1, xm_i (0 : Int32))]) C [1, 0] rfl ?_
  exact kp_X2_init_75 h (0 : Int32) S94 ((((((0 + 1) + 4) + 1) + 1) + 1) + 1) ((((((0 + 4) + 54) + 6) + 16) + 16) + 16) C N hini hg  h1
theorem kp_X2_init_met {h : Nat}  {S : xm_S} {g : xm_S → Prop}  (h1 : wp_X2_init h  S g) : xm_Met yX2_init cX2_init 2 none rm_X2_init [xm_r (some h)] S (xm_qv g) xm_nox :=
  xm_ofW RX2 (by decide +kernel) rfl (Nat.le_of_ble_eq_true rfl) (fun K C N hq hx hi => kp_X2_init h  S C N (hi rfl) (fun S h => by rw [hq]; exact ⟨rfl, h⟩)  h1)
def rm_X2_keptAs : Room := { frames := 1, cells := 0, slots := 0, locals := 20 }
theorem dX2_keptAs_0 : decode cX2_keptAs 0 = .ok (.iconst 0, 1) := by decide +kernel
theorem dX2_keptAs_1 : decode cX2_keptAs 1 = .ok (.istore_n 2, 1) := by decide +kernel
theorem dX2_keptAs_2 : decode cX2_keptAs 2 = .ok (.iload_n 2, 1) := by decide +kernel
theorem dX2_keptAs_3 : decode cX2_keptAs 3 = .ok (.aload_n 0, 1) := by decide +kernel
theorem dX2_keptAs_4 : decode cX2_keptAs 4 = .ok (.getfield 24, 3) := by decide +kernel
theorem dX2_keptAs_7 : decode cX2_keptAs 7 = .ok (.if_icmp .ge 29, 3) := by decide +kernel
theorem dX2_keptAs_10 : decode cX2_keptAs 10 = .ok (.aload_n 0, 1) := by decide +kernel
theorem dX2_keptAs_11 : decode cX2_keptAs 11 = .ok (.getfield 20, 3) := by decide +kernel
theorem dX2_keptAs_14 : decode cX2_keptAs 14 = .ok (.iload_n 2, 1) := by decide +kernel
theorem dX2_keptAs_15 : decode cX2_keptAs 15 = .ok (.aaload, 1) := by decide +kernel
theorem dX2_keptAs_16 : decode cX2_keptAs 16 = .ok (.getfield 125, 3) := by decide +kernel
theorem dX2_keptAs_19 : decode cX2_keptAs 19 = .ok (.iload_n 1, 1) := by decide +kernel
theorem dX2_keptAs_20 : decode cX2_keptAs 20 = .ok (.if_icmp .ne 10, 3) := by decide +kernel
theorem dX2_keptAs_23 : decode cX2_keptAs 23 = .ok (.aload_n 0, 1) := by decide +kernel
theorem dX2_keptAs_24 : decode cX2_keptAs 24 = .ok (.getfield 20, 3) := by decide +kernel
theorem dX2_keptAs_27 : decode cX2_keptAs 27 = .ok (.iload_n 2, 1) := by decide +kernel
theorem dX2_keptAs_28 : decode cX2_keptAs 28 = .ok (.aaload, 1) := by decide +kernel
theorem dX2_keptAs_29 : decode cX2_keptAs 29 = .ok (.areturn, 1) := by decide +kernel
theorem dX2_keptAs_30 : decode cX2_keptAs 30 = .ok (.iinc 2 1, 3) := by decide +kernel
theorem dX2_keptAs_33 : decode cX2_keptAs 33 = .ok (.goto (-31), 3) := by decide +kernel
theorem dX2_keptAs_36 : decode cX2_keptAs 36 = .ok (.aconst_null, 1) := by decide +kernel
theorem dX2_keptAs_37 : decode cX2_keptAs 37 = .ok (.areturn, 1) := by decide +kernel
def wp_X2_keptAs_2B (h : Nat) (x1 : Int32) (x2 : Int32) (S : xm_S) (g : Option Nat → xm_S → Prop) (Z2 : Int32 → Int32 → xm_S → Prop) : Prop :=
  st_t S h = some (2, 0) ∧ ((st_i S h 2) ≤ x2 → g none S) ∧ (¬ (st_i S h 2) ≤ x2 → ∃ n2, (st_r S h 1) = some n2 ∧ ∃ z5, st_t S n2 = some (111, z5) ∧ vp_in x2 z5 ∧ ∃ n7, (st_r S n2 (x2).toNatClampNeg) = some n7 ∧ st_t S n7 = some (1, 0) ∧ (¬ (st_i S n7 0) = x1 → ∀ y10, y10 = (x2 + (1 : Int32)) → Z2 x1 y10 S) ∧ ((st_i S n7 0) = x1 → ∃ n12, (st_r S h 1) = some n12 ∧ ∃ z15, st_t S n12 = some (111, z15) ∧ vp_in x2 z15 ∧ g (st_r S n12 (x2).toNatClampNeg) S))
def wp_X2_keptAs_2 (h : Nat) (x1 : Int32) (x2 : Int32) (S : xm_S) (g : Option Nat → xm_S → Prop) : Prop :=
  ∀ Z2 : Int32 → Int32 → xm_S → Prop, (∀ x1 x2 S, wp_X2_keptAs_2B h x1 x2 S g Z2 → Z2 x1 x2 S) → Z2 x1 x2 S
set_option maxRecDepth 100000 in
set_option maxHeartbeats 4000000 in
theorem kp_X2_keptAs_2B {K : xm_K} (h : Nat) (x1 : Int32) (x2 : Int32) (S : xm_S) {g : Option Nat → xm_S → Prop} {Z2 : Int32 → Int32 → xm_S → Prop} (C : xm_Cx K cX2_keptAs RX2 3 (some ((FieldType.object "Portsmith$Generation"))) rm_X2_keptAs) (N : xm_Nx K) (hg : ∀ v S, g v S → xm_q K (some (xm_r v)) S) (hZ2 : ∀ x1 x2 S, Z2 x1 x2 S → xm_W K 0 0 2 [(0, xm_r (some h)), (1, xm_i x1), (2, xm_i x2)] [] S) (h1 : wp_X2_keptAs_2B h x1 x2 S g Z2) : xm_W K 0 0 2 [(0, xm_r (some h)), (1, xm_i x1), (2, xm_i x2)] [] S := by
  unfold wp_X2_keptAs_2B at h1
  refine x_iload_n C 2 dX2_keptAs_2 rfl rfl ?_
  refine x_aload_n C 0 dX2_keptAs_3 rfl rfl ?_
  obtain ⟨ht1, h1⟩ := h1
  refine x_getf_i (n := h) C rfl ht1 fd_18 (by decide) dX2_keptAs_4 ?_
  refine x_icmp_ge (tgt := 36) C dX2_keptAs_7 (by decide) (fun z9 => ?_) (fun z9 => ?_)
  · have h1 := h1.1 z9
    refine x_null C dX2_keptAs_36 ?_
    exact x_aret C (Nat.le_of_ble_eq_true rfl) (Nat.le_of_ble_eq_true rfl) rfl (by first | exact Or.inl ⟨_, rfl⟩ | exact Or.inr ⟨_, rfl⟩) dX2_keptAs_37 (hg _ _ h1)
  · have h1 := h1.2 z9
    refine x_aload_n C 0 dX2_keptAs_10 rfl rfl ?_
    refine x_getf_r (n := h) C rfl ht1 fd_19 (by decide) dX2_keptAs_11 ?_
    refine x_iload_n C 2 dX2_keptAs_14 rfl rfl ?_
    obtain ⟨n2, hr3, h1⟩ := h1
    obtain ⟨z5, ht4, h1⟩ := h1
    obtain ⟨hi6, h1⟩ := h1
    refine x_aald (n := n2) C hr3 (by decide) rfl ht4 hi6 dX2_keptAs_15 ?_
    obtain ⟨n7, hr8, h1⟩ := h1
    obtain ⟨ht9, h1⟩ := h1
    refine x_getf_i (n := n7) C hr8 ht9 fd_21 (by decide) dX2_keptAs_16 ?_
    refine x_iload_n C 1 dX2_keptAs_19 rfl rfl ?_
    refine x_icmp_ne (tgt := 30) C dX2_keptAs_20 (by decide) (fun z9 => ?_) (fun z9 => ?_)
    · have h1 := h1.1 z9
      obtain ⟨y10, e11⟩ : ∃ y10, y10 = (x2 + (1 : Int32)) := ⟨_, rfl⟩
      have h1 := h1 y10 e11
      refine x_iinc (v := y10) (L' := [(2, xm_i y10), (0, xm_r (some h)), (1, xm_i x1)]) C 2 dX2_keptAs_30 rfl (by rw [e11]; rfl) (by decide) rfl ?_
      refine x_goto (tgt := 2) C dX2_keptAs_33 (by decide) ?_
      refine x_keep (L' := [(0, xm_r (some h)), (1, xm_i x1), (2, xm_i y10)]) C [1, 2, 0] rfl ?_
      exact hZ2 x1 y10 S h1
    · have h1 := h1.2 z9
      refine x_aload_n C 0 dX2_keptAs_23 rfl rfl ?_
      refine x_getf_r (n := h) C rfl ht1 fd_19 (by decide) dX2_keptAs_24 ?_
      refine x_iload_n C 2 dX2_keptAs_27 rfl rfl ?_
      obtain ⟨n12, hr13, h1⟩ := h1
      obtain ⟨z15, ht14, h1⟩ := h1
      obtain ⟨hi16, h1⟩ := h1
      refine x_aald (n := n12) C hr13 (by decide) rfl ht14 hi16 dX2_keptAs_28 ?_
      exact x_aret C (Nat.le_of_ble_eq_true rfl) (Nat.le_of_ble_eq_true rfl) rfl (by first | exact Or.inl ⟨_, rfl⟩ | exact Or.inr ⟨_, rfl⟩) dX2_keptAs_29 (hg _ _ h1)
theorem kp_X2_keptAs_2 {K : xm_K} (h : Nat) (x1 : Int32) (x2 : Int32) (S : xm_S) {g : Option Nat → xm_S → Prop} (C : xm_Cx K cX2_keptAs RX2 3 (some ((FieldType.object "Portsmith$Generation"))) rm_X2_keptAs) (N : xm_Nx K) (hg : ∀ v S, g v S → xm_q K (some (xm_r v)) S)  (h1 : wp_X2_keptAs_2 h x1 x2 S g) : xm_W K 0 0 2 [(0, xm_r (some h)), (1, xm_i x1), (2, xm_i x2)] [] S :=
  h1 (fun x1 x2 S => xm_W K 0 0 2 [(0, xm_r (some h)), (1, xm_i x1), (2, xm_i x2)] [] S) (fun x1 x2 S hb => kp_X2_keptAs_2B h x1 x2 S C N hg (fun x1 x2 S hz => hz) hb)
def wp_X2_keptAs (h : Nat) (x1 : Int32) (S : xm_S) (g : Option Nat → xm_S → Prop) : Prop :=
  wp_X2_keptAs_2 h x1 (0 : Int32) S g
set_option maxRecDepth 100000 in
set_option maxHeartbeats 4000000 in
theorem kp_X2_keptAs {K : xm_K} (h : Nat) (x1 : Int32) (S : xm_S) {g : Option Nat → xm_S → Prop} (C : xm_Cx K cX2_keptAs RX2 3 (some ((FieldType.object "Portsmith$Generation"))) rm_X2_keptAs) (N : xm_Nx K) (hg : ∀ v S, g v S → xm_q K (some (xm_r v)) S)  (h1 : wp_X2_keptAs h x1 S g) : xm_W K 0 0 0 [(0, xm_r (some h)), (1, xm_i x1)] [] S := by
  unfold wp_X2_keptAs at h1
  refine x_iconst (v := (0 : Int32)) C dX2_keptAs_0 (by decide) ?_
  refine x_istore_n (L' := [(2, xm_i (0 : Int32)), (0, xm_r (some h)), (1, xm_i x1)]) C dX2_keptAs_1 rfl (by decide) rfl ?_
  refine x_keep (L' := [(0, xm_r (some h)), (1, xm_i x1), (2, xm_i (0 : Int32))]) C [1, 2, 0] rfl ?_
  exact kp_X2_keptAs_2 h x1 (0 : Int32) S C N hg  h1
theorem kp_X2_keptAs_met {h : Nat} {x1 : Int32} {S : xm_S} {g : Option Nat → xm_S → Prop}  (h1 : wp_X2_keptAs h x1 S g) : xm_Met yX2_keptAs cX2_keptAs 3 (some ((FieldType.object "Portsmith$Generation"))) rm_X2_keptAs [xm_r (some h), xm_i x1] S (xm_qr g) xm_nox :=
  xm_ofW RX2 (by decide +kernel) rfl (Nat.le_of_ble_eq_true rfl) (fun K C N hq hx hi => kp_X2_keptAs h x1 S C N (fun v S h => by rw [hq]; exact ⟨v, rfl, h⟩)  h1)
def rm_X2_returnTo : Room := { frames := 3, cells := 0, slots := 0, locals := 68 }
theorem dX2_returnTo_0 : decode cX2_returnTo 0 = .ok (.aload_n 0, 1) := by decide +kernel
theorem dX2_returnTo_1 : decode cX2_returnTo 1 = .ok (.aload_n 1, 1) := by decide +kernel
theorem dX2_returnTo_2 : decode cX2_returnTo 2 = .ok (.getfield 125, 3) := by decide +kernel
theorem dX2_returnTo_5 : decode cX2_returnTo 5 = .ok (.putfield 28, 3) := by decide +kernel
theorem dX2_returnTo_8 : decode cX2_returnTo 8 = .ok (.aload_n 0, 1) := by decide +kernel
theorem dX2_returnTo_9 : decode cX2_returnTo 9 = .ok (.getfield 12, 3) := by decide +kernel
theorem dX2_returnTo_12 : decode cX2_returnTo 12 = .ok (.aload_n 1, 1) := by decide +kernel
theorem dX2_returnTo_13 : decode cX2_returnTo 13 = .ok (.getfield 132, 3) := by decide +kernel
theorem dX2_returnTo_16 : decode cX2_returnTo 16 = .ok (.invokevirtual 135, 3) := by decide +kernel
theorem dX2_returnTo_19 : decode cX2_returnTo 19 = .ok (.ireturn, 1) := by decide +kernel
def wp_X2_returnTo (h : Nat) (x1 : Option Nat) (S : xm_S) (g : Int32 → xm_S → Prop) : Prop :=
  ∃ n1, x1 = some n1 ∧ st_t S n1 = some (1, 0) ∧ st_t S h = some (2, 0) ∧ ∀ S5, S5 = st_pi S h 3 (st_i S n1 0) → ∃ n7, x1 = some n7 ∧ st_t S5 n7 = some (1, 0) ∧ ∃ n10, (st_r S5 h 0) = some n10 ∧ st_t S5 n10 = some (3, 0) ∧ wp_X3_becomeLike n10 (st_r S5 n7 2) S5 (fun r14 S13 => g r14 S13)
set_option maxRecDepth 100000 in
set_option maxHeartbeats 4000000 in
theorem kp_X2_returnTo {K : xm_K} (h : Nat) (x1 : Option Nat) (S : xm_S) {g : Int32 → xm_S → Prop} (C : xm_Cx K cX2_returnTo RX2 2 (some (FieldType.int)) rm_X2_returnTo) (N : xm_Nx K) (hg : ∀ v S, g v S → xm_q K (some (xm_i v)) S)  (h1 : wp_X2_returnTo h x1 S g) : xm_W K 0 0 0 [(0, xm_r (some h)), (1, xm_r x1)] [] S := by
  unfold wp_X2_returnTo at h1
  refine x_aload_n C 0 dX2_returnTo_0 rfl rfl ?_
  refine x_aload_n C 1 dX2_returnTo_1 rfl rfl ?_
  obtain ⟨n1, hr2, h1⟩ := h1
  obtain ⟨ht3, h1⟩ := h1
  refine x_getf_i (n := n1) C hr2 ht3 fd_21 (by decide) dX2_returnTo_2 ?_
  obtain ⟨ht4, h1⟩ := h1
  refine x_putf_i (n := h) C rfl ht4 fd_22 xc_2 (by decide) rfl ⟨rfl, rfl⟩ dX2_returnTo_5 ?_
  refine x_topS (fun S5 e6 => ?_)
  have h1 := h1 S5 e6
  refine x_aload_n C 0 dX2_returnTo_8 rfl rfl ?_
  refine x_getf_r (n := h) C rfl (tk_p e6 ht4) fd_16 (by decide) dX2_returnTo_9 ?_
  refine x_aload_n C 1 dX2_returnTo_12 rfl rfl ?_
  obtain ⟨n7, hr8, h1⟩ := h1
  obtain ⟨ht9, h1⟩ := h1
  refine x_getf_r (n := n7) C hr8 ht9 fd_24 (by decide) dX2_returnTo_13 ?_
  obtain ⟨n10, hr11, h1⟩ := h1
  obtain ⟨ht12, h1⟩ := h1
  refine x_callV (rm' := rm_X3_becomeLike) (n := n10) C (kp_X3_becomeLike_met h1) lk_6 gw_56 gw_57 xv_3 rfl hr11 ht12 rfl (Nat.le_of_ble_eq_true rfl) ⟨Nat.le_of_ble_eq_true rfl, Nat.le_of_ble_eq_true rfl, (Nat.le_of_ble_eq_true rfl), (Nat.le_of_ble_eq_true rfl)⟩ dX2_returnTo_16 xm_kx (xm_ki (fun r14 S13 h1 => ?_))
  exact x_iret C (Nat.le_of_ble_eq_true rfl) (Nat.le_of_ble_eq_true rfl) rfl dX2_returnTo_19 (hg _ _ h1)
theorem kp_X2_returnTo_met {h : Nat} {x1 : Option Nat} {S : xm_S} {g : Int32 → xm_S → Prop}  (h1 : wp_X2_returnTo h x1 S g) : xm_Met yX2_returnTo cX2_returnTo 2 (some (FieldType.int)) rm_X2_returnTo [xm_r (some h), xm_r x1] S (xm_qi g) xm_nox :=
  xm_ofW RX2 (by decide +kernel) rfl (Nat.le_of_ble_eq_true rfl) (fun K C N hq hx hi => kp_X2_returnTo h x1 S C N (fun v S h => by rw [hq]; exact ⟨v, rfl, h⟩)  h1)
