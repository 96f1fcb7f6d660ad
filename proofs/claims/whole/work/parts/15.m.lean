def rm_X12_may : Room := { frames := 1, cells := 0, slots := 0, locals := 20 }
theorem dX12_may_0 : decode cX12_may 0 = .ok (.aload_n 0, 1) := by decide +kernel
theorem dX12_may_1 : decode cX12_may 1 = .ok (.iload_n 1, 1) := by decide +kernel
theorem dX12_may_2 : decode cX12_may 2 = .ok (.putfield 169, 3) := by decide +kernel
theorem dX12_may_5 : decode cX12_may 5 = .ok (.iload_n 1, 1) := by decide +kernel
theorem dX12_may_6 : decode cX12_may 6 = .ok (.ifCond .ne 7, 3) := by decide +kernel
theorem dX12_may_9 : decode cX12_may 9 = .ok (.iconst 1, 1) := by decide +kernel
theorem dX12_may_10 : decode cX12_may 10 = .ok (.goto 4, 3) := by decide +kernel
theorem dX12_may_13 : decode cX12_may 13 = .ok (.iconst 0, 1) := by decide +kernel
theorem dX12_may_14 : decode cX12_may 14 = .ok (.ireturn, 1) := by decide +kernel
def wp_X12_may_14 (h : Nat) (s0 : Int32) (S : xm_S) (g : Int32 → xm_S → Prop) : Prop :=
  (s0 = 0 ∨ s0 = 1) ∧ g s0 S
set_option maxRecDepth 100000 in
set_option maxHeartbeats 4000000 in
theorem kp_X12_may_14 {K : xm_K} (h : Nat) (s0 : Int32) (S : xm_S) {g : Int32 → xm_S → Prop} (C : xm_Cx K cX12_may RX12 2 (some (FieldType.boolean)) rm_X12_may) (N : xm_Nx K) (hg : ∀ v S, g v S → xm_q K (some (xm_i v)) S)  (h1 : wp_X12_may_14 h s0 S g) : xm_W K 0 0 14 [] [xm_i s0] S := by
  unfold wp_X12_may_14 at h1
  exact x_zret C (Nat.le_of_ble_eq_true rfl) (Nat.le_of_ble_eq_true rfl) rfl h1.1 dX12_may_14 (hg _ _ h1.2)
def wp_X12_may (h : Nat) (x1 : Int32) (S : xm_S) (g : Int32 → xm_S → Prop) : Prop :=
  st_t S h = some (12, 0) ∧ ∀ S2, S2 = st_pi S h 0 x1 → (¬ x1 = 0 → wp_X12_may_14 h (0 : Int32) S2 g) ∧ (x1 = 0 → wp_X12_may_14 h (1 : Int32) S2 g)
set_option maxRecDepth 100000 in
set_option maxHeartbeats 4000000 in
theorem kp_X12_may {K : xm_K} (h : Nat) (x1 : Int32) (S : xm_S) {g : Int32 → xm_S → Prop} (C : xm_Cx K cX12_may RX12 2 (some (FieldType.boolean)) rm_X12_may) (N : xm_Nx K) (hg : ∀ v S, g v S → xm_q K (some (xm_i v)) S)  (h1 : wp_X12_may h x1 S g) : xm_W K 0 0 0 [(0, xm_r (some h)), (1, xm_i x1)] [] S := by
  unfold wp_X12_may at h1
  refine x_aload_n C 0 dX12_may_0 rfl rfl ?_
  refine x_iload_n C 1 dX12_may_1 rfl rfl ?_
  obtain ⟨ht1, h1⟩ := h1
  refine x_putf_i (n := h) C rfl ht1 fd_157 xc_12 (by decide) rfl ⟨rfl, rfl⟩ dX12_may_2 ?_
  refine x_topS (fun S2 e3 => ?_)
  have h1 := h1 S2 e3
  refine x_iload_n C 1 dX12_may_5 rfl rfl ?_
  refine x_if_ne (tgt := 13) C dX12_may_6 (by decide) (fun z9 => ?_) (fun z9 => ?_)
  · have h1 := h1.1 z9
    refine x_iconst (v := (0 : Int32)) C dX12_may_13 (by decide) ?_
    refine x_keep (L' := []) C [] rfl ?_
    exact kp_X12_may_14 h (0 : Int32) S2 C N hg  h1
  · have h1 := h1.2 z9
    refine x_iconst (v := (1 : Int32)) C dX12_may_9 (by decide) ?_
    refine x_goto (tgt := 14) C dX12_may_10 (by decide) ?_
    refine x_keep (L' := []) C [] rfl ?_
    exact kp_X12_may_14 h (1 : Int32) S2 C N hg  h1
theorem kp_X12_may_met {h : Nat} {x1 : Int32} {S : xm_S} {g : Int32 → xm_S → Prop}  (h1 : wp_X12_may h x1 S g) : xm_Met yX12_may cX12_may 2 (some (FieldType.boolean)) rm_X12_may [xm_r (some h), xm_i x1] S (xm_qi g) xm_nox :=
  xm_ofW RX12 (by decide +kernel) rfl (Nat.le_of_ble_eq_true rfl) (fun K C N hq hx hi => kp_X12_may h x1 S C N (fun v S h => by rw [hq]; exact ⟨v, rfl, h⟩)  h1)
def rm_X12_advise : Room := { frames := 8, cells := 0, slots := 0, locals := 168 }
theorem dX12_advise_0 : decode cX12_advise 0 = .ok (.iload_n 1, 1) := by decide +kernel
theorem dX12_advise_1 : decode cX12_advise 1 = .ok (.invokestatic 176, 3) := by decide +kernel
theorem dX12_advise_4 : decode cX12_advise 4 = .ok (.istore_n 3, 1) := by decide +kernel
theorem dX12_advise_5 : decode cX12_advise 5 = .ok (.aload_n 0, 1) := by decide +kernel
theorem dX12_advise_6 : decode cX12_advise 6 = .ok (.iload_n 3, 1) := by decide +kernel
theorem dX12_advise_7 : decode cX12_advise 7 = .ok (.ifCond .ne 7, 3) := by decide +kernel
theorem dX12_advise_10 : decode cX12_advise 10 = .ok (.iconst 1, 1) := by decide +kernel
theorem dX12_advise_11 : decode cX12_advise 11 = .ok (.goto 38, 3) := by decide +kernel
theorem dX12_advise_14 : decode cX12_advise 14 = .ok (.iload_n 2, 1) := by decide +kernel
theorem dX12_advise_15 : decode cX12_advise 15 = .ok (.iconst 1, 1) := by decide +kernel
theorem dX12_advise_16 : decode cX12_advise 16 = .ok (.bipush 9, 2) := by decide +kernel
theorem dX12_advise_18 : decode cX12_advise 18 = .ok (.invokestatic 172, 3) := by decide +kernel
theorem dX12_advise_21 : decode cX12_advise 21 = .ok (.ifCond .eq 10, 3) := by decide +kernel
theorem dX12_advise_24 : decode cX12_advise 24 = .ok (.aload_n 0, 1) := by decide +kernel
theorem dX12_advise_25 : decode cX12_advise 25 = .ok (.invokevirtual 240, 3) := by decide +kernel
theorem dX12_advise_28 : decode cX12_advise 28 = .ok (.ifCond .ne 7, 3) := by decide +kernel
theorem dX12_advise_31 : decode cX12_advise 31 = .ok (.iconst 2, 1) := by decide +kernel
theorem dX12_advise_32 : decode cX12_advise 32 = .ok (.goto 17, 3) := by decide +kernel
theorem dX12_advise_35 : decode cX12_advise 35 = .ok (.aload_n 0, 1) := by decide +kernel
theorem dX12_advise_36 : decode cX12_advise 36 = .ok (.getfield 317, 3) := by decide +kernel
theorem dX12_advise_39 : decode cX12_advise 39 = .ok (.bipush 6, 2) := by decide +kernel
theorem dX12_advise_41 : decode cX12_advise 41 = .ok (.if_icmp .ne 7, 3) := by decide +kernel
theorem dX12_advise_44 : decode cX12_advise 44 = .ok (.iconst 3, 1) := by decide +kernel
theorem dX12_advise_45 : decode cX12_advise 45 = .ok (.goto 4, 3) := by decide +kernel
theorem dX12_advise_48 : decode cX12_advise 48 = .ok (.iconst 0, 1) := by decide +kernel
theorem dX12_advise_49 : decode cX12_advise 49 = .ok (.invokevirtual 182, 3) := by decide +kernel
theorem dX12_advise_52 : decode cX12_advise 52 = .ok (.ifCond .ne 5, 3) := by decide +kernel
theorem dX12_advise_55 : decode cX12_advise 55 = .ok (.iconst 0, 1) := by decide +kernel
theorem dX12_advise_56 : decode cX12_advise 56 = .ok (.ireturn, 1) := by decide +kernel
theorem dX12_advise_57 : decode cX12_advise 57 = .ok (.aload_n 0, 1) := by decide +kernel
theorem dX12_advise_58 : decode cX12_advise 58 = .ok (.getfield 68, 3) := by decide +kernel
theorem dX12_advise_61 : decode cX12_advise 61 = .ok (.aload_n 0, 1) := by decide +kernel
theorem dX12_advise_62 : decode cX12_advise 62 = .ok (.getfield 317, 3) := by decide +kernel
theorem dX12_advise_65 : decode cX12_advise 65 = .ok (.iload_n 1, 1) := by decide +kernel
theorem dX12_advise_66 : decode cX12_advise 66 = .ok (.iastore, 1) := by decide +kernel
theorem dX12_advise_67 : decode cX12_advise 67 = .ok (.aload_n 0, 1) := by decide +kernel
theorem dX12_advise_68 : decode cX12_advise 68 = .ok (.getfield 71, 3) := by decide +kernel
theorem dX12_advise_71 : decode cX12_advise 71 = .ok (.aload_n 0, 1) := by decide +kernel
theorem dX12_advise_72 : decode cX12_advise 72 = .ok (.getfield 317, 3) := by decide +kernel
theorem dX12_advise_75 : decode cX12_advise 75 = .ok (.iload_n 2, 1) := by decide +kernel
theorem dX12_advise_76 : decode cX12_advise 76 = .ok (.iastore, 1) := by decide +kernel
theorem dX12_advise_77 : decode cX12_advise 77 = .ok (.aload_n 0, 1) := by decide +kernel
theorem dX12_advise_78 : decode cX12_advise 78 = .ok (.sipush 148, 3) := by decide +kernel
theorem dX12_advise_81 : decode cX12_advise 81 = .ok (.aload_n 0, 1) := by decide +kernel
theorem dX12_advise_82 : decode cX12_advise 82 = .ok (.getfield 317, 3) := by decide +kernel
theorem dX12_advise_85 : decode cX12_advise 85 = .ok (.iadd, 1) := by decide +kernel
theorem dX12_advise_86 : decode cX12_advise 86 = .ok (.invokevirtual 243, 3) := by decide +kernel
theorem dX12_advise_89 : decode cX12_advise 89 = .ok (.aload_n 0, 1) := by decide +kernel
theorem dX12_advise_90 : decode cX12_advise 90 = .ok (.dup, 1) := by decide +kernel
theorem dX12_advise_91 : decode cX12_advise 91 = .ok (.getfield 317, 3) := by decide +kernel
theorem dX12_advise_94 : decode cX12_advise 94 = .ok (.iconst 1, 1) := by decide +kernel
theorem dX12_advise_95 : decode cX12_advise 95 = .ok (.iadd, 1) := by decide +kernel
theorem dX12_advise_96 : decode cX12_advise 96 = .ok (.putfield 317, 3) := by decide +kernel
theorem dX12_advise_99 : decode cX12_advise 99 = .ok (.aload_n 0, 1) := by decide +kernel
theorem dX12_advise_100 : decode cX12_advise 100 = .ok (.getfield 317, 3) := by decide +kernel
theorem dX12_advise_103 : decode cX12_advise 103 = .ok (.ireturn, 1) := by decide +kernel
def wp_X12_advise_49 (h : Nat) (x1 : Int32) (x2 : Int32) (s0 : Int32) (s1 : Option Nat) (S : xm_S) (g : Int32 → xm_S → Prop) : Prop :=
  ∃ n1, s1 = some n1 ∧ st_t S n1 = some (12, 0) ∧ wp_X12_may n1 s0 S (fun r5 S4 => (¬ r5 = 0 → st_t S4 h = some (12, 0) ∧ ∃ n7, (st_r S4 h 22) = some n7 ∧ ∃ z10, st_t S4 n7 = some (100, z10) ∧ vp_in (st_i S4 h 21) z10 ∧ ∀ S12, S12 = st_pi S4 n7 ((st_i S4 h 21)).toNatClampNeg x1 → ∃ n14, (st_r S12 h 23) = some n14 ∧ ∃ z17, st_t S12 n14 = some (100, z17) ∧ vp_in (st_i S12 h 21) z17 ∧ ∀ S19, S19 = st_pi S12 n14 ((st_i S12 h 21)).toNatClampNeg x2 → wp_X12_keeps h ((nI 148) + (st_i S19 h 21)) S19 (fun S21 => st_t S21 h = some (12, 0) ∧ ∀ S24, S24 = st_pi S21 h 21 ((st_i S21 h 21) + (1 : Int32)) → g (st_i S24 h 21) S24)) ∧ (r5 = 0 → g (0 : Int32) S4))
set_option maxRecDepth 100000 in
set_option maxHeartbeats 4000000 in
theorem kp_X12_advise_49 {K : xm_K} (h : Nat) (x1 : Int32) (x2 : Int32) (s0 : Int32) (s1 : Option Nat) (S : xm_S) {g : Int32 → xm_S → Prop} (C : xm_Cx K cX12_advise RX12 4 (some (FieldType.int)) rm_X12_advise) (N : xm_Nx K) (hg : ∀ v S, g v S → xm_q K (some (xm_i v)) S)  (h1 : wp_X12_advise_49 h x1 x2 s0 s1 S g) : xm_W K 0 0 49 [(0, xm_r (some h)), (1, xm_i x1), (2, xm_i x2)] [xm_i s0, xm_r s1] S := by
  unfold wp_X12_advise_49 at h1
  obtain ⟨n1, hr2, h1⟩ := h1
  obtain ⟨ht3, h1⟩ := h1
  refine x_callV (rm' := rm_X12_may) (n := n1) C (kp_X12_may_met h1) lk_71 gw_449 gw_450 xv_12 rfl hr2 ht3 rfl (Nat.le_of_ble_eq_true rfl) ⟨Nat.le_of_ble_eq_true rfl, Nat.le_of_ble_eq_true rfl, (Nat.le_of_ble_eq_true rfl), (Nat.le_of_ble_eq_true rfl)⟩ dX12_advise_49 xm_kx (xm_ki (fun r5 S4 h1 => ?_))
  refine x_if_ne (tgt := 57) C dX12_advise_52 (by decide) (fun z9 => ?_) (fun z9 => ?_)
  · have h1 := h1.1 z9
    refine x_aload_n C 0 dX12_advise_57 rfl rfl ?_
    obtain ⟨ht6, h1⟩ := h1
    refine x_getf_r (n := h) C rfl ht6 fd_158 (by decide) dX12_advise_58 ?_
    refine x_aload_n C 0 dX12_advise_61 rfl rfl ?_
    refine x_getf_i (n := h) C rfl ht6 fd_159 (by decide) dX12_advise_62 ?_
    refine x_iload_n C 1 dX12_advise_65 rfl rfl ?_
    obtain ⟨n7, hr8, h1⟩ := h1
    obtain ⟨z10, ht9, h1⟩ := h1
    obtain ⟨hi11, h1⟩ := h1
    refine x_iast (n := n7) C hr8 ht9 hi11 dX12_advise_66 ?_
    refine x_topS (fun S12 e13 => ?_)
    have h1 := h1 S12 e13
    refine x_aload_n C 0 dX12_advise_67 rfl rfl ?_
    refine x_getf_r (n := h) C rfl (tk_p e13 ht6) fd_160 (by decide) dX12_advise_68 ?_
    refine x_aload_n C 0 dX12_advise_71 rfl rfl ?_
    refine x_getf_i (n := h) C rfl (tk_p e13 ht6) fd_159 (by decide) dX12_advise_72 ?_
    refine x_iload_n C 2 dX12_advise_75 rfl rfl ?_
    obtain ⟨n14, hr15, h1⟩ := h1
    obtain ⟨z17, ht16, h1⟩ := h1
    obtain ⟨hi18, h1⟩ := h1
    refine x_iast (n := n14) C hr15 ht16 hi18 dX12_advise_76 ?_
    refine x_topS (fun S19 e20 => ?_)
    have h1 := h1 S19 e20
    refine x_aload_n C 0 dX12_advise_77 rfl rfl ?_
    refine x_sipush (v := (nI 148)) C dX12_advise_78 (by decide) ?_
    refine x_aload_n C 0 dX12_advise_81 rfl rfl ?_
    refine x_getf_i (n := h) C rfl (tk_p e20 (tk_p e13 ht6)) fd_159 (by decide) dX12_advise_82 ?_
    refine x_iadd C dX12_advise_85 ?_
    refine x_callV (rm' := rm_X12_keeps) (n := h) C (kp_X12_keeps_met h1) lk_72 gw_456 gw_457 xv_12 rfl rfl (tk_p e20 (tk_p e13 ht6)) rfl (Nat.le_of_ble_eq_true rfl) ⟨Nat.le_of_ble_eq_true rfl, Nat.le_of_ble_eq_true rfl, (Nat.le_of_ble_eq_true rfl), (Nat.le_of_ble_eq_true rfl)⟩ dX12_advise_86 xm_kx (xm_kv (fun S21 h1 => ?_))
    refine x_aload_n C 0 dX12_advise_89 rfl rfl ?_
    refine x_dup_r C dX12_advise_90 ?_
    obtain ⟨ht23, h1⟩ := h1
    refine x_getf_i (n := h) C rfl ht23 fd_159 (by decide) dX12_advise_91 ?_
    refine x_iconst (v := (1 : Int32)) C dX12_advise_94 (by decide) ?_
    refine x_iadd C dX12_advise_95 ?_
    refine x_putf_i (n := h) C rfl ht23 fd_159 xc_12 (by decide) rfl ⟨rfl, rfl⟩ dX12_advise_96 ?_
    refine x_topS (fun S24 e25 => ?_)
    have h1 := h1 S24 e25
    refine x_aload_n C 0 dX12_advise_99 rfl rfl ?_
    refine x_getf_i (n := h) C rfl (tk_p e25 ht23) fd_159 (by decide) dX12_advise_100 ?_
    exact x_iret C (Nat.le_of_ble_eq_true rfl) (Nat.le_of_ble_eq_true rfl) rfl dX12_advise_103 (hg _ _ h1)
  · have h1 := h1.2 z9
    refine x_iconst (v := (0 : Int32)) C dX12_advise_55 (by decide) ?_
    exact x_iret C (Nat.le_of_ble_eq_true rfl) (Nat.le_of_ble_eq_true rfl) rfl dX12_advise_56 (hg _ _ h1)
def wp_X12_advise_31 (h : Nat) (x1 : Int32) (x2 : Int32) (s0 : Option Nat) (S : xm_S) (g : Int32 → xm_S → Prop) : Prop :=
  wp_X12_advise_49 h x1 x2 (nI 2) s0 S g
set_option maxRecDepth 100000 in
set_option maxHeartbeats 4000000 in
theorem kp_X12_advise_31 {K : xm_K} (h : Nat) (x1 : Int32) (x2 : Int32) (s0 : Option Nat) (S : xm_S) {g : Int32 → xm_S → Prop} (C : xm_Cx K cX12_advise RX12 4 (some (FieldType.int)) rm_X12_advise) (N : xm_Nx K) (hg : ∀ v S, g v S → xm_q K (some (xm_i v)) S)  (h1 : wp_X12_advise_31 h x1 x2 s0 S g) : xm_W K 0 0 31 [(0, xm_r (some h)), (1, xm_i x1), (2, xm_i x2)] [xm_r s0] S := by
  unfold wp_X12_advise_31 at h1
  refine x_iconst (v := (nI 2)) C dX12_advise_31 (by decide) ?_
  refine x_goto (tgt := 49) C dX12_advise_32 (by decide) ?_
  exact kp_X12_advise_49 h x1 x2 (nI 2) s0 S C N hg  h1
def wp_X12_advise (h : Nat) (x1 : Int32) (x2 : Int32) (S : xm_S) (g : Int32 → xm_S → Prop) : Prop :=
  wp_X12_isPack x1 S (fun r27 S26 => (¬ r27 = 0 → wp_X12_in x2 (1 : Int32) (nI 9) S26 (fun r29 S28 => (r29 = 0 → wp_X12_advise_31 h x1 x2 (some h) S28 g) ∧ (¬ r29 = 0 → st_t S28 h = some (12, 0) ∧ wp_X12_isTyped h S28 (fun r32 S31 => (¬ r32 = 0 → st_t S31 h = some (12, 0) ∧ (¬ (st_i S31 h 21) = (nI 6) → wp_X12_advise_49 h x1 x2 (0 : Int32) (some h) S31 g) ∧ ((st_i S31 h 21) = (nI 6) → wp_X12_advise_49 h x1 x2 (nI 3) (some h) S31 g)) ∧ (r32 = 0 → wp_X12_advise_31 h x1 x2 (some h) S31 g))))) ∧ (r27 = 0 → wp_X12_advise_49 h x1 x2 (1 : Int32) (some h) S26 g))
set_option maxRecDepth 100000 in
set_option maxHeartbeats 4000000 in
theorem kp_X12_advise {K : xm_K} (h : Nat) (x1 : Int32) (x2 : Int32) (S : xm_S) {g : Int32 → xm_S → Prop} (C : xm_Cx K cX12_advise RX12 4 (some (FieldType.int)) rm_X12_advise) (N : xm_Nx K) (hg : ∀ v S, g v S → xm_q K (some (xm_i v)) S)  (h1 : wp_X12_advise h x1 x2 S g) : xm_W K 0 0 0 [(0, xm_r (some h)), (1, xm_i x1), (2, xm_i x2)] [] S := by
  unfold wp_X12_advise at h1
  refine x_iload_n C 1 dX12_advise_0 rfl rfl ?_
  refine x_callS (rm' := rm_X12_isPack) C (kp_X12_isPack_met h1) lk_73 gw_460 rfl (Nat.le_of_ble_eq_true rfl) ⟨Nat.le_of_ble_eq_true rfl, Nat.le_of_ble_eq_true rfl, (Nat.le_of_ble_eq_true rfl), (Nat.le_of_ble_eq_true rfl)⟩ dX12_advise_1 xm_kx (xm_ki (fun r27 S26 h1 => ?_))
  refine x_istore_n (L' := [(3, xm_i r27), (0, xm_r (some h)), (1, xm_i x1), (2, xm_i x2)]) C dX12_advise_4 rfl (by decide) rfl ?_
  refine x_aload_n C 1 dX12_advise_5 rfl rfl ?_
  refine x_iload_n C 0 dX12_advise_6 rfl rfl ?_
  refine x_if_ne (tgt := 14) C dX12_advise_7 (by decide) (fun z9 => ?_) (fun z9 => ?_)
  · have h1 := h1.1 z9
    refine x_iload_n C 3 dX12_advise_14 rfl rfl ?_
    refine x_iconst (v := (1 : Int32)) C dX12_advise_15 (by decide) ?_
    refine x_bipush (v := (nI 9)) C dX12_advise_16 (by decide) ?_
    refine x_callS (rm' := rm_X12_in) C (kp_X12_in_met h1) lk_63 gw_410 rfl (Nat.le_of_ble_eq_true rfl) ⟨Nat.le_of_ble_eq_true rfl, Nat.le_of_ble_eq_true rfl, (Nat.le_of_ble_eq_true rfl), (Nat.le_of_ble_eq_true rfl)⟩ dX12_advise_18 xm_kx (xm_ki (fun r29 S28 h1 => ?_))
    refine x_if_eq (tgt := 31) C dX12_advise_21 (by decide) (fun z9 => ?_) (fun z9 => ?_)
    · have h1 := h1.1 z9
      refine x_keep (L' := [(0, xm_r (some h)), (1, xm_i x1), (2, xm_i x2)]) C [1, 2, 3] rfl ?_
      exact kp_X12_advise_31 h x1 x2 (some h) S28 C N hg  h1
    · have h1 := h1.2 z9
      refine x_aload_n C 1 dX12_advise_24 rfl rfl ?_
      obtain ⟨ht30, h1⟩ := h1
      refine x_callV (rm' := rm_X12_isTyped) (n := h) C (kp_X12_isTyped_met h1) lk_74 gw_463 gw_464 xv_12 rfl rfl ht30 rfl (Nat.le_of_ble_eq_true rfl) ⟨Nat.le_of_ble_eq_true rfl, Nat.le_of_ble_eq_true rfl, (Nat.le_of_ble_eq_true rfl), (Nat.le_of_ble_eq_true rfl)⟩ dX12_advise_25 xm_kx (xm_ki (fun r32 S31 h1 => ?_))
      refine x_if_ne (tgt := 35) C dX12_advise_28 (by decide) (fun z9 => ?_) (fun z9 => ?_)
      · have h1 := h1.1 z9
        refine x_aload_n C 1 dX12_advise_35 rfl rfl ?_
        obtain ⟨ht33, h1⟩ := h1
        refine x_getf_i (n := h) C rfl ht33 fd_159 (by decide) dX12_advise_36 ?_
        refine x_bipush (v := (nI 6)) C dX12_advise_39 (by decide) ?_
        refine x_icmp_ne (tgt := 48) C dX12_advise_41 (by decide) (fun z9 => ?_) (fun z9 => ?_)
        · have h1 := h1.1 z9
          refine x_iconst (v := (0 : Int32)) C dX12_advise_48 (by decide) ?_
          refine x_keep (L' := [(0, xm_r (some h)), (1, xm_i x1), (2, xm_i x2)]) C [1, 2, 3] rfl ?_
          exact kp_X12_advise_49 h x1 x2 (0 : Int32) (some h) S31 C N hg  h1
        · have h1 := h1.2 z9
          refine x_iconst (v := (nI 3)) C dX12_advise_44 (by decide) ?_
          refine x_goto (tgt := 49) C dX12_advise_45 (by decide) ?_
          refine x_keep (L' := [(0, xm_r (some h)), (1, xm_i x1), (2, xm_i x2)]) C [1, 2, 3] rfl ?_
          exact kp_X12_advise_49 h x1 x2 (nI 3) (some h) S31 C N hg  h1
      · have h1 := h1.2 z9
        refine x_keep (L' := [(0, xm_r (some h)), (1, xm_i x1), (2, xm_i x2)]) C [1, 2, 3] rfl ?_
        exact kp_X12_advise_31 h x1 x2 (some h) S31 C N hg  h1
  · have h1 := h1.2 z9
    refine x_iconst (v := (1 : Int32)) C dX12_advise_10 (by decide) ?_
    refine x_goto (tgt := 49) C dX12_advise_11 (by decide) ?_
    refine x_keep (L' := [(0, xm_r (some h)), (1, xm_i x1), (2, xm_i x2)]) C [1, 2, 3] rfl ?_
    exact kp_X12_advise_49 h x1 x2 (1 : Int32) (some h) S26 C N hg  h1
theorem kp_X12_advise_met {h : Nat} {x1 : Int32} {x2 : Int32} {S : xm_S} {g : Int32 → xm_S → Prop}  (h1 : wp_X12_advise h x1 x2 S g) : xm_Met yX12_advise cX12_advise 4 (some (FieldType.int)) rm_X12_advise [xm_r (some h), xm_i x1, xm_i x2] S (xm_qi g) xm_nox :=
  xm_ofW RX12 (by decide +kernel) rfl (Nat.le_of_ble_eq_true rfl) (fun K C N hq hx hi => kp_X12_advise h x1 x2 S C N (fun v S h => by rw [hq]; exact ⟨v, rfl, h⟩)  h1)
def rm_X12_isPlatform : Room := { frames := 2, cells := 0, slots := 0, locals := 42 }
theorem dX12_isPlatform_0 : decode cX12_isPlatform 0 = .ok (.iload_n 0, 1) := by decide +kernel
theorem dX12_isPlatform_1 : decode cX12_isPlatform 1 = .ok (.iconst 0, 1) := by decide +kernel
theorem dX12_isPlatform_2 : decode cX12_isPlatform 2 = .ok (.iconst 2, 1) := by decide +kernel
theorem dX12_isPlatform_3 : decode cX12_isPlatform 3 = .ok (.invokestatic 172, 3) := by decide +kernel
theorem dX12_isPlatform_6 : decode cX12_isPlatform 6 = .ok (.ireturn, 1) := by decide +kernel
def wp_X12_isPlatform (x0 : Int32) (S : xm_S) (g : Int32 → xm_S → Prop) : Prop :=
  wp_X12_in x0 (0 : Int32) (nI 2) S (fun r2 S1 => (r2 = 0 ∨ r2 = 1) ∧ g r2 S1)
set_option maxRecDepth 100000 in
set_option maxHeartbeats 4000000 in
theorem kp_X12_isPlatform {K : xm_K} (x0 : Int32) (S : xm_S) {g : Int32 → xm_S → Prop} (C : xm_Cx K cX12_isPlatform RX12 1 (some (FieldType.boolean)) rm_X12_isPlatform) (N : xm_Nx K) (hg : ∀ v S, g v S → xm_q K (some (xm_i v)) S)  (h1 : wp_X12_isPlatform x0 S g) : xm_W K 0 0 0 [(0, xm_i x0)] [] S := by
  unfold wp_X12_isPlatform at h1
  refine x_iload_n C 0 dX12_isPlatform_0 rfl rfl ?_
  refine x_iconst (v := (0 : Int32)) C dX12_isPlatform_1 (by decide) ?_
  refine x_iconst (v := (nI 2)) C dX12_isPlatform_2 (by decide) ?_
  refine x_callS (rm' := rm_X12_in) C (kp_X12_in_met h1) lk_63 gw_410 rfl (Nat.le_of_ble_eq_true rfl) ⟨Nat.le_of_ble_eq_true rfl, Nat.le_of_ble_eq_true rfl, (Nat.le_of_ble_eq_true rfl), (Nat.le_of_ble_eq_true rfl)⟩ dX12_isPlatform_3 xm_kx (xm_ki (fun r2 S1 h1 => ?_))
  exact x_zret C (Nat.le_of_ble_eq_true rfl) (Nat.le_of_ble_eq_true rfl) rfl h1.1 dX12_isPlatform_6 (hg _ _ h1.2)
theorem kp_X12_isPlatform_met {x0 : Int32} {S : xm_S} {g : Int32 → xm_S → Prop}  (h1 : wp_X12_isPlatform x0 S g) : xm_Met yX12_isPlatform cX12_isPlatform 1 (some (FieldType.boolean)) rm_X12_isPlatform [xm_i x0] S (xm_qi g) xm_nox :=
  xm_ofW RX12 (by decide +kernel) rfl (Nat.le_of_ble_eq_true rfl) (fun K C N hq hx hi => kp_X12_isPlatform x0 S C N (fun v S h => by rw [hq]; exact ⟨v, rfl, h⟩)  h1)
def rm_X12_isOfPreview : Room := { frames := 1, cells := 0, slots := 0, locals := 20 }
theorem dX12_isOfPreview_0 : decode cX12_isOfPreview 0 = .ok (.aload_n 0, 1) := by decide +kernel
theorem dX12_isOfPreview_1 : decode cX12_isOfPreview 1 = .ok (.getfield 166, 3) := by decide +kernel
theorem dX12_isOfPreview_4 : decode cX12_isOfPreview 4 = .ok (.iconst 4, 1) := by decide +kernel
theorem dX12_isOfPreview_5 : decode cX12_isOfPreview 5 = .ok (.iaload, 1) := by decide +kernel
theorem dX12_isOfPreview_6 : decode cX12_isOfPreview 6 = .ok (.ifCond .le 51, 3) := by decide +kernel
theorem dX12_isOfPreview_9 : decode cX12_isOfPreview 9 = .ok (.sipush 1000, 3) := by decide +kernel
theorem dX12_isOfPreview_12 : decode cX12_isOfPreview 12 = .ok (.aload_n 0, 1) := by decide +kernel
theorem dX12_isOfPreview_13 : decode cX12_isOfPreview 13 = .ok (.getfield 166, 3) := by decide +kernel
theorem dX12_isOfPreview_16 : decode cX12_isOfPreview 16 = .ok (.iconst 0, 1) := by decide +kernel
theorem dX12_isOfPreview_17 : decode cX12_isOfPreview 17 = .ok (.iaload, 1) := by decide +kernel
theorem dX12_isOfPreview_18 : decode cX12_isOfPreview 18 = .ok (.imul, 1) := by decide +kernel
theorem dX12_isOfPreview_19 : decode cX12_isOfPreview 19 = .ok (.bipush 100, 2) := by decide +kernel
theorem dX12_isOfPreview_21 : decode cX12_isOfPreview 21 = .ok (.aload_n 0, 1) := by decide +kernel
theorem dX12_isOfPreview_22 : decode cX12_isOfPreview 22 = .ok (.getfield 166, 3) := by decide +kernel
theorem dX12_isOfPreview_25 : decode cX12_isOfPreview 25 = .ok (.iconst 1, 1) := by decide +kernel
theorem dX12_isOfPreview_26 : decode cX12_isOfPreview 26 = .ok (.iaload, 1) := by decide +kernel
theorem dX12_isOfPreview_27 : decode cX12_isOfPreview 27 = .ok (.imul, 1) := by decide +kernel
theorem dX12_isOfPreview_28 : decode cX12_isOfPreview 28 = .ok (.iadd, 1) := by decide +kernel
theorem dX12_isOfPreview_29 : decode cX12_isOfPreview 29 = .ok (.bipush 10, 2) := by decide +kernel
theorem dX12_isOfPreview_31 : decode cX12_isOfPreview 31 = .ok (.aload_n 0, 1) := by decide +kernel
theorem dX12_isOfPreview_32 : decode cX12_isOfPreview 32 = .ok (.getfield 166, 3) := by decide +kernel
theorem dX12_isOfPreview_35 : decode cX12_isOfPreview 35 = .ok (.iconst 2, 1) := by decide +kernel
theorem dX12_isOfPreview_36 : decode cX12_isOfPreview 36 = .ok (.iaload, 1) := by decide +kernel
theorem dX12_isOfPreview_37 : decode cX12_isOfPreview 37 = .ok (.imul, 1) := by decide +kernel
theorem dX12_isOfPreview_38 : decode cX12_isOfPreview 38 = .ok (.iadd, 1) := by decide +kernel
theorem dX12_isOfPreview_39 : decode cX12_isOfPreview 39 = .ok (.aload_n 0, 1) := by decide +kernel
theorem dX12_isOfPreview_40 : decode cX12_isOfPreview 40 = .ok (.getfield 166, 3) := by decide +kernel
theorem dX12_isOfPreview_43 : decode cX12_isOfPreview 43 = .ok (.iconst 3, 1) := by decide +kernel
theorem dX12_isOfPreview_44 : decode cX12_isOfPreview 44 = .ok (.iaload, 1) := by decide +kernel
theorem dX12_isOfPreview_45 : decode cX12_isOfPreview 45 = .ok (.iadd, 1) := by decide +kernel
theorem dX12_isOfPreview_46 : decode cX12_isOfPreview 46 = .ok (.iload_n 1, 1) := by decide +kernel
theorem dX12_isOfPreview_47 : decode cX12_isOfPreview 47 = .ok (.bipush 10, 2) := by decide +kernel
theorem dX12_isOfPreview_49 : decode cX12_isOfPreview 49 = .ok (.idiv, 1) := by decide +kernel
theorem dX12_isOfPreview_50 : decode cX12_isOfPreview 50 = .ok (.if_icmp .ne 7, 3) := by decide +kernel
theorem dX12_isOfPreview_53 : decode cX12_isOfPreview 53 = .ok (.iconst 1, 1) := by decide +kernel
theorem dX12_isOfPreview_54 : decode cX12_isOfPreview 54 = .ok (.goto 4, 3) := by decide +kernel
theorem dX12_isOfPreview_57 : decode cX12_isOfPreview 57 = .ok (.iconst 0, 1) := by decide +kernel
theorem dX12_isOfPreview_58 : decode cX12_isOfPreview 58 = .ok (.ireturn, 1) := by decide +kernel
def wp_X12_isOfPreview_58 (h : Nat) (s0 : Int32) (S : xm_S) (g : Int32 → xm_S → Prop) : Prop :=
  (s0 = 0 ∨ s0 = 1) ∧ g s0 S
set_option maxRecDepth 100000 in
set_option maxHeartbeats 4000000 in
theorem kp_X12_isOfPreview_58 {K : xm_K} (h : Nat) (s0 : Int32) (S : xm_S) {g : Int32 → xm_S → Prop} (C : xm_Cx K cX12_isOfPreview RX12 2 (some (FieldType.boolean)) rm_X12_isOfPreview) (N : xm_Nx K) (hg : ∀ v S, g v S → xm_q K (some (xm_i v)) S)  (h1 : wp_X12_isOfPreview_58 h s0 S g) : xm_W K 0 0 58 [] [xm_i s0] S := by
  unfold wp_X12_isOfPreview_58 at h1
  exact x_zret C (Nat.le_of_ble_eq_true rfl) (Nat.le_of_ble_eq_true rfl) rfl h1.1 dX12_isOfPreview_58 (hg _ _ h1.2)
def wp_X12_isOfPreview_57 (h : Nat)  (S : xm_S) (g : Int32 → xm_S → Prop) : Prop :=
  wp_X12_isOfPreview_58 h (0 : Int32) S g
set_option maxRecDepth 100000 in
set_option maxHeartbeats 4000000 in
theorem kp_X12_isOfPreview_57 {K : xm_K} (h : Nat)  (S : xm_S) {g : Int32 → xm_S → Prop} (C : xm_Cx K cX12_isOfPreview RX12 2 (some (FieldType.boolean)) rm_X12_isOfPreview) (N : xm_Nx K) (hg : ∀ v S, g v S → xm_q K (some (xm_i v)) S)  (h1 : wp_X12_isOfPreview_57 h  S g) : xm_W K 0 0 57 [] [] S := by
  unfold wp_X12_isOfPreview_57 at h1
  refine x_iconst (v := (0 : Int32)) C dX12_isOfPreview_57 (by decide) ?_
  exact kp_X12_isOfPreview_58 h (0 : Int32) S C N hg  h1
def wp_X12_isOfPreview (h : Nat) (x1 : Int32) (S : xm_S) (g : Int32 → xm_S → Prop) : Prop :=
  st_t S h = some (12, 0) ∧ ∃ n2, (st_r S h 63) = some n2 ∧ ∃ z5, st_t S n2 = some (100, z5) ∧ vp_in (nI 4) z5 ∧ ((st_i S n2 ((nI 4)).toNatClampNeg) ≤ 0 → wp_X12_isOfPreview_57 h S g) ∧ (¬ (st_i S n2 ((nI 4)).toNatClampNeg) ≤ 0 → ∃ n7, (st_r S h 63) = some n7 ∧ ∃ z10, st_t S n7 = some (100, z10) ∧ vp_in (0 : Int32) z10 ∧ ∃ n12, (st_r S h 63) = some n12 ∧ ∃ z15, st_t S n12 = some (100, z15) ∧ vp_in (1 : Int32) z15 ∧ ∃ n17, (st_r S h 63) = some n17 ∧ ∃ z20, st_t S n17 = some (100, z20) ∧ vp_in (nI 2) z20 ∧ ∃ n22, (st_r S h 63) = some n22 ∧ ∃ z25, st_t S n22 = some (100, z25) ∧ vp_in (nI 3) z25 ∧ (¬ (((((nI 1000) * (st_i S n7 ((0 : Int32)).toNatClampNeg)) + ((nI 100) * (st_i S n12 ((1 : Int32)).toNatClampNeg))) + ((nI 10) * (st_i S n17 ((nI 2)).toNatClampNeg))) + (st_i S n22 ((nI 3)).toNatClampNeg)) = (x1 / (nI 10)) → wp_X12_isOfPreview_57 h S g) ∧ ((((((nI 1000) * (st_i S n7 ((0 : Int32)).toNatClampNeg)) + ((nI 100) * (st_i S n12 ((1 : Int32)).toNatClampNeg))) + ((nI 10) * (st_i S n17 ((nI 2)).toNatClampNeg))) + (st_i S n22 ((nI 3)).toNatClampNeg)) = (x1 / (nI 10)) → wp_X12_isOfPreview_58 h (1 : Int32) S g))
set_option maxRecDepth 100000 in
set_option maxHeartbeats 4000000 in
theorem kp_X12_isOfPreview {K : xm_K} (h : Nat) (x1 : Int32) (S : xm_S) {g : Int32 → xm_S → Prop} (C : xm_Cx K cX12_isOfPreview RX12 2 (some (FieldType.boolean)) rm_X12_isOfPreview) (N : xm_Nx K) (hg : ∀ v S, g v S → xm_q K (some (xm_i v)) S)  (h1 : wp_X12_isOfPreview h x1 S g) : xm_W K 0 0 0 [(0, xm_r (some h)), (1, xm_i x1)] [] S := by
  unfold wp_X12_isOfPreview at h1
  refine x_aload_n C 0 dX12_isOfPreview_0 rfl rfl ?_
  obtain ⟨ht1, h1⟩ := h1
  refine x_getf_r (n := h) C rfl ht1 fd_154 (by decide) dX12_isOfPreview_1 ?_
  refine x_iconst (v := (nI 4)) C dX12_isOfPreview_4 (by decide) ?_
  obtain ⟨n2, hr3, h1⟩ := h1
  obtain ⟨z5, ht4, h1⟩ := h1
  obtain ⟨hi6, h1⟩ := h1
  refine x_iald (n := n2) C hr3 ht4 hi6 dX12_isOfPreview_5 ?_
  refine x_if_le (tgt := 57) C dX12_isOfPreview_6 (by decide) (fun z9 => ?_) (fun z9 => ?_)
  · have h1 := h1.1 z9
    refine x_keep (L' := []) C [] rfl ?_
    exact kp_X12_isOfPreview_57 h S C N hg  h1
  · have h1 := h1.2 z9
    refine x_sipush (v := (nI 1000)) C dX12_isOfPreview_9 (by decide) ?_
    refine x_aload_n C 0 dX12_isOfPreview_12 rfl rfl ?_
    refine x_getf_r (n := h) C rfl ht1 fd_154 (by decide) dX12_isOfPreview_13 ?_
    refine x_iconst (v := (0 : Int32)) C dX12_isOfPreview_16 (by decide) ?_
    obtain ⟨n7, hr8, h1⟩ := h1
    obtain ⟨z10, ht9, h1⟩ := h1
    obtain ⟨hi11, h1⟩ := h1
    refine x_iald (n := n7) C hr8 ht9 hi11 dX12_isOfPreview_17 ?_
    refine x_imul C dX12_isOfPreview_18 ?_
    refine x_bipush (v := (nI 100)) C dX12_isOfPreview_19 (by decide) ?_
    refine x_aload_n C 0 dX12_isOfPreview_21 rfl rfl ?_
    refine x_getf_r (n := h) C rfl ht1 fd_154 (by decide) dX12_isOfPreview_22 ?_
    refine x_iconst (v := (1 : Int32)) C dX12_isOfPreview_25 (by decide) ?_
    obtain ⟨n12, hr13, h1⟩ := h1
    obtain ⟨z15, ht14, h1⟩ := h1
    obtain ⟨hi16, h1⟩ := h1
    refine x_iald (n := n12) C hr13 ht14 hi16 dX12_isOfPreview_26 ?_
    refine x_imul C dX12_isOfPreview_27 ?_
    refine x_iadd C dX12_isOfPreview_28 ?_
    refine x_bipush (v := (nI 10)) C dX12_isOfPreview_29 (by decide) ?_
    refine x_aload_n C 0 dX12_isOfPreview_31 rfl rfl ?_
    refine x_getf_r (n := h) C rfl ht1 fd_154 (by decide) dX12_isOfPreview_32 ?_
    refine x_iconst (v := (nI 2)) C dX12_isOfPreview_35 (by decide) ?_
    obtain ⟨n17, hr18, h1⟩ := h1
    obtain ⟨z20, ht19, h1⟩ := h1
    obtain ⟨hi21, h1⟩ := h1
    refine x_iald (n := n17) C hr18 ht19 hi21 dX12_isOfPreview_36 ?_
    refine x_imul C dX12_isOfPreview_37 ?_
    refine x_iadd C dX12_isOfPreview_38 ?_
    refine x_aload_n C 0 dX12_isOfPreview_39 rfl rfl ?_
    refine x_getf_r (n := h) C rfl ht1 fd_154 (by decide) dX12_isOfPreview_40 ?_
    refine x_iconst (v := (nI 3)) C dX12_isOfPreview_43 (by decide) ?_
    obtain ⟨n22, hr23, h1⟩ := h1
    obtain ⟨z25, ht24, h1⟩ := h1
    obtain ⟨hi26, h1⟩ := h1
    refine x_iald (n := n22) C hr23 ht24 hi26 dX12_isOfPreview_44 ?_
    refine x_iadd C dX12_isOfPreview_45 ?_
    refine x_iload_n C 1 dX12_isOfPreview_46 rfl rfl ?_
    refine x_bipush (v := (nI 10)) C dX12_isOfPreview_47 (by decide) ?_
    refine x_idiv C dX12_isOfPreview_49 (by decide) ?_
    refine x_icmp_ne (tgt := 57) C dX12_isOfPreview_50 (by decide) (fun z9 => ?_) (fun z9 => ?_)
    · have h1 := h1.1 z9
      refine x_keep (L' := []) C [] rfl ?_
      exact kp_X12_isOfPreview_57 h S C N hg  h1
    · have h1 := h1.2 z9
      refine x_iconst (v := (1 : Int32)) C dX12_isOfPreview_53 (by decide) ?_
      refine x_goto (tgt := 58) C dX12_isOfPreview_54 (by decide) ?_
      refine x_keep (L' := []) C [] rfl ?_
      exact kp_X12_isOfPreview_58 h (1 : Int32) S C N hg  h1
theorem kp_X12_isOfPreview_met {h : Nat} {x1 : Int32} {S : xm_S} {g : Int32 → xm_S → Prop}  (h1 : wp_X12_isOfPreview h x1 S g) : xm_Met yX12_isOfPreview cX12_isOfPreview 2 (some (FieldType.boolean)) rm_X12_isOfPreview [xm_r (some h), xm_i x1] S (xm_qi g) xm_nox :=
  xm_ofW RX12 (by decide +kernel) rfl (Nat.le_of_ble_eq_true rfl) (fun K C N hq hx hi => kp_X12_isOfPreview h x1 S C N (fun v S h => by rw [hq]; exact ⟨v, rfl, h⟩)  h1)
def rm_X12_key : Room := { frames := 1, cells := 0, slots := 0, locals := 20 }
theorem dX12_key_0 : decode cX12_key 0 = .ok (.iload 5, 2) := by decide +kernel
theorem dX12_key_2 : decode cX12_key 2 = .ok (.ifCond .ne 8, 3) := by decide +kernel
theorem dX12_key_5 : decode cX12_key 5 = .ok (.bipush 10, 2) := by decide +kernel
theorem dX12_key_7 : decode cX12_key 7 = .ok (.goto 5, 3) := by decide +kernel
theorem dX12_key_10 : decode cX12_key 10 = .ok (.iload 5, 2) := by decide +kernel
theorem dX12_key_12 : decode cX12_key 12 = .ok (.istore 6, 2) := by decide +kernel
theorem dX12_key_14 : decode cX12_key 14 = .ok (.iload_n 0, 1) := by decide +kernel
theorem dX12_key_15 : decode cX12_key 15 = .ok (.iconst 2, 1) := by decide +kernel
theorem dX12_key_16 : decode cX12_key 16 = .ok (.if_icmp .ne 18, 3) := by decide +kernel
theorem dX12_key_19 : decode cX12_key 19 = .ok (.iload 4, 2) := by decide +kernel
theorem dX12_key_21 : decode cX12_key 21 = .ok (.bipush 11, 2) := by decide +kernel
theorem dX12_key_23 : decode cX12_key 23 = .ok (.imul, 1) := by decide +kernel
theorem dX12_key_24 : decode cX12_key 24 = .ok (.iload_n 2, 1) := by decide +kernel
theorem dX12_key_25 : decode cX12_key 25 = .ok (.iadd, 1) := by decide +kernel
theorem dX12_key_26 : decode cX12_key 26 = .ok (.bipush 11, 2) := by decide +kernel
theorem dX12_key_28 : decode cX12_key 28 = .ok (.imul, 1) := by decide +kernel
theorem dX12_key_29 : decode cX12_key 29 = .ok (.iload_n 3, 1) := by decide +kernel
theorem dX12_key_30 : decode cX12_key 30 = .ok (.iadd, 1) := by decide +kernel
theorem dX12_key_31 : decode cX12_key 31 = .ok (.goto 15, 3) := by decide +kernel
theorem dX12_key_34 : decode cX12_key 34 = .ok (.iload_n 2, 1) := by decide +kernel
theorem dX12_key_35 : decode cX12_key 35 = .ok (.bipush 11, 2) := by decide +kernel
theorem dX12_key_37 : decode cX12_key 37 = .ok (.imul, 1) := by decide +kernel
theorem dX12_key_38 : decode cX12_key 38 = .ok (.iload_n 3, 1) := by decide +kernel
theorem dX12_key_39 : decode cX12_key 39 = .ok (.iadd, 1) := by decide +kernel
theorem dX12_key_40 : decode cX12_key 40 = .ok (.bipush 11, 2) := by decide +kernel
theorem dX12_key_42 : decode cX12_key 42 = .ok (.imul, 1) := by decide +kernel
theorem dX12_key_43 : decode cX12_key 43 = .ok (.iload 4, 2) := by decide +kernel
theorem dX12_key_45 : decode cX12_key 45 = .ok (.iadd, 1) := by decide +kernel
theorem dX12_key_46 : decode cX12_key 46 = .ok (.istore 7, 2) := by decide +kernel
theorem dX12_key_48 : decode cX12_key 48 = .ok (.iload_n 0, 1) := by decide +kernel
theorem dX12_key_49 : decode cX12_key 49 = .ok (.iconst 1, 1) := by decide +kernel
theorem dX12_key_50 : decode cX12_key 50 = .ok (.if_icmp .ne 11, 3) := by decide +kernel
theorem dX12_key_53 : decode cX12_key 53 = .ok (.iload_n 1, 1) := by decide +kernel
theorem dX12_key_54 : decode cX12_key 54 = .ok (.sipush 1331, 3) := by decide +kernel
theorem dX12_key_57 : decode cX12_key 57 = .ok (.imul, 1) := by decide +kernel
theorem dX12_key_58 : decode cX12_key 58 = .ok (.goto 4, 3) := by decide +kernel
theorem dX12_key_61 : decode cX12_key 61 = .ok (.iconst 0, 1) := by decide +kernel
theorem dX12_key_62 : decode cX12_key 62 = .ok (.iload 7, 2) := by decide +kernel
theorem dX12_key_64 : decode cX12_key 64 = .ok (.iadd, 1) := by decide +kernel
theorem dX12_key_65 : decode cX12_key 65 = .ok (.bipush 11, 2) := by decide +kernel
theorem dX12_key_67 : decode cX12_key 67 = .ok (.imul, 1) := by decide +kernel
theorem dX12_key_68 : decode cX12_key 68 = .ok (.iload 6, 2) := by decide +kernel
theorem dX12_key_70 : decode cX12_key 70 = .ok (.iadd, 1) := by decide +kernel
theorem dX12_key_71 : decode cX12_key 71 = .ok (.ireturn, 1) := by decide +kernel
def wp_X12_key_62 (x6 : Int32) (x7 : Int32) (s0 : Int32) (S : xm_S) (g : Int32 → xm_S → Prop) : Prop :=
  g (((s0 + x7) * (nI 11)) + x6) S
set_option maxRecDepth 100000 in
set_option maxHeartbeats 4000000 in
theorem kp_X12_key_62 {K : xm_K} (x6 : Int32) (x7 : Int32) (s0 : Int32) (S : xm_S) {g : Int32 → xm_S → Prop} (C : xm_Cx K cX12_key RX12 8 (some (FieldType.int)) rm_X12_key) (N : xm_Nx K) (hg : ∀ v S, g v S → xm_q K (some (xm_i v)) S)  (h1 : wp_X12_key_62 x6 x7 s0 S g) : xm_W K 0 0 62 [(6, xm_i x6), (7, xm_i x7)] [xm_i s0] S := by
  unfold wp_X12_key_62 at h1
  refine x_iload C 1 dX12_key_62 rfl ?_
  refine x_iadd C dX12_key_64 ?_
  refine x_bipush (v := (nI 11)) C dX12_key_65 (by decide) ?_
  refine x_imul C dX12_key_67 ?_
  refine x_iload C 0 dX12_key_68 rfl ?_
  refine x_iadd C dX12_key_70 ?_
  exact x_iret C (Nat.le_of_ble_eq_true rfl) (Nat.le_of_ble_eq_true rfl) rfl dX12_key_71 (hg _ _ h1)
def wp_X12_key_46 (x0 : Int32) (x1 : Int32) (x6 : Int32) (s0 : Int32) (S : xm_S) (g : Int32 → xm_S → Prop) : Prop :=
  (¬ x0 = (1 : Int32) → wp_X12_key_62 x6 s0 (0 : Int32) S g) ∧ (x0 = (1 : Int32) → wp_X12_key_62 x6 s0 (x1 * (nI 1331)) S g)
set_option maxRecDepth 100000 in
set_option maxHeartbeats 4000000 in
theorem kp_X12_key_46 {K : xm_K} (x0 : Int32) (x1 : Int32) (x6 : Int32) (s0 : Int32) (S : xm_S) {g : Int32 → xm_S → Prop} (C : xm_Cx K cX12_key RX12 8 (some (FieldType.int)) rm_X12_key) (N : xm_Nx K) (hg : ∀ v S, g v S → xm_q K (some (xm_i v)) S)  (h1 : wp_X12_key_46 x0 x1 x6 s0 S g) : xm_W K 0 0 46 [(0, xm_i x0), (1, xm_i x1), (6, xm_i x6)] [xm_i s0] S := by
  unfold wp_X12_key_46 at h1
  refine x_istore (L' := [(7, xm_i s0), (0, xm_i x0), (1, xm_i x1), (6, xm_i x6)]) C dX12_key_46 (by decide) rfl ?_
  refine x_iload_n C 1 dX12_key_48 rfl rfl ?_
  refine x_iconst (v := (1 : Int32)) C dX12_key_49 (by decide) ?_
  refine x_icmp_ne (tgt := 61) C dX12_key_50 (by decide) (fun z9 => ?_) (fun z9 => ?_)
  · have h1 := h1.1 z9
    refine x_iconst (v := (0 : Int32)) C dX12_key_61 (by decide) ?_
    refine x_keep (L' := [(6, xm_i x6), (7, xm_i s0)]) C [3, 0] rfl ?_
    exact kp_X12_key_62 x6 s0 (0 : Int32) S C N hg  h1
  · have h1 := h1.2 z9
    refine x_iload_n C 2 dX12_key_53 rfl rfl ?_
    refine x_sipush (v := (nI 1331)) C dX12_key_54 (by decide) ?_
    refine x_imul C dX12_key_57 ?_
    refine x_goto (tgt := 62) C dX12_key_58 (by decide) ?_
    refine x_keep (L' := [(6, xm_i x6), (7, xm_i s0)]) C [3, 0] rfl ?_
    exact kp_X12_key_62 x6 s0 (x1 * (nI 1331)) S C N hg  h1
def wp_X12_key_12 (x0 : Int32) (x1 : Int32) (x2 : Int32) (x3 : Int32) (x4 : Int32) (s0 : Int32) (S : xm_S) (g : Int32 → xm_S → Prop) : Prop :=
  (¬ x0 = (nI 2) → wp_X12_key_46 x0 x1 s0 ((((x2 * (nI 11)) + x3) * (nI 11)) + x4) S g) ∧ (x0 = (nI 2) → wp_X12_key_46 x0 x1 s0 ((((x4 * (nI 11)) + x2) * (nI 11)) + x3) S g)
set_option maxRecDepth 100000 in
set_option maxHeartbeats 4000000 in
theorem kp_X12_key_12 {K : xm_K} (x0 : Int32) (x1 : Int32) (x2 : Int32) (x3 : Int32) (x4 : Int32) (s0 : Int32) (S : xm_S) {g : Int32 → xm_S → Prop} (C : xm_Cx K cX12_key RX12 8 (some (FieldType.int)) rm_X12_key) (N : xm_Nx K) (hg : ∀ v S, g v S → xm_q K (some (xm_i v)) S)  (h1 : wp_X12_key_12 x0 x1 x2 x3 x4 s0 S g) : xm_W K 0 0 12 [(0, xm_i x0), (1, xm_i x1), (2, xm_i x2), (3, xm_i x3), (4, xm_i x4)] [xm_i s0] S := by
  unfold wp_X12_key_12 at h1
  refine x_istore (L' := [(6, xm_i s0), (0, xm_i x0), (1, xm_i x1), (2, xm_i x2), (3, xm_i x3), (4, xm_i x4)]) C dX12_key_12 (by decide) rfl ?_
  refine x_iload_n C 1 dX12_key_14 rfl rfl ?_
  refine x_iconst (v := (nI 2)) C dX12_key_15 (by decide) ?_
  refine x_icmp_ne (tgt := 34) C dX12_key_16 (by decide) (fun z9 => ?_) (fun z9 => ?_)
  · have h1 := h1.1 z9
    refine x_iload_n C 3 dX12_key_34 rfl rfl ?_
    refine x_bipush (v := (nI 11)) C dX12_key_35 (by decide) ?_
    refine x_imul C dX12_key_37 ?_
    refine x_iload_n C 4 dX12_key_38 rfl rfl ?_
    refine x_iadd C dX12_key_39 ?_
    refine x_bipush (v := (nI 11)) C dX12_key_40 (by decide) ?_
    refine x_imul C dX12_key_42 ?_
    refine x_iload C 5 dX12_key_43 rfl ?_
    refine x_iadd C dX12_key_45 ?_
    refine x_keep (L' := [(0, xm_i x0), (1, xm_i x1), (6, xm_i s0)]) C [1, 2, 0] rfl ?_
    exact kp_X12_key_46 x0 x1 s0 ((((x2 * (nI 11)) + x3) * (nI 11)) + x4) S C N hg  h1
  · have h1 := h1.2 z9
    refine x_iload C 5 dX12_key_19 rfl ?_
    refine x_bipush (v := (nI 11)) C dX12_key_21 (by decide) ?_
    refine x_imul C dX12_key_23 ?_
    refine x_iload_n C 3 dX12_key_24 rfl rfl ?_
    refine x_iadd C dX12_key_25 ?_
    refine x_bipush (v := (nI 11)) C dX12_key_26 (by decide) ?_
    refine x_imul C dX12_key_28 ?_
    refine x_iload_n C 4 dX12_key_29 rfl rfl ?_
    refine x_iadd C dX12_key_30 ?_
    refine x_goto (tgt := 46) C dX12_key_31 (by decide) ?_
    refine x_keep (L' := [(0, xm_i x0), (1, xm_i x1), (6, xm_i s0)]) C [1, 2, 0] rfl ?_
    exact kp_X12_key_46 x0 x1 s0 ((((x4 * (nI 11)) + x2) * (nI 11)) + x3) S C N hg  h1
def wp_X12_key (x0 : Int32) (x1 : Int32) (x2 : Int32) (x3 : Int32) (x4 : Int32) (x5 : Int32) (S : xm_S) (g : Int32 → xm_S → Prop) : Prop :=
  (¬ x5 = 0 → wp_X12_key_12 x0 x1 x2 x3 x4 x5 S g) ∧ (x5 = 0 → wp_X12_key_12 x0 x1 x2 x3 x4 (nI 10) S g)
set_option maxRecDepth 100000 in
set_option maxHeartbeats 4000000 in
theorem kp_X12_key {K : xm_K} (x0 : Int32) (x1 : Int32) (x2 : Int32) (x3 : Int32) (x4 : Int32) (x5 : Int32) (S : xm_S) {g : Int32 → xm_S → Prop} (C : xm_Cx K cX12_key RX12 8 (some (FieldType.int)) rm_X12_key) (N : xm_Nx K) (hg : ∀ v S, g v S → xm_q K (some (xm_i v)) S)  (h1 : wp_X12_key x0 x1 x2 x3 x4 x5 S g) : xm_W K 0 0 0 [(0, xm_i x0), (1, xm_i x1), (2, xm_i x2), (3, xm_i x3), (4, xm_i x4), (5, xm_i x5)] [] S := by
  unfold wp_X12_key at h1
  refine x_iload C 5 dX12_key_0 rfl ?_
  refine x_if_ne (tgt := 10) C dX12_key_2 (by decide) (fun z9 => ?_) (fun z9 => ?_)
  · have h1 := h1.1 z9
    refine x_iload C 5 dX12_key_10 rfl ?_
    refine x_keep (L' := [(0, xm_i x0), (1, xm_i x1), (2, xm_i x2), (3, xm_i x3), (4, xm_i x4)]) C [0, 1, 2, 3, 4] rfl ?_
    exact kp_X12_key_12 x0 x1 x2 x3 x4 x5 S C N hg  h1
  · have h1 := h1.2 z9
    refine x_bipush (v := (nI 10)) C dX12_key_5 (by decide) ?_
    refine x_goto (tgt := 12) C dX12_key_7 (by decide) ?_
    refine x_keep (L' := [(0, xm_i x0), (1, xm_i x1), (2, xm_i x2), (3, xm_i x3), (4, xm_i x4)]) C [0, 1, 2, 3, 4] rfl ?_
    exact kp_X12_key_12 x0 x1 x2 x3 x4 (nI 10) S C N hg  h1
theorem kp_X12_key_met {x0 : Int32} {x1 : Int32} {x2 : Int32} {x3 : Int32} {x4 : Int32} {x5 : Int32} {S : xm_S} {g : Int32 → xm_S → Prop}  (h1 : wp_X12_key x0 x1 x2 x3 x4 x5 S g) : xm_Met yX12_key cX12_key 8 (some (FieldType.int)) rm_X12_key [xm_i x0, xm_i x1, xm_i x2, xm_i x3, xm_i x4, xm_i x5] S (xm_qi g) xm_nox :=
  xm_ofW RX12 (by decide +kernel) rfl (Nat.le_of_ble_eq_true rfl) (fun K C N hq hx hi => kp_X12_key x0 x1 x2 x3 x4 x5 S C N (fun v S h => by rw [hq]; exact ⟨v, rfl, h⟩)  h1)
def rm_X12_keyOf : Room := { frames := 2, cells := 0, slots := 0, locals := 47 }
theorem dX12_keyOf_0 : decode cX12_keyOf 0 = .ok (.iload_n 0, 1) := by decide +kernel
theorem dX12_keyOf_1 : decode cX12_keyOf 1 = .ok (.iload_n 1, 1) := by decide +kernel
theorem dX12_keyOf_2 : decode cX12_keyOf 2 = .ok (.sipush 10000, 3) := by decide +kernel
theorem dX12_keyOf_5 : decode cX12_keyOf 5 = .ok (.idiv, 1) := by decide +kernel
theorem dX12_keyOf_6 : decode cX12_keyOf 6 = .ok (.iload_n 1, 1) := by decide +kernel
theorem dX12_keyOf_7 : decode cX12_keyOf 7 = .ok (.sipush 1000, 3) := by decide +kernel
theorem dX12_keyOf_10 : decode cX12_keyOf 10 = .ok (.idiv, 1) := by decide +kernel
theorem dX12_keyOf_11 : decode cX12_keyOf 11 = .ok (.bipush 10, 2) := by decide +kernel
theorem dX12_keyOf_13 : decode cX12_keyOf 13 = .ok (.irem, 1) := by decide +kernel
theorem dX12_keyOf_14 : decode cX12_keyOf 14 = .ok (.iload_n 1, 1) := by decide +kernel
theorem dX12_keyOf_15 : decode cX12_keyOf 15 = .ok (.bipush 100, 2) := by decide +kernel
theorem dX12_keyOf_17 : decode cX12_keyOf 17 = .ok (.idiv, 1) := by decide +kernel
theorem dX12_keyOf_18 : decode cX12_keyOf 18 = .ok (.bipush 10, 2) := by decide +kernel
theorem dX12_keyOf_20 : decode cX12_keyOf 20 = .ok (.irem, 1) := by decide +kernel
theorem dX12_keyOf_21 : decode cX12_keyOf 21 = .ok (.iload_n 1, 1) := by decide +kernel
theorem dX12_keyOf_22 : decode cX12_keyOf 22 = .ok (.bipush 10, 2) := by decide +kernel
theorem dX12_keyOf_24 : decode cX12_keyOf 24 = .ok (.idiv, 1) := by decide +kernel
theorem dX12_keyOf_25 : decode cX12_keyOf 25 = .ok (.bipush 10, 2) := by decide +kernel
theorem dX12_keyOf_27 : decode cX12_keyOf 27 = .ok (.irem, 1) := by decide +kernel
theorem dX12_keyOf_28 : decode cX12_keyOf 28 = .ok (.iload_n 1, 1) := by decide +kernel
theorem dX12_keyOf_29 : decode cX12_keyOf 29 = .ok (.bipush 10, 2) := by decide +kernel
theorem dX12_keyOf_31 : decode cX12_keyOf 31 = .ok (.irem, 1) := by decide +kernel
theorem dX12_keyOf_32 : decode cX12_keyOf 32 = .ok (.invokestatic 221, 3) := by decide +kernel
theorem dX12_keyOf_35 : decode cX12_keyOf 35 = .ok (.ireturn, 1) := by decide +kernel
def wp_X12_keyOf (x0 : Int32) (x1 : Int32) (S : xm_S) (g : Int32 → xm_S → Prop) : Prop :=
  wp_X12_key x0 (x1 / (nI 10000)) ((x1 / (nI 1000)) - (x1 / (nI 1000)) / (nI 10) * (nI 10)) ((x1 / (nI 100)) - (x1 / (nI 100)) / (nI 10) * (nI 10)) ((x1 / (nI 10)) - (x1 / (nI 10)) / (nI 10) * (nI 10)) (x1 - x1 / (nI 10) * (nI 10)) S (fun r2 S1 => g r2 S1)
set_option maxRecDepth 100000 in
set_option maxHeartbeats 4000000 in
theorem kp_X12_keyOf {K : xm_K} (x0 : Int32) (x1 : Int32) (S : xm_S) {g : Int32 → xm_S → Prop} (C : xm_Cx K cX12_keyOf RX12 2 (some (FieldType.int)) rm_X12_keyOf) (N : xm_Nx K) (hg : ∀ v S, g v S → xm_q K (some (xm_i v)) S)  (h1 : wp_X12_keyOf x0 x1 S g) : xm_W K 0 0 0 [(0, xm_i x0), (1, xm_i x1)] [] S := by
  unfold wp_X12_keyOf at h1
  refine x_iload_n C 0 dX12_keyOf_0 rfl rfl ?_
  refine x_iload_n C 1 dX12_keyOf_1 rfl rfl ?_
  refine x_sipush (v := (nI 10000)) C dX12_keyOf_2 (by decide) ?_
  refine x_idiv C dX12_keyOf_5 (by decide) ?_
  refine x_iload_n C 1 dX12_keyOf_6 rfl rfl ?_
  refine x_sipush (v := (nI 1000)) C dX12_keyOf_7 (by decide) ?_
  refine x_idiv C dX12_keyOf_10 (by decide) ?_
  refine x_bipush (v := (nI 10)) C dX12_keyOf_11 (by decide) ?_
  refine x_irem C dX12_keyOf_13 (by decide) ?_
  refine x_iload_n C 1 dX12_keyOf_14 rfl rfl ?_
  refine x_bipush (v := (nI 100)) C dX12_keyOf_15 (by decide) ?_
  refine x_idiv C dX12_keyOf_17 (by decide) ?_
  refine x_bipush (v := (nI 10)) C dX12_keyOf_18 (by decide) ?_
  refine x_irem C dX12_keyOf_20 (by decide) ?_
  refine x_iload_n C 1 dX12_keyOf_21 rfl rfl ?_
  refine x_bipush (v := (nI 10)) C dX12_keyOf_22 (by decide) ?_
  refine x_idiv C dX12_keyOf_24 (by decide) ?_
  refine x_bipush (v := (nI 10)) C dX12_keyOf_25 (by decide) ?_
  refine x_irem C dX12_keyOf_27 (by decide) ?_
  refine x_iload_n C 1 dX12_keyOf_28 rfl rfl ?_
  refine x_bipush (v := (nI 10)) C dX12_keyOf_29 (by decide) ?_
  refine x_irem C dX12_keyOf_31 (by decide) ?_
  refine x_callS (rm' := rm_X12_key) C (kp_X12_key_met h1) lk_75 gw_467 rfl (Nat.le_of_ble_eq_true rfl) ⟨Nat.le_of_ble_eq_true rfl, Nat.le_of_ble_eq_true rfl, (Nat.le_of_ble_eq_true rfl), (Nat.le_of_ble_eq_true rfl)⟩ dX12_keyOf_32 xm_kx (xm_ki (fun r2 S1 h1 => ?_))
  exact x_iret C (Nat.le_of_ble_eq_true rfl) (Nat.le_of_ble_eq_true rfl) rfl dX12_keyOf_35 (hg _ _ h1)
theorem kp_X12_keyOf_met {x0 : Int32} {x1 : Int32} {S : xm_S} {g : Int32 → xm_S → Prop}  (h1 : wp_X12_keyOf x0 x1 S g) : xm_Met yX12_keyOf cX12_keyOf 2 (some (FieldType.int)) rm_X12_keyOf [xm_i x0, xm_i x1] S (xm_qi g) xm_nox :=
  xm_ofW RX12 (by decide +kernel) rfl (Nat.le_of_ble_eq_true rfl) (fun K C N hq hx hi => kp_X12_keyOf x0 x1 S C N (fun v S h => by rw [hq]; exact ⟨v, rfl, h⟩)  h1)
def rm_X12_isTestOf : Room := { frames := 3, cells := 0, slots := 0, locals := 68 }
theorem dX12_isTestOf_0 : decode cX12_isTestOf 0 = .ok (.iload_n 1, 1) := by decide +kernel
theorem dX12_isTestOf_1 : decode cX12_isTestOf 1 = .ok (.iload_n 2, 1) := by decide +kernel
theorem dX12_isTestOf_2 : decode cX12_isTestOf 2 = .ok (.invokestatic 225, 3) := by decide +kernel
theorem dX12_isTestOf_5 : decode cX12_isTestOf 5 = .ok (.istore_n 3, 1) := by decide +kernel
theorem dX12_isTestOf_6 : decode cX12_isTestOf 6 = .ok (.iload_n 1, 1) := by decide +kernel
theorem dX12_isTestOf_7 : decode cX12_isTestOf 7 = .ok (.aload_n 0, 1) := by decide +kernel
theorem dX12_isTestOf_8 : decode cX12_isTestOf 8 = .ok (.getfield 166, 3) := by decide +kernel
theorem dX12_isTestOf_11 : decode cX12_isTestOf 11 = .ok (.iconst 0, 1) := by decide +kernel
theorem dX12_isTestOf_12 : decode cX12_isTestOf 12 = .ok (.iaload, 1) := by decide +kernel
theorem dX12_isTestOf_13 : decode cX12_isTestOf 13 = .ok (.aload_n 0, 1) := by decide +kernel
theorem dX12_isTestOf_14 : decode cX12_isTestOf 14 = .ok (.getfield 166, 3) := by decide +kernel
theorem dX12_isTestOf_17 : decode cX12_isTestOf 17 = .ok (.iconst 1, 1) := by decide +kernel
theorem dX12_isTestOf_18 : decode cX12_isTestOf 18 = .ok (.iaload, 1) := by decide +kernel
theorem dX12_isTestOf_19 : decode cX12_isTestOf 19 = .ok (.aload_n 0, 1) := by decide +kernel
theorem dX12_isTestOf_20 : decode cX12_isTestOf 20 = .ok (.getfield 166, 3) := by decide +kernel
theorem dX12_isTestOf_23 : decode cX12_isTestOf 23 = .ok (.iconst 2, 1) := by decide +kernel
theorem dX12_isTestOf_24 : decode cX12_isTestOf 24 = .ok (.iaload, 1) := by decide +kernel
theorem dX12_isTestOf_25 : decode cX12_isTestOf 25 = .ok (.aload_n 0, 1) := by decide +kernel
theorem dX12_isTestOf_26 : decode cX12_isTestOf 26 = .ok (.getfield 166, 3) := by decide +kernel
theorem dX12_isTestOf_29 : decode cX12_isTestOf 29 = .ok (.iconst 3, 1) := by decide +kernel
theorem dX12_isTestOf_30 : decode cX12_isTestOf 30 = .ok (.iaload, 1) := by decide +kernel
theorem dX12_isTestOf_31 : decode cX12_isTestOf 31 = .ok (.aload_n 0, 1) := by decide +kernel
theorem dX12_isTestOf_32 : decode cX12_isTestOf 32 = .ok (.getfield 166, 3) := by decide +kernel
theorem dX12_isTestOf_35 : decode cX12_isTestOf 35 = .ok (.iconst 4, 1) := by decide +kernel
theorem dX12_isTestOf_36 : decode cX12_isTestOf 36 = .ok (.iaload, 1) := by decide +kernel
theorem dX12_isTestOf_37 : decode cX12_isTestOf 37 = .ok (.invokestatic 221, 3) := by decide +kernel
theorem dX12_isTestOf_40 : decode cX12_isTestOf 40 = .ok (.istore 4, 2) := by decide +kernel
theorem dX12_isTestOf_42 : decode cX12_isTestOf 42 = .ok (.aload_n 0, 1) := by decide +kernel
theorem dX12_isTestOf_43 : decode cX12_isTestOf 43 = .ok (.getfield 208, 3) := by decide +kernel
theorem dX12_isTestOf_46 : decode cX12_isTestOf 46 = .ok (.iconst 5, 1) := by decide +kernel
theorem dX12_isTestOf_47 : decode cX12_isTestOf 47 = .ok (.if_icmp .ge 102, 3) := by decide +kernel
theorem dX12_isTestOf_50 : decode cX12_isTestOf 50 = .ok (.aload_n 0, 1) := by decide +kernel
theorem dX12_isTestOf_51 : decode cX12_isTestOf 51 = .ok (.getfield 208, 3) := by decide +kernel
theorem dX12_isTestOf_54 : decode cX12_isTestOf 54 = .ok (.ifCond .ne 17, 3) := by decide +kernel
theorem dX12_isTestOf_57 : decode cX12_isTestOf 57 = .ok (.iload_n 3, 1) := by decide +kernel
theorem dX12_isTestOf_58 : decode cX12_isTestOf 58 = .ok (.iload 4, 2) := by decide +kernel
theorem dX12_isTestOf_60 : decode cX12_isTestOf 60 = .ok (.if_icmp .ne 7, 3) := by decide +kernel
theorem dX12_isTestOf_63 : decode cX12_isTestOf 63 = .ok (.iconst 1, 1) := by decide +kernel
theorem dX12_isTestOf_64 : decode cX12_isTestOf 64 = .ok (.goto 84, 3) := by decide +kernel
theorem dX12_isTestOf_67 : decode cX12_isTestOf 67 = .ok (.iconst 0, 1) := by decide +kernel
theorem dX12_isTestOf_68 : decode cX12_isTestOf 68 = .ok (.goto 80, 3) := by decide +kernel
theorem dX12_isTestOf_71 : decode cX12_isTestOf 71 = .ok (.aload_n 0, 1) := by decide +kernel
theorem dX12_isTestOf_72 : decode cX12_isTestOf 72 = .ok (.getfield 208, 3) := by decide +kernel
theorem dX12_isTestOf_75 : decode cX12_isTestOf 75 = .ok (.iconst 1, 1) := by decide +kernel
theorem dX12_isTestOf_76 : decode cX12_isTestOf 76 = .ok (.if_icmp .ne 17, 3) := by decide +kernel
theorem dX12_isTestOf_79 : decode cX12_isTestOf 79 = .ok (.iload_n 3, 1) := by decide +kernel
theorem dX12_isTestOf_80 : decode cX12_isTestOf 80 = .ok (.iload 4, 2) := by decide +kernel
theorem dX12_isTestOf_82 : decode cX12_isTestOf 82 = .ok (.if_icmp .le 7, 3) := by decide +kernel
theorem dX12_isTestOf_85 : decode cX12_isTestOf 85 = .ok (.iconst 1, 1) := by decide +kernel
theorem dX12_isTestOf_86 : decode cX12_isTestOf 86 = .ok (.goto 62, 3) := by decide +kernel
theorem dX12_isTestOf_89 : decode cX12_isTestOf 89 = .ok (.iconst 0, 1) := by decide +kernel
theorem dX12_isTestOf_90 : decode cX12_isTestOf 90 = .ok (.goto 58, 3) := by decide +kernel
theorem dX12_isTestOf_93 : decode cX12_isTestOf 93 = .ok (.aload_n 0, 1) := by decide +kernel
theorem dX12_isTestOf_94 : decode cX12_isTestOf 94 = .ok (.getfield 208, 3) := by decide +kernel
theorem dX12_isTestOf_97 : decode cX12_isTestOf 97 = .ok (.iconst 2, 1) := by decide +kernel
theorem dX12_isTestOf_98 : decode cX12_isTestOf 98 = .ok (.if_icmp .ne 17, 3) := by decide +kernel
theorem dX12_isTestOf_101 : decode cX12_isTestOf 101 = .ok (.iload_n 3, 1) := by decide +kernel
theorem dX12_isTestOf_102 : decode cX12_isTestOf 102 = .ok (.iload 4, 2) := by decide +kernel
theorem dX12_isTestOf_104 : decode cX12_isTestOf 104 = .ok (.if_icmp .ge 7, 3) := by decide +kernel
theorem dX12_isTestOf_107 : decode cX12_isTestOf 107 = .ok (.iconst 1, 1) := by decide +kernel
theorem dX12_isTestOf_108 : decode cX12_isTestOf 108 = .ok (.goto 40, 3) := by decide +kernel
theorem dX12_isTestOf_111 : decode cX12_isTestOf 111 = .ok (.iconst 0, 1) := by decide +kernel
theorem dX12_isTestOf_112 : decode cX12_isTestOf 112 = .ok (.goto 36, 3) := by decide +kernel
theorem dX12_isTestOf_115 : decode cX12_isTestOf 115 = .ok (.aload_n 0, 1) := by decide +kernel
theorem dX12_isTestOf_116 : decode cX12_isTestOf 116 = .ok (.getfield 208, 3) := by decide +kernel
theorem dX12_isTestOf_119 : decode cX12_isTestOf 119 = .ok (.iconst 3, 1) := by decide +kernel
theorem dX12_isTestOf_120 : decode cX12_isTestOf 120 = .ok (.if_icmp .ne 17, 3) := by decide +kernel
theorem dX12_isTestOf_123 : decode cX12_isTestOf 123 = .ok (.iload_n 3, 1) := by decide +kernel
theorem dX12_isTestOf_124 : decode cX12_isTestOf 124 = .ok (.iload 4, 2) := by decide +kernel
theorem dX12_isTestOf_126 : decode cX12_isTestOf 126 = .ok (.if_icmp .lt 7, 3) := by decide +kernel
theorem dX12_isTestOf_129 : decode cX12_isTestOf 129 = .ok (.iconst 1, 1) := by decide +kernel
theorem dX12_isTestOf_130 : decode cX12_isTestOf 130 = .ok (.goto 18, 3) := by decide +kernel
theorem dX12_isTestOf_133 : decode cX12_isTestOf 133 = .ok (.iconst 0, 1) := by decide +kernel
theorem dX12_isTestOf_134 : decode cX12_isTestOf 134 = .ok (.goto 14, 3) := by decide +kernel
theorem dX12_isTestOf_137 : decode cX12_isTestOf 137 = .ok (.iload_n 3, 1) := by decide +kernel
theorem dX12_isTestOf_138 : decode cX12_isTestOf 138 = .ok (.iload 4, 2) := by decide +kernel
theorem dX12_isTestOf_140 : decode cX12_isTestOf 140 = .ok (.if_icmp .gt 7, 3) := by decide +kernel
theorem dX12_isTestOf_143 : decode cX12_isTestOf 143 = .ok (.iconst 1, 1) := by decide +kernel
theorem dX12_isTestOf_144 : decode cX12_isTestOf 144 = .ok (.goto 4, 3) := by decide +kernel
theorem dX12_isTestOf_147 : decode cX12_isTestOf 147 = .ok (.iconst 0, 1) := by decide +kernel
theorem dX12_isTestOf_148 : decode cX12_isTestOf 148 = .ok (.ireturn, 1) := by decide +kernel
theorem dX12_isTestOf_149 : decode cX12_isTestOf 149 = .ok (.aload_n 0, 1) := by decide +kernel
theorem dX12_isTestOf_150 : decode cX12_isTestOf 150 = .ok (.getfield 208, 3) := by decide +kernel
theorem dX12_isTestOf_153 : decode cX12_isTestOf 153 = .ok (.iconst 5, 1) := by decide +kernel
theorem dX12_isTestOf_154 : decode cX12_isTestOf 154 = .ok (.if_icmp .ne 20, 3) := by decide +kernel
theorem dX12_isTestOf_157 : decode cX12_isTestOf 157 = .ok (.aload_n 0, 1) := by decide +kernel
theorem dX12_isTestOf_158 : decode cX12_isTestOf 158 = .ok (.getfield 166, 3) := by decide +kernel
theorem dX12_isTestOf_161 : decode cX12_isTestOf 161 = .ok (.iconst 1, 1) := by decide +kernel
theorem dX12_isTestOf_162 : decode cX12_isTestOf 162 = .ok (.iaload, 1) := by decide +kernel
theorem dX12_isTestOf_163 : decode cX12_isTestOf 163 = .ok (.ifCond .le 7, 3) := by decide +kernel
theorem dX12_isTestOf_166 : decode cX12_isTestOf 166 = .ok (.iconst 1, 1) := by decide +kernel
theorem dX12_isTestOf_167 : decode cX12_isTestOf 167 = .ok (.goto 20, 3) := by decide +kernel
theorem dX12_isTestOf_170 : decode cX12_isTestOf 170 = .ok (.iconst 0, 1) := by decide +kernel
theorem dX12_isTestOf_171 : decode cX12_isTestOf 171 = .ok (.goto 16, 3) := by decide +kernel
theorem dX12_isTestOf_174 : decode cX12_isTestOf 174 = .ok (.aload_n 0, 1) := by decide +kernel
theorem dX12_isTestOf_175 : decode cX12_isTestOf 175 = .ok (.getfield 199, 3) := by decide +kernel
theorem dX12_isTestOf_178 : decode cX12_isTestOf 178 = .ok (.iconst 1, 1) := by decide +kernel
theorem dX12_isTestOf_179 : decode cX12_isTestOf 179 = .ok (.if_icmp .ne 7, 3) := by decide +kernel
theorem dX12_isTestOf_182 : decode cX12_isTestOf 182 = .ok (.iconst 1, 1) := by decide +kernel
theorem dX12_isTestOf_183 : decode cX12_isTestOf 183 = .ok (.goto 4, 3) := by decide +kernel
theorem dX12_isTestOf_186 : decode cX12_isTestOf 186 = .ok (.iconst 0, 1) := by decide +kernel
theorem dX12_isTestOf_187 : decode cX12_isTestOf 187 = .ok (.istore 5, 2) := by decide +kernel
theorem dX12_isTestOf_189 : decode cX12_isTestOf 189 = .ok (.iload 5, 2) := by decide +kernel
theorem dX12_isTestOf_191 : decode cX12_isTestOf 191 = .ok (.ifCond .ne 25, 3) := by decide +kernel
theorem dX12_isTestOf_194 : decode cX12_isTestOf 194 = .ok (.aload_n 0, 1) := by decide +kernel
theorem dX12_isTestOf_195 : decode cX12_isTestOf 195 = .ok (.getfield 208, 3) := by decide +kernel
theorem dX12_isTestOf_198 : decode cX12_isTestOf 198 = .ok (.bipush 6, 2) := by decide +kernel
theorem dX12_isTestOf_200 : decode cX12_isTestOf 200 = .ok (.if_icmp .eq 12, 3) := by decide +kernel
theorem dX12_isTestOf_203 : decode cX12_isTestOf 203 = .ok (.aload_n 0, 1) := by decide +kernel
theorem dX12_isTestOf_204 : decode cX12_isTestOf 204 = .ok (.getfield 166, 3) := by decide +kernel
theorem dX12_isTestOf_207 : decode cX12_isTestOf 207 = .ok (.iconst 2, 1) := by decide +kernel
theorem dX12_isTestOf_208 : decode cX12_isTestOf 208 = .ok (.iaload, 1) := by decide +kernel
theorem dX12_isTestOf_209 : decode cX12_isTestOf 209 = .ok (.ifCond .le 7, 3) := by decide +kernel
theorem dX12_isTestOf_212 : decode cX12_isTestOf 212 = .ok (.iconst 1, 1) := by decide +kernel
theorem dX12_isTestOf_213 : decode cX12_isTestOf 213 = .ok (.goto 4, 3) := by decide +kernel
theorem dX12_isTestOf_216 : decode cX12_isTestOf 216 = .ok (.iconst 0, 1) := by decide +kernel
theorem dX12_isTestOf_217 : decode cX12_isTestOf 217 = .ok (.istore 6, 2) := by decide +kernel
theorem dX12_isTestOf_219 : decode cX12_isTestOf 219 = .ok (.aload_n 0, 1) := by decide +kernel
theorem dX12_isTestOf_220 : decode cX12_isTestOf 220 = .ok (.getfield 166, 3) := by decide +kernel
theorem dX12_isTestOf_223 : decode cX12_isTestOf 223 = .ok (.iconst 1, 1) := by decide +kernel
theorem dX12_isTestOf_224 : decode cX12_isTestOf 224 = .ok (.iaload, 1) := by decide +kernel
theorem dX12_isTestOf_225 : decode cX12_isTestOf 225 = .ok (.iload 5, 2) := by decide +kernel
theorem dX12_isTestOf_227 : decode cX12_isTestOf 227 = .ok (.ifCond .eq 7, 3) := by decide +kernel
theorem dX12_isTestOf_230 : decode cX12_isTestOf 230 = .ok (.iconst 1, 1) := by decide +kernel
theorem dX12_isTestOf_231 : decode cX12_isTestOf 231 = .ok (.goto 4, 3) := by decide +kernel
theorem dX12_isTestOf_234 : decode cX12_isTestOf 234 = .ok (.iconst 0, 1) := by decide +kernel
theorem dX12_isTestOf_235 : decode cX12_isTestOf 235 = .ok (.iadd, 1) := by decide +kernel
theorem dX12_isTestOf_236 : decode cX12_isTestOf 236 = .ok (.istore 7, 2) := by decide +kernel
theorem dX12_isTestOf_238 : decode cX12_isTestOf 238 = .ok (.iload 5, 2) := by decide +kernel
theorem dX12_isTestOf_240 : decode cX12_isTestOf 240 = .ok (.ifCond .eq 7, 3) := by decide +kernel
theorem dX12_isTestOf_243 : decode cX12_isTestOf 243 = .ok (.iconst 0, 1) := by decide +kernel
theorem dX12_isTestOf_244 : decode cX12_isTestOf 244 = .ok (.goto 20, 3) := by decide +kernel
theorem dX12_isTestOf_247 : decode cX12_isTestOf 247 = .ok (.aload_n 0, 1) := by decide +kernel
theorem dX12_isTestOf_248 : decode cX12_isTestOf 248 = .ok (.getfield 166, 3) := by decide +kernel
theorem dX12_isTestOf_251 : decode cX12_isTestOf 251 = .ok (.iconst 2, 1) := by decide +kernel
theorem dX12_isTestOf_252 : decode cX12_isTestOf 252 = .ok (.iaload, 1) := by decide +kernel
theorem dX12_isTestOf_253 : decode cX12_isTestOf 253 = .ok (.iload 6, 2) := by decide +kernel
theorem dX12_isTestOf_255 : decode cX12_isTestOf 255 = .ok (.ifCond .eq 7, 3) := by decide +kernel
theorem dX12_isTestOf_258 : decode cX12_isTestOf 258 = .ok (.iconst 1, 1) := by decide +kernel
theorem dX12_isTestOf_259 : decode cX12_isTestOf 259 = .ok (.goto 4, 3) := by decide +kernel
theorem dX12_isTestOf_262 : decode cX12_isTestOf 262 = .ok (.iconst 0, 1) := by decide +kernel
theorem dX12_isTestOf_263 : decode cX12_isTestOf 263 = .ok (.iadd, 1) := by decide +kernel
theorem dX12_isTestOf_264 : decode cX12_isTestOf 264 = .ok (.istore 8, 2) := by decide +kernel
theorem dX12_isTestOf_266 : decode cX12_isTestOf 266 = .ok (.iload 5, 2) := by decide +kernel
theorem dX12_isTestOf_268 : decode cX12_isTestOf 268 = .ok (.ifCond .ne 8, 3) := by decide +kernel
theorem dX12_isTestOf_271 : decode cX12_isTestOf 271 = .ok (.iload 6, 2) := by decide +kernel
theorem dX12_isTestOf_273 : decode cX12_isTestOf 273 = .ok (.ifCond .eq 7, 3) := by decide +kernel
theorem dX12_isTestOf_276 : decode cX12_isTestOf 276 = .ok (.iconst 0, 1) := by decide +kernel
theorem dX12_isTestOf_277 : decode cX12_isTestOf 277 = .ok (.goto 11, 3) := by decide +kernel
theorem dX12_isTestOf_280 : decode cX12_isTestOf 280 = .ok (.aload_n 0, 1) := by decide +kernel
theorem dX12_isTestOf_281 : decode cX12_isTestOf 281 = .ok (.getfield 166, 3) := by decide +kernel
theorem dX12_isTestOf_284 : decode cX12_isTestOf 284 = .ok (.iconst 3, 1) := by decide +kernel
theorem dX12_isTestOf_285 : decode cX12_isTestOf 285 = .ok (.iaload, 1) := by decide +kernel
theorem dX12_isTestOf_286 : decode cX12_isTestOf 286 = .ok (.iconst 1, 1) := by decide +kernel
theorem dX12_isTestOf_287 : decode cX12_isTestOf 287 = .ok (.iadd, 1) := by decide +kernel
theorem dX12_isTestOf_288 : decode cX12_isTestOf 288 = .ok (.istore 9, 2) := by decide +kernel
theorem dX12_isTestOf_290 : decode cX12_isTestOf 290 = .ok (.iload_n 3, 1) := by decide +kernel
theorem dX12_isTestOf_291 : decode cX12_isTestOf 291 = .ok (.iload 4, 2) := by decide +kernel
theorem dX12_isTestOf_293 : decode cX12_isTestOf 293 = .ok (.if_icmp .lt 28, 3) := by decide +kernel
theorem dX12_isTestOf_296 : decode cX12_isTestOf 296 = .ok (.iload_n 3, 1) := by decide +kernel
theorem dX12_isTestOf_297 : decode cX12_isTestOf 297 = .ok (.iload_n 1, 1) := by decide +kernel
theorem dX12_isTestOf_298 : decode cX12_isTestOf 298 = .ok (.aload_n 0, 1) := by decide +kernel
theorem dX12_isTestOf_299 : decode cX12_isTestOf 299 = .ok (.getfield 166, 3) := by decide +kernel
theorem dX12_isTestOf_302 : decode cX12_isTestOf 302 = .ok (.iconst 0, 1) := by decide +kernel
theorem dX12_isTestOf_303 : decode cX12_isTestOf 303 = .ok (.iaload, 1) := by decide +kernel
theorem dX12_isTestOf_304 : decode cX12_isTestOf 304 = .ok (.iload 7, 2) := by decide +kernel
theorem dX12_isTestOf_306 : decode cX12_isTestOf 306 = .ok (.iload 8, 2) := by decide +kernel
theorem dX12_isTestOf_308 : decode cX12_isTestOf 308 = .ok (.iload 9, 2) := by decide +kernel
theorem dX12_isTestOf_310 : decode cX12_isTestOf 310 = .ok (.iconst 0, 1) := by decide +kernel
theorem dX12_isTestOf_311 : decode cX12_isTestOf 311 = .ok (.invokestatic 221, 3) := by decide +kernel
theorem dX12_isTestOf_314 : decode cX12_isTestOf 314 = .ok (.if_icmp .ge 7, 3) := by decide +kernel
theorem dX12_isTestOf_317 : decode cX12_isTestOf 317 = .ok (.iconst 1, 1) := by decide +kernel
theorem dX12_isTestOf_318 : decode cX12_isTestOf 318 = .ok (.goto 4, 3) := by decide +kernel
theorem dX12_isTestOf_321 : decode cX12_isTestOf 321 = .ok (.iconst 0, 1) := by decide +kernel
theorem dX12_isTestOf_322 : decode cX12_isTestOf 322 = .ok (.ireturn, 1) := by decide +kernel
def wp_X12_isTestOf_148 (h : Nat) (s0 : Int32) (S : xm_S) (g : Int32 → xm_S → Prop) : Prop :=
  (s0 = 0 ∨ s0 = 1) ∧ g s0 S
set_option maxRecDepth 100000 in
set_option maxHeartbeats 4000000 in
theorem kp_X12_isTestOf_148 {K : xm_K} (h : Nat) (s0 : Int32) (S : xm_S) {g : Int32 → xm_S → Prop} (C : xm_Cx K cX12_isTestOf RX12 10 (some (FieldType.boolean)) rm_X12_isTestOf) (N : xm_Nx K) (hg : ∀ v S, g v S → xm_q K (some (xm_i v)) S)  (h1 : wp_X12_isTestOf_148 h s0 S g) : xm_W K 0 0 148 [] [xm_i s0] S := by
  unfold wp_X12_isTestOf_148 at h1
  exact x_zret C (Nat.le_of_ble_eq_true rfl) (Nat.le_of_ble_eq_true rfl) rfl h1.1 dX12_isTestOf_148 (hg _ _ h1.2)
def wp_X12_isTestOf_322 (h : Nat) (s0 : Int32) (S : xm_S) (g : Int32 → xm_S → Prop) : Prop :=
  (s0 = 0 ∨ s0 = 1) ∧ g s0 S
set_option maxRecDepth 100000 in
set_option maxHeartbeats 4000000 in
theorem kp_X12_isTestOf_322 {K : xm_K} (h : Nat) (s0 : Int32) (S : xm_S) {g : Int32 → xm_S → Prop} (C : xm_Cx K cX12_isTestOf RX12 10 (some (FieldType.boolean)) rm_X12_isTestOf) (N : xm_Nx K) (hg : ∀ v S, g v S → xm_q K (some (xm_i v)) S)  (h1 : wp_X12_isTestOf_322 h s0 S g) : xm_W K 0 0 322 [] [xm_i s0] S := by
  unfold wp_X12_isTestOf_322 at h1
  exact x_zret C (Nat.le_of_ble_eq_true rfl) (Nat.le_of_ble_eq_true rfl) rfl h1.1 dX12_isTestOf_322 (hg _ _ h1.2)
def wp_X12_isTestOf_321 (h : Nat)  (S : xm_S) (g : Int32 → xm_S → Prop) : Prop :=
  wp_X12_isTestOf_322 h (0 : Int32) S g
set_option maxRecDepth 100000 in
set_option maxHeartbeats 4000000 in
theorem kp_X12_isTestOf_321 {K : xm_K} (h : Nat)  (S : xm_S) {g : Int32 → xm_S → Prop} (C : xm_Cx K cX12_isTestOf RX12 10 (some (FieldType.boolean)) rm_X12_isTestOf) (N : xm_Nx K) (hg : ∀ v S, g v S → xm_q K (some (xm_i v)) S)  (h1 : wp_X12_isTestOf_321 h  S g) : xm_W K 0 0 321 [] [] S := by
  unfold wp_X12_isTestOf_321 at h1
  refine x_iconst (v := (0 : Int32)) C dX12_isTestOf_321 (by decide) ?_
  exact kp_X12_isTestOf_322 h (0 : Int32) S C N hg  h1
def wp_X12_isTestOf_288 (h : Nat) (x1 : Int32) (x3 : Int32) (x4 : Int32) (x7 : Int32) (x8 : Int32) (s0 : Int32) (S : xm_S) (g : Int32 → xm_S → Prop) : Prop :=
  (x3 < x4 → wp_X12_isTestOf_321 h S g) ∧ (¬ x3 < x4 → st_t S h = some (12, 0) ∧ ∃ n2, (st_r S h 63) = some n2 ∧ ∃ z5, st_t S n2 = some (100, z5) ∧ vp_in (0 : Int32) z5 ∧ wp_X12_key x1 (st_i S n2 ((0 : Int32)).toNatClampNeg) x7 x8 s0 (0 : Int32) S (fun r8 S7 => (r8 ≤ x3 → wp_X12_isTestOf_321 h S7 g) ∧ (¬ r8 ≤ x3 → wp_X12_isTestOf_322 h (1 : Int32) S7 g)))
set_option maxRecDepth 100000 in
set_option maxHeartbeats 4000000 in
theorem kp_X12_isTestOf_288 {K : xm_K} (h : Nat) (x1 : Int32) (x3 : Int32) (x4 : Int32) (x7 : Int32) (x8 : Int32) (s0 : Int32) (S : xm_S) {g : Int32 → xm_S → Prop} (C : xm_Cx K cX12_isTestOf RX12 10 (some (FieldType.boolean)) rm_X12_isTestOf) (N : xm_Nx K) (hg : ∀ v S, g v S → xm_q K (some (xm_i v)) S)  (h1 : wp_X12_isTestOf_288 h x1 x3 x4 x7 x8 s0 S g) : xm_W K 0 0 288 [(0, xm_r (some h)), (1, xm_i x1), (3, xm_i x3), (4, xm_i x4), (7, xm_i x7), (8, xm_i x8)] [xm_i s0] S := by
  unfold wp_X12_isTestOf_288 at h1
  refine x_istore (L' := [(9, xm_i s0), (0, xm_r (some h)), (1, xm_i x1), (3, xm_i x3), (4, xm_i x4), (7, xm_i x7), (8, xm_i x8)]) C dX12_isTestOf_288 (by decide) rfl ?_
  refine x_iload_n C 3 dX12_isTestOf_290 rfl rfl ?_
  refine x_iload C 4 dX12_isTestOf_291 rfl ?_
  refine x_icmp_lt (tgt := 321) C dX12_isTestOf_293 (by decide) (fun z9 => ?_) (fun z9 => ?_)
  · have h1 := h1.1 z9
    refine x_keep (L' := []) C [] rfl ?_
    exact kp_X12_isTestOf_321 h S C N hg  h1
  · have h1 := h1.2 z9
    refine x_iload_n C 3 dX12_isTestOf_296 rfl rfl ?_
    refine x_iload_n C 2 dX12_isTestOf_297 rfl rfl ?_
    refine x_aload_n C 1 dX12_isTestOf_298 rfl rfl ?_
    obtain ⟨ht1, h1⟩ := h1
    refine x_getf_r (n := h) C rfl ht1 fd_154 (by decide) dX12_isTestOf_299 ?_
    refine x_iconst (v := (0 : Int32)) C dX12_isTestOf_302 (by decide) ?_
    obtain ⟨n2, hr3, h1⟩ := h1
    obtain ⟨z5, ht4, h1⟩ := h1
    obtain ⟨hi6, h1⟩ := h1
    refine x_iald (n := n2) C hr3 ht4 hi6 dX12_isTestOf_303 ?_
    refine x_iload C 5 dX12_isTestOf_304 rfl ?_
    refine x_iload C 6 dX12_isTestOf_306 rfl ?_
    refine x_iload C 0 dX12_isTestOf_308 rfl ?_
    refine x_iconst (v := (0 : Int32)) C dX12_isTestOf_310 (by decide) ?_
    refine x_callS (rm' := rm_X12_key) C (kp_X12_key_met h1) lk_75 gw_467 rfl (Nat.le_of_ble_eq_true rfl) ⟨Nat.le_of_ble_eq_true rfl, Nat.le_of_ble_eq_true rfl, (Nat.le_of_ble_eq_true rfl), (Nat.le_of_ble_eq_true rfl)⟩ dX12_isTestOf_311 xm_kx (xm_ki (fun r8 S7 h1 => ?_))
    refine x_icmp_ge (tgt := 321) C dX12_isTestOf_314 (by decide) (fun z9 => ?_) (fun z9 => ?_)
    · have h1 := h1.1 z9
      refine x_keep (L' := []) C [] rfl ?_
      exact kp_X12_isTestOf_321 h S7 C N hg  h1
    · have h1 := h1.2 z9
      refine x_iconst (v := (1 : Int32)) C dX12_isTestOf_317 (by decide) ?_
      refine x_goto (tgt := 322) C dX12_isTestOf_318 (by decide) ?_
      refine x_keep (L' := []) C [] rfl ?_
      exact kp_X12_isTestOf_322 h (1 : Int32) S7 C N hg  h1
def wp_X12_isTestOf_276 (h : Nat) (x1 : Int32) (x3 : Int32) (x4 : Int32) (x7 : Int32) (x8 : Int32) (S : xm_S) (g : Int32 → xm_S → Prop) : Prop :=
  wp_X12_isTestOf_288 h x1 x3 x4 x7 x8 (0 : Int32) S g
set_option maxRecDepth 100000 in
set_option maxHeartbeats 4000000 in
theorem kp_X12_isTestOf_276 {K : xm_K} (h : Nat) (x1 : Int32) (x3 : Int32) (x4 : Int32) (x7 : Int32) (x8 : Int32) (S : xm_S) {g : Int32 → xm_S → Prop} (C : xm_Cx K cX12_isTestOf RX12 10 (some (FieldType.boolean)) rm_X12_isTestOf) (N : xm_Nx K) (hg : ∀ v S, g v S → xm_q K (some (xm_i v)) S)  (h1 : wp_X12_isTestOf_276 h x1 x3 x4 x7 x8 S g) : xm_W K 0 0 276 [(0, xm_r (some h)), (1, xm_i x1), (3, xm_i x3), (4, xm_i x4), (7, xm_i x7), (8, xm_i x8)] [] S := by
  unfold wp_X12_isTestOf_276 at h1
  refine x_iconst (v := (0 : Int32)) C dX12_isTestOf_276 (by decide) ?_
  refine x_goto (tgt := 288) C dX12_isTestOf_277 (by decide) ?_
  exact kp_X12_isTestOf_288 h x1 x3 x4 x7 x8 (0 : Int32) S C N hg  h1
def wp_X12_isTestOf_264 (h : Nat) (x1 : Int32) (x3 : Int32) (x4 : Int32) (x5 : Int32) (x6 : Int32) (x7 : Int32) (s0 : Int32) (S : xm_S) (g : Int32 → xm_S → Prop) : Prop :=
  (¬ x5 = 0 → wp_X12_isTestOf_276 h x1 x3 x4 x7 s0 S g) ∧ (x5 = 0 → (x6 = 0 → st_t S h = some (12, 0) ∧ ∃ n10, (st_r S h 63) = some n10 ∧ ∃ z13, st_t S n10 = some (100, z13) ∧ vp_in (nI 3) z13 ∧ wp_X12_isTestOf_288 h x1 x3 x4 x7 s0 ((st_i S n10 ((nI 3)).toNatClampNeg) + (1 : Int32)) S g) ∧ (¬ x6 = 0 → wp_X12_isTestOf_276 h x1 x3 x4 x7 s0 S g))
set_option maxRecDepth 100000 in
set_option maxHeartbeats 4000000 in
theorem kp_X12_isTestOf_264 {K : xm_K} (h : Nat) (x1 : Int32) (x3 : Int32) (x4 : Int32) (x5 : Int32) (x6 : Int32) (x7 : Int32) (s0 : Int32) (S : xm_S) {g : Int32 → xm_S → Prop} (C : xm_Cx K cX12_isTestOf RX12 10 (some (FieldType.boolean)) rm_X12_isTestOf) (N : xm_Nx K) (hg : ∀ v S, g v S → xm_q K (some (xm_i v)) S)  (h1 : wp_X12_isTestOf_264 h x1 x3 x4 x5 x6 x7 s0 S g) : xm_W K 0 0 264 [(0, xm_r (some h)), (1, xm_i x1), (3, xm_i x3), (4, xm_i x4), (5, xm_i x5), (6, xm_i x6), (7, xm_i x7)] [xm_i s0] S := by
  unfold wp_X12_isTestOf_264 at h1
  refine x_istore (L' := [(8, xm_i s0), (0, xm_r (some h)), (1, xm_i x1), (3, xm_i x3), (4, xm_i x4), (5, xm_i x5), (6, xm_i x6), (7, xm_i x7)]) C dX12_isTestOf_264 (by decide) rfl ?_
  refine x_iload C 5 dX12_isTestOf_266 rfl ?_
  refine x_if_ne (tgt := 276) C dX12_isTestOf_268 (by decide) (fun z9 => ?_) (fun z9 => ?_)
  · have h1 := h1.1 z9
    refine x_keep (L' := [(0, xm_r (some h)), (1, xm_i x1), (3, xm_i x3), (4, xm_i x4), (7, xm_i x7), (8, xm_i s0)]) C [1, 2, 3, 4, 7, 0] rfl ?_
    exact kp_X12_isTestOf_276 h x1 x3 x4 x7 s0 S C N hg  h1
  · have h1 := h1.2 z9
    refine x_iload C 6 dX12_isTestOf_271 rfl ?_
    refine x_if_eq (tgt := 280) C dX12_isTestOf_273 (by decide) (fun z9 => ?_) (fun z9 => ?_)
    · have h1 := h1.1 z9
      refine x_aload_n C 1 dX12_isTestOf_280 rfl rfl ?_
      obtain ⟨ht9, h1⟩ := h1
      refine x_getf_r (n := h) C rfl ht9 fd_154 (by decide) dX12_isTestOf_281 ?_
      refine x_iconst (v := (nI 3)) C dX12_isTestOf_284 (by decide) ?_
      obtain ⟨n10, hr11, h1⟩ := h1
      obtain ⟨z13, ht12, h1⟩ := h1
      obtain ⟨hi14, h1⟩ := h1
      refine x_iald (n := n10) C hr11 ht12 hi14 dX12_isTestOf_285 ?_
      refine x_iconst (v := (1 : Int32)) C dX12_isTestOf_286 (by decide) ?_
      refine x_iadd C dX12_isTestOf_287 ?_
      refine x_keep (L' := [(0, xm_r (some h)), (1, xm_i x1), (3, xm_i x3), (4, xm_i x4), (7, xm_i x7), (8, xm_i s0)]) C [1, 2, 3, 4, 7, 0] rfl ?_
      exact kp_X12_isTestOf_288 h x1 x3 x4 x7 s0 ((st_i S n10 ((nI 3)).toNatClampNeg) + (1 : Int32)) S C N hg  h1
    · have h1 := h1.2 z9
      refine x_keep (L' := [(0, xm_r (some h)), (1, xm_i x1), (3, xm_i x3), (4, xm_i x4), (7, xm_i x7), (8, xm_i s0)]) C [1, 2, 3, 4, 7, 0] rfl ?_
      exact kp_X12_isTestOf_276 h x1 x3 x4 x7 s0 S C N hg  h1
def wp_X12_isTestOf_263 (h : Nat) (x1 : Int32) (x3 : Int32) (x4 : Int32) (x5 : Int32) (x6 : Int32) (x7 : Int32) (s0 : Int32) (s1 : Int32) (S : xm_S) (g : Int32 → xm_S → Prop) : Prop :=
  wp_X12_isTestOf_264 h x1 x3 x4 x5 x6 x7 (s1 + s0) S g
set_option maxRecDepth 100000 in
set_option maxHeartbeats 4000000 in
theorem kp_X12_isTestOf_263 {K : xm_K} (h : Nat) (x1 : Int32) (x3 : Int32) (x4 : Int32) (x5 : Int32) (x6 : Int32) (x7 : Int32) (s0 : Int32) (s1 : Int32) (S : xm_S) {g : Int32 → xm_S → Prop} (C : xm_Cx K cX12_isTestOf RX12 10 (some (FieldType.boolean)) rm_X12_isTestOf) (N : xm_Nx K) (hg : ∀ v S, g v S → xm_q K (some (xm_i v)) S)  (h1 : wp_X12_isTestOf_263 h x1 x3 x4 x5 x6 x7 s0 s1 S g) : xm_W K 0 0 263 [(0, xm_r (some h)), (1, xm_i x1), (3, xm_i x3), (4, xm_i x4), (5, xm_i x5), (6, xm_i x6), (7, xm_i x7)] [xm_i s0, xm_i s1] S := by
  unfold wp_X12_isTestOf_263 at h1
  refine x_iadd C dX12_isTestOf_263 ?_
  exact kp_X12_isTestOf_264 h x1 x3 x4 x5 x6 x7 (s1 + s0) S C N hg  h1
def wp_X12_isTestOf_235 (h : Nat) (x1 : Int32) (x3 : Int32) (x4 : Int32) (x5 : Int32) (x6 : Int32) (s0 : Int32) (s1 : Int32) (S : xm_S) (g : Int32 → xm_S → Prop) : Prop :=
  ∀ y15, y15 = (s1 + s0) → (x5 = 0 → st_t S h = some (12, 0) ∧ ∃ n18, (st_r S h 63) = some n18 ∧ ∃ z21, st_t S n18 = some (100, z21) ∧ vp_in (nI 2) z21 ∧ (x6 = 0 → wp_X12_isTestOf_263 h x1 x3 x4 x5 x6 y15 (0 : Int32) (st_i S n18 ((nI 2)).toNatClampNeg) S g) ∧ (¬ x6 = 0 → wp_X12_isTestOf_263 h x1 x3 x4 x5 x6 y15 (1 : Int32) (st_i S n18 ((nI 2)).toNatClampNeg) S g)) ∧ (¬ x5 = 0 → wp_X12_isTestOf_264 h x1 x3 x4 x5 x6 y15 (0 : Int32) S g)
set_option maxRecDepth 100000 in
set_option maxHeartbeats 4000000 in
theorem kp_X12_isTestOf_235 {K : xm_K} (h : Nat) (x1 : Int32) (x3 : Int32) (x4 : Int32) (x5 : Int32) (x6 : Int32) (s0 : Int32) (s1 : Int32) (S : xm_S) {g : Int32 → xm_S → Prop} (C : xm_Cx K cX12_isTestOf RX12 10 (some (FieldType.boolean)) rm_X12_isTestOf) (N : xm_Nx K) (hg : ∀ v S, g v S → xm_q K (some (xm_i v)) S)  (h1 : wp_X12_isTestOf_235 h x1 x3 x4 x5 x6 s0 s1 S g) : xm_W K 0 0 235 [(0, xm_r (some h)), (1, xm_i x1), (3, xm_i x3), (4, xm_i x4), (5, xm_i x5), (6, xm_i x6)] [xm_i s0, xm_i s1] S := by
  unfold wp_X12_isTestOf_235 at h1
  refine x_iadd C dX12_isTestOf_235 ?_
  refine x_topi (fun y15 e16 => ?_)
  have h1 := h1 y15 e16
  refine x_istore (L' := [(7, xm_i y15), (0, xm_r (some h)), (1, xm_i x1), (3, xm_i x3), (4, xm_i x4), (5, xm_i x5), (6, xm_i x6)]) C dX12_isTestOf_236 (by decide) rfl ?_
  refine x_iload C 5 dX12_isTestOf_238 rfl ?_
  refine x_if_eq (tgt := 247) C dX12_isTestOf_240 (by decide) (fun z9 => ?_) (fun z9 => ?_)
  · have h1 := h1.1 z9
    refine x_aload_n C 1 dX12_isTestOf_247 rfl rfl ?_
    obtain ⟨ht17, h1⟩ := h1
    refine x_getf_r (n := h) C rfl ht17 fd_154 (by decide) dX12_isTestOf_248 ?_
    refine x_iconst (v := (nI 2)) C dX12_isTestOf_251 (by decide) ?_
    obtain ⟨n18, hr19, h1⟩ := h1
    obtain ⟨z21, ht20, h1⟩ := h1
    obtain ⟨hi22, h1⟩ := h1
    refine x_iald (n := n18) C hr19 ht20 hi22 dX12_isTestOf_252 ?_
    refine x_iload C 6 dX12_isTestOf_253 rfl ?_
    refine x_if_eq (tgt := 262) C dX12_isTestOf_255 (by decide) (fun z9 => ?_) (fun z9 => ?_)
    · have h1 := h1.1 z9
      refine x_iconst (v := (0 : Int32)) C dX12_isTestOf_262 (by decide) ?_
      refine x_keep (L' := [(0, xm_r (some h)), (1, xm_i x1), (3, xm_i x3), (4, xm_i x4), (5, xm_i x5), (6, xm_i x6), (7, xm_i y15)]) C [1, 2, 3, 4, 5, 6, 0] rfl ?_
      exact kp_X12_isTestOf_263 h x1 x3 x4 x5 x6 y15 (0 : Int32) (st_i S n18 ((nI 2)).toNatClampNeg) S C N hg  h1
    · have h1 := h1.2 z9
      refine x_iconst (v := (1 : Int32)) C dX12_isTestOf_258 (by decide) ?_
      refine x_goto (tgt := 263) C dX12_isTestOf_259 (by decide) ?_
      refine x_keep (L' := [(0, xm_r (some h)), (1, xm_i x1), (3, xm_i x3), (4, xm_i x4), (5, xm_i x5), (6, xm_i x6), (7, xm_i y15)]) C [1, 2, 3, 4, 5, 6, 0] rfl ?_
      exact kp_X12_isTestOf_263 h x1 x3 x4 x5 x6 y15 (1 : Int32) (st_i S n18 ((nI 2)).toNatClampNeg) S C N hg  h1
  · have h1 := h1.2 z9
    refine x_iconst (v := (0 : Int32)) C dX12_isTestOf_243 (by decide) ?_
    refine x_goto (tgt := 264) C dX12_isTestOf_244 (by decide) ?_
    refine x_keep (L' := [(0, xm_r (some h)), (1, xm_i x1), (3, xm_i x3), (4, xm_i x4), (5, xm_i x5), (6, xm_i x6), (7, xm_i y15)]) C [1, 2, 3, 4, 5, 6, 0] rfl ?_
    exact kp_X12_isTestOf_264 h x1 x3 x4 x5 x6 y15 (0 : Int32) S C N hg  h1
def wp_X12_isTestOf_217 (h : Nat) (x1 : Int32) (x3 : Int32) (x4 : Int32) (x5 : Int32) (s0 : Int32) (S : xm_S) (g : Int32 → xm_S → Prop) : Prop :=
  st_t S h = some (12, 0) ∧ ∃ n24, (st_r S h 63) = some n24 ∧ ∃ z27, st_t S n24 = some (100, z27) ∧ vp_in (1 : Int32) z27 ∧ (x5 = 0 → wp_X12_isTestOf_235 h x1 x3 x4 x5 s0 (0 : Int32) (st_i S n24 ((1 : Int32)).toNatClampNeg) S g) ∧ (¬ x5 = 0 → wp_X12_isTestOf_235 h x1 x3 x4 x5 s0 (1 : Int32) (st_i S n24 ((1 : Int32)).toNatClampNeg) S g)
set_option maxRecDepth 100000 in
set_option maxHeartbeats 4000000 in
theorem kp_X12_isTestOf_217 {K : xm_K} (h : Nat) (x1 : Int32) (x3 : Int32) (x4 : Int32) (x5 : Int32) (s0 : Int32) (S : xm_S) {g : Int32 → xm_S → Prop} (C : xm_Cx K cX12_isTestOf RX12 10 (some (FieldType.boolean)) rm_X12_isTestOf) (N : xm_Nx K) (hg : ∀ v S, g v S → xm_q K (some (xm_i v)) S)  (h1 : wp_X12_isTestOf_217 h x1 x3 x4 x5 s0 S g) : xm_W K 0 0 217 [(0, xm_r (some h)), (1, xm_i x1), (3, xm_i x3), (4, xm_i x4), (5, xm_i x5)] [xm_i s0] S := by
  unfold wp_X12_isTestOf_217 at h1
  refine x_istore (L' := [(6, xm_i s0), (0, xm_r (some h)), (1, xm_i x1), (3, xm_i x3), (4, xm_i x4), (5, xm_i x5)]) C dX12_isTestOf_217 (by decide) rfl ?_
  refine x_aload_n C 1 dX12_isTestOf_219 rfl rfl ?_
  obtain ⟨ht23, h1⟩ := h1
  refine x_getf_r (n := h) C rfl ht23 fd_154 (by decide) dX12_isTestOf_220 ?_
  refine x_iconst (v := (1 : Int32)) C dX12_isTestOf_223 (by decide) ?_
  obtain ⟨n24, hr25, h1⟩ := h1
  obtain ⟨z27, ht26, h1⟩ := h1
  obtain ⟨hi28, h1⟩ := h1
  refine x_iald (n := n24) C hr25 ht26 hi28 dX12_isTestOf_224 ?_
  refine x_iload C 5 dX12_isTestOf_225 rfl ?_
  refine x_if_eq (tgt := 234) C dX12_isTestOf_227 (by decide) (fun z9 => ?_) (fun z9 => ?_)
  · have h1 := h1.1 z9
    refine x_iconst (v := (0 : Int32)) C dX12_isTestOf_234 (by decide) ?_
    refine x_keep (L' := [(0, xm_r (some h)), (1, xm_i x1), (3, xm_i x3), (4, xm_i x4), (5, xm_i x5), (6, xm_i s0)]) C [1, 2, 3, 4, 5, 0] rfl ?_
    exact kp_X12_isTestOf_235 h x1 x3 x4 x5 s0 (0 : Int32) (st_i S n24 ((1 : Int32)).toNatClampNeg) S C N hg  h1
  · have h1 := h1.2 z9
    refine x_iconst (v := (1 : Int32)) C dX12_isTestOf_230 (by decide) ?_
    refine x_goto (tgt := 235) C dX12_isTestOf_231 (by decide) ?_
    refine x_keep (L' := [(0, xm_r (some h)), (1, xm_i x1), (3, xm_i x3), (4, xm_i x4), (5, xm_i x5), (6, xm_i s0)]) C [1, 2, 3, 4, 5, 0] rfl ?_
    exact kp_X12_isTestOf_235 h x1 x3 x4 x5 s0 (1 : Int32) (st_i S n24 ((1 : Int32)).toNatClampNeg) S C N hg  h1
def wp_X12_isTestOf_216 (h : Nat) (x1 : Int32) (x3 : Int32) (x4 : Int32) (x5 : Int32) (S : xm_S) (g : Int32 → xm_S → Prop) : Prop :=
  wp_X12_isTestOf_217 h x1 x3 x4 x5 (0 : Int32) S g
set_option maxRecDepth 100000 in
set_option maxHeartbeats 4000000 in
theorem kp_X12_isTestOf_216 {K : xm_K} (h : Nat) (x1 : Int32) (x3 : Int32) (x4 : Int32) (x5 : Int32) (S : xm_S) {g : Int32 → xm_S → Prop} (C : xm_Cx K cX12_isTestOf RX12 10 (some (FieldType.boolean)) rm_X12_isTestOf) (N : xm_Nx K) (hg : ∀ v S, g v S → xm_q K (some (xm_i v)) S)  (h1 : wp_X12_isTestOf_216 h x1 x3 x4 x5 S g) : xm_W K 0 0 216 [(0, xm_r (some h)), (1, xm_i x1), (3, xm_i x3), (4, xm_i x4), (5, xm_i x5)] [] S := by
  unfold wp_X12_isTestOf_216 at h1
  refine x_iconst (v := (0 : Int32)) C dX12_isTestOf_216 (by decide) ?_
  exact kp_X12_isTestOf_217 h x1 x3 x4 x5 (0 : Int32) S C N hg  h1
def wp_X12_isTestOf_212 (h : Nat) (x1 : Int32) (x3 : Int32) (x4 : Int32) (x5 : Int32) (S : xm_S) (g : Int32 → xm_S → Prop) : Prop :=
  wp_X12_isTestOf_217 h x1 x3 x4 x5 (1 : Int32) S g
set_option maxRecDepth 100000 in
set_option maxHeartbeats 4000000 in
theorem kp_X12_isTestOf_212 {K : xm_K} (h : Nat) (x1 : Int32) (x3 : Int32) (x4 : Int32) (x5 : Int32) (S : xm_S) {g : Int32 → xm_S → Prop} (C : xm_Cx K cX12_isTestOf RX12 10 (some (FieldType.boolean)) rm_X12_isTestOf) (N : xm_Nx K) (hg : ∀ v S, g v S → xm_q K (some (xm_i v)) S)  (h1 : wp_X12_isTestOf_212 h x1 x3 x4 x5 S g) : xm_W K 0 0 212 [(0, xm_r (some h)), (1, xm_i x1), (3, xm_i x3), (4, xm_i x4), (5, xm_i x5)] [] S := by
  unfold wp_X12_isTestOf_212 at h1
  refine x_iconst (v := (1 : Int32)) C dX12_isTestOf_212 (by decide) ?_
  refine x_goto (tgt := 217) C dX12_isTestOf_213 (by decide) ?_
  exact kp_X12_isTestOf_217 h x1 x3 x4 x5 (1 : Int32) S C N hg  h1
def wp_X12_isTestOf_187 (h : Nat) (x1 : Int32) (x3 : Int32) (x4 : Int32) (s0 : Int32) (S : xm_S) (g : Int32 → xm_S → Prop) : Prop :=
  (¬ s0 = 0 → wp_X12_isTestOf_216 h x1 x3 x4 s0 S g) ∧ (s0 = 0 → st_t S h = some (12, 0) ∧ ((st_i S h 62) = (nI 6) → wp_X12_isTestOf_212 h x1 x3 x4 s0 S g) ∧ (¬ (st_i S h 62) = (nI 6) → ∃ n30, (st_r S h 63) = some n30 ∧ ∃ z33, st_t S n30 = some (100, z33) ∧ vp_in (nI 2) z33 ∧ ((st_i S n30 ((nI 2)).toNatClampNeg) ≤ 0 → wp_X12_isTestOf_216 h x1 x3 x4 s0 S g) ∧ (¬ (st_i S n30 ((nI 2)).toNatClampNeg) ≤ 0 → wp_X12_isTestOf_212 h x1 x3 x4 s0 S g)))
set_option maxRecDepth 100000 in
set_option maxHeartbeats 4000000 in
theorem kp_X12_isTestOf_187 {K : xm_K} (h : Nat) (x1 : Int32) (x3 : Int32) (x4 : Int32) (s0 : Int32) (S : xm_S) {g : Int32 → xm_S → Prop} (C : xm_Cx K cX12_isTestOf RX12 10 (some (FieldType.boolean)) rm_X12_isTestOf) (N : xm_Nx K) (hg : ∀ v S, g v S → xm_q K (some (xm_i v)) S)  (h1 : wp_X12_isTestOf_187 h x1 x3 x4 s0 S g) : xm_W K 0 0 187 [(0, xm_r (some h)), (1, xm_i x1), (3, xm_i x3), (4, xm_i x4)] [xm_i s0] S := by
  unfold wp_X12_isTestOf_187 at h1
  refine x_istore (L' := [(5, xm_i s0), (0, xm_r (some h)), (1, xm_i x1), (3, xm_i x3), (4, xm_i x4)]) C dX12_isTestOf_187 (by decide) rfl ?_
  refine x_iload C 0 dX12_isTestOf_189 rfl ?_
  refine x_if_ne (tgt := 216) C dX12_isTestOf_191 (by decide) (fun z9 => ?_) (fun z9 => ?_)
  · have h1 := h1.1 z9
    refine x_keep (L' := [(0, xm_r (some h)), (1, xm_i x1), (3, xm_i x3), (4, xm_i x4), (5, xm_i s0)]) C [1, 2, 3, 4, 0] rfl ?_
    exact kp_X12_isTestOf_216 h x1 x3 x4 s0 S C N hg  h1
  · have h1 := h1.2 z9
    refine x_aload_n C 1 dX12_isTestOf_194 rfl rfl ?_
    obtain ⟨ht29, h1⟩ := h1
    refine x_getf_i (n := h) C rfl ht29 fd_156 (by decide) dX12_isTestOf_195 ?_
    refine x_bipush (v := (nI 6)) C dX12_isTestOf_198 (by decide) ?_
    refine x_icmp_eq (tgt := 212) C dX12_isTestOf_200 (by decide) (fun z9 => ?_) (fun z9 => ?_)
    · have h1 := h1.1 z9
      refine x_keep (L' := [(0, xm_r (some h)), (1, xm_i x1), (3, xm_i x3), (4, xm_i x4), (5, xm_i s0)]) C [1, 2, 3, 4, 0] rfl ?_
      exact kp_X12_isTestOf_212 h x1 x3 x4 s0 S C N hg  h1
    · have h1 := h1.2 z9
      refine x_aload_n C 1 dX12_isTestOf_203 rfl rfl ?_
      refine x_getf_r (n := h) C rfl ht29 fd_154 (by decide) dX12_isTestOf_204 ?_
      refine x_iconst (v := (nI 2)) C dX12_isTestOf_207 (by decide) ?_
      obtain ⟨n30, hr31, h1⟩ := h1
      obtain ⟨z33, ht32, h1⟩ := h1
      obtain ⟨hi34, h1⟩ := h1
      refine x_iald (n := n30) C hr31 ht32 hi34 dX12_isTestOf_208 ?_
      refine x_if_le (tgt := 216) C dX12_isTestOf_209 (by decide) (fun z9 => ?_) (fun z9 => ?_)
      · have h1 := h1.1 z9
        refine x_keep (L' := [(0, xm_r (some h)), (1, xm_i x1), (3, xm_i x3), (4, xm_i x4), (5, xm_i s0)]) C [1, 2, 3, 4, 0] rfl ?_
        exact kp_X12_isTestOf_216 h x1 x3 x4 s0 S C N hg  h1
      · have h1 := h1.2 z9
        refine x_keep (L' := [(0, xm_r (some h)), (1, xm_i x1), (3, xm_i x3), (4, xm_i x4), (5, xm_i s0)]) C [1, 2, 3, 4, 0] rfl ?_
        exact kp_X12_isTestOf_212 h x1 x3 x4 s0 S C N hg  h1
def wp_X12_isTestOf (h : Nat) (x1 : Int32) (x2 : Int32) (S : xm_S) (g : Int32 → xm_S → Prop) : Prop :=
  wp_X12_keyOf x1 x2 S (fun r36 S35 => st_t S35 h = some (12, 0) ∧ ∃ n38, (st_r S35 h 63) = some n38 ∧ ∃ z41, st_t S35 n38 = some (100, z41) ∧ vp_in (0 : Int32) z41 ∧ ∃ n43, (st_r S35 h 63) = some n43 ∧ ∃ z46, st_t S35 n43 = some (100, z46) ∧ vp_in (1 : Int32) z46 ∧ ∃ n48, (st_r S35 h 63) = some n48 ∧ ∃ z51, st_t S35 n48 = some (100, z51) ∧ vp_in (nI 2) z51 ∧ ∃ n53, (st_r S35 h 63) = some n53 ∧ ∃ z56, st_t S35 n53 = some (100, z56) ∧ vp_in (nI 3) z56 ∧ ∃ n58, (st_r S35 h 63) = some n58 ∧ ∃ z61, st_t S35 n58 = some (100, z61) ∧ vp_in (nI 4) z61 ∧ wp_X12_key x1 (st_i S35 n38 ((0 : Int32)).toNatClampNeg) (st_i S35 n43 ((1 : Int32)).toNatClampNeg) (st_i S35 n48 ((nI 2)).toNatClampNeg) (st_i S35 n53 ((nI 3)).toNatClampNeg) (st_i S35 n58 ((nI 4)).toNatClampNeg) S35 (fun r64 S63 => st_t S63 h = some (12, 0) ∧ ((nI 5) ≤ (st_i S63 h 62) → (¬ (st_i S63 h 62) = (nI 5) → (¬ (st_i S63 h 64) = (1 : Int32) → wp_X12_isTestOf_187 h x1 r36 r64 (0 : Int32) S63 g) ∧ ((st_i S63 h 64) = (1 : Int32) → wp_X12_isTestOf_187 h x1 r36 r64 (1 : Int32) S63 g)) ∧ ((st_i S63 h 62) = (nI 5) → ∃ n66, (st_r S63 h 63) = some n66 ∧ ∃ z69, st_t S63 n66 = some (100, z69) ∧ vp_in (1 : Int32) z69 ∧ ((st_i S63 n66 ((1 : Int32)).toNatClampNeg) ≤ 0 → wp_X12_isTestOf_187 h x1 r36 r64 (0 : Int32) S63 g) ∧ (¬ (st_i S63 n66 ((1 : Int32)).toNatClampNeg) ≤ 0 → wp_X12_isTestOf_187 h x1 r36 r64 (1 : Int32) S63 g))) ∧ (¬ (nI 5) ≤ (st_i S63 h 62) → (¬ (st_i S63 h 62) = 0 → (¬ (st_i S63 h 62) = (1 : Int32) → (¬ (st_i S63 h 62) = (nI 2) → (¬ (st_i S63 h 62) = (nI 3) → (r64 < r36 → wp_X12_isTestOf_148 h (0 : Int32) S63 g) ∧ (¬ r64 < r36 → wp_X12_isTestOf_148 h (1 : Int32) S63 g)) ∧ ((st_i S63 h 62) = (nI 3) → (r36 < r64 → wp_X12_isTestOf_148 h (0 : Int32) S63 g) ∧ (¬ r36 < r64 → wp_X12_isTestOf_148 h (1 : Int32) S63 g))) ∧ ((st_i S63 h 62) = (nI 2) → (r64 ≤ r36 → wp_X12_isTestOf_148 h (0 : Int32) S63 g) ∧ (¬ r64 ≤ r36 → wp_X12_isTestOf_148 h (1 : Int32) S63 g))) ∧ ((st_i S63 h 62) = (1 : Int32) → (r36 ≤ r64 → wp_X12_isTestOf_148 h (0 : Int32) S63 g) ∧ (¬ r36 ≤ r64 → wp_X12_isTestOf_148 h (1 : Int32) S63 g))) ∧ ((st_i S63 h 62) = 0 → (¬ r36 = r64 → wp_X12_isTestOf_148 h (0 : Int32) S63 g) ∧ (r36 = r64 → wp_X12_isTestOf_148 h (1 : Int32) S63 g)))))
set_option maxRecDepth 100000 in
set_option maxHeartbeats 4000000 in
theorem kp_X12_isTestOf {K : xm_K} (h : Nat) (x1 : Int32) (x2 : Int32) (S : xm_S) {g : Int32 → xm_S → Prop} (C : xm_Cx K cX12_isTestOf RX12 10 (some (FieldType.boolean)) rm_X12_isTestOf) (N : xm_Nx K) (hg : ∀ v S, g v S → xm_q K (some (xm_i v)) S)  (h1 : wp_X12_isTestOf h x1 x2 S g) : xm_W K 0 0 0 [(0, xm_r (some h)), (1, xm_i x1), (2, xm_i x2)] [] S := by
  unfold wp_X12_isTestOf at h1
  refine x_iload_n C 1 dX12_isTestOf_0 rfl rfl ?_
  refine x_iload_n C 2 dX12_isTestOf_1 rfl rfl ?_
  refine x_callS (rm' := rm_X12_keyOf) C (kp_X12_keyOf_met h1) lk_76 gw_470 rfl (Nat.le_of_ble_eq_true rfl) ⟨Nat.le_of_ble_eq_true rfl, Nat.le_of_ble_eq_true rfl, (Nat.le_of_ble_eq_true rfl), (Nat.le_of_ble_eq_true rfl)⟩ dX12_isTestOf_2 xm_kx (xm_ki (fun r36 S35 h1 => ?_))
  refine x_istore_n (L' := [(3, xm_i r36), (0, xm_r (some h)), (1, xm_i x1), (2, xm_i x2)]) C dX12_isTestOf_5 rfl (by decide) rfl ?_
  refine x_iload_n C 2 dX12_isTestOf_6 rfl rfl ?_
  refine x_aload_n C 1 dX12_isTestOf_7 rfl rfl ?_
  obtain ⟨ht37, h1⟩ := h1
  refine x_getf_r (n := h) C rfl ht37 fd_154 (by decide) dX12_isTestOf_8 ?_
  refine x_iconst (v := (0 : Int32)) C dX12_isTestOf_11 (by decide) ?_
  obtain ⟨n38, hr39, h1⟩ := h1
  obtain ⟨z41, ht40, h1⟩ := h1
  obtain ⟨hi42, h1⟩ := h1
  refine x_iald (n := n38) C hr39 ht40 hi42 dX12_isTestOf_12 ?_
  refine x_aload_n C 1 dX12_isTestOf_13 rfl rfl ?_
  refine x_getf_r (n := h) C rfl ht37 fd_154 (by decide) dX12_isTestOf_14 ?_
  refine x_iconst (v := (1 : Int32)) C dX12_isTestOf_17 (by decide) ?_
  obtain ⟨n43, hr44, h1⟩ := h1
  obtain ⟨z46, ht45, h1⟩ := h1
  obtain ⟨hi47, h1⟩ := h1
  refine x_iald (n := n43) C hr44 ht45 hi47 dX12_isTestOf_18 ?_
  refine x_aload_n C 1 dX12_isTestOf_19 rfl rfl ?_
  refine x_getf_r (n := h) C rfl ht37 fd_154 (by decide) dX12_isTestOf_20 ?_
  refine x_iconst (v := (nI 2)) C dX12_isTestOf_23 (by decide) ?_
  obtain ⟨n48, hr49, h1⟩ := h1
  obtain ⟨z51, ht50, h1⟩ := h1
  obtain ⟨hi52, h1⟩ := h1
  refine x_iald (n := n48) C hr49 ht50 hi52 dX12_isTestOf_24 ?_
  refine x_aload_n C 1 dX12_isTestOf_25 rfl rfl ?_
  refine x_getf_r (n := h) C rfl ht37 fd_154 (by decide) dX12_isTestOf_26 ?_
  refine x_iconst (v := (nI 3)) C dX12_isTestOf_29 (by decide) ?_
  obtain ⟨n53, hr54, h1⟩ := h1
  obtain ⟨z56, ht55, h1⟩ := h1
  obtain ⟨hi57, h1⟩ := h1
  refine x_iald (n := n53) C hr54 ht55 hi57 dX12_isTestOf_30 ?_
  refine x_aload_n C 1 dX12_isTestOf_31 rfl rfl ?_
  refine x_getf_r (n := h) C rfl ht37 fd_154 (by decide) dX12_isTestOf_32 ?_
  refine x_iconst (v := (nI 4)) C dX12_isTestOf_35 (by decide) ?_
  obtain ⟨n58, hr59, h1⟩ := h1
  obtain ⟨z61, ht60, h1⟩ := h1
  obtain ⟨hi62, h1⟩ := h1
  refine x_iald (n := n58) C hr59 ht60 hi62 dX12_isTestOf_36 ?_
  refine x_callS (rm' := rm_X12_key) C (kp_X12_key_met h1) lk_75 gw_467 rfl (Nat.le_of_ble_eq_true rfl) ⟨Nat.le_of_ble_eq_true rfl, Nat.le_of_ble_eq_true rfl, (Nat.le_of_ble_eq_true rfl), (Nat.le_of_ble_eq_true rfl)⟩ dX12_isTestOf_37 xm_kx (xm_ki (fun r64 S63 h1 => ?_))
  refine x_istore (L' := [(4, xm_i r64), (3, xm_i r36), (0, xm_r (some h)), (1, xm_i x1), (2, xm_i x2)]) C dX12_isTestOf_40 (by decide) rfl ?_
  refine x_aload_n C 2 dX12_isTestOf_42 rfl rfl ?_
  obtain ⟨ht65, h1⟩ := h1
  refine x_getf_i (n := h) C rfl ht65 fd_156 (by decide) dX12_isTestOf_43 ?_
  refine x_iconst (v := (nI 5)) C dX12_isTestOf_46 (by decide) ?_
  refine x_icmp_ge (tgt := 149) C dX12_isTestOf_47 (by decide) (fun z9 => ?_) (fun z9 => ?_)
  · have h1 := h1.1 z9
    refine x_aload_n C 2 dX12_isTestOf_149 rfl rfl ?_
    refine x_getf_i (n := h) C rfl ht65 fd_156 (by decide) dX12_isTestOf_150 ?_
    refine x_iconst (v := (nI 5)) C dX12_isTestOf_153 (by decide) ?_
    refine x_icmp_ne (tgt := 174) C dX12_isTestOf_154 (by decide) (fun z9 => ?_) (fun z9 => ?_)
    · have h1 := h1.1 z9
      refine x_aload_n C 2 dX12_isTestOf_174 rfl rfl ?_
      refine x_getf_i (n := h) C rfl ht65 fd_155 (by decide) dX12_isTestOf_175 ?_
      refine x_iconst (v := (1 : Int32)) C dX12_isTestOf_178 (by decide) ?_
      refine x_icmp_ne (tgt := 186) C dX12_isTestOf_179 (by decide) (fun z9 => ?_) (fun z9 => ?_)
      · have h1 := h1.1 z9
        refine x_iconst (v := (0 : Int32)) C dX12_isTestOf_186 (by decide) ?_
        refine x_keep (L' := [(0, xm_r (some h)), (1, xm_i x1), (3, xm_i r36), (4, xm_i r64)]) C [2, 3, 1, 0] rfl ?_
        exact kp_X12_isTestOf_187 h x1 r36 r64 (0 : Int32) S63 C N hg  h1
      · have h1 := h1.2 z9
        refine x_iconst (v := (1 : Int32)) C dX12_isTestOf_182 (by decide) ?_
        refine x_goto (tgt := 187) C dX12_isTestOf_183 (by decide) ?_
        refine x_keep (L' := [(0, xm_r (some h)), (1, xm_i x1), (3, xm_i r36), (4, xm_i r64)]) C [2, 3, 1, 0] rfl ?_
        exact kp_X12_isTestOf_187 h x1 r36 r64 (1 : Int32) S63 C N hg  h1
    · have h1 := h1.2 z9
      refine x_aload_n C 2 dX12_isTestOf_157 rfl rfl ?_
      refine x_getf_r (n := h) C rfl ht65 fd_154 (by decide) dX12_isTestOf_158 ?_
      refine x_iconst (v := (1 : Int32)) C dX12_isTestOf_161 (by decide) ?_
      obtain ⟨n66, hr67, h1⟩ := h1
      obtain ⟨z69, ht68, h1⟩ := h1
      obtain ⟨hi70, h1⟩ := h1
      refine x_iald (n := n66) C hr67 ht68 hi70 dX12_isTestOf_162 ?_
      refine x_if_le (tgt := 170) C dX12_isTestOf_163 (by decide) (fun z9 => ?_) (fun z9 => ?_)
      · have h1 := h1.1 z9
        refine x_iconst (v := (0 : Int32)) C dX12_isTestOf_170 (by decide) ?_
        refine x_goto (tgt := 187) C dX12_isTestOf_171 (by decide) ?_
        refine x_keep (L' := [(0, xm_r (some h)), (1, xm_i x1), (3, xm_i r36), (4, xm_i r64)]) C [2, 3, 1, 0] rfl ?_
        exact kp_X12_isTestOf_187 h x1 r36 r64 (0 : Int32) S63 C N hg  h1
      · have h1 := h1.2 z9
        refine x_iconst (v := (1 : Int32)) C dX12_isTestOf_166 (by decide) ?_
        refine x_goto (tgt := 187) C dX12_isTestOf_167 (by decide) ?_
        refine x_keep (L' := [(0, xm_r (some h)), (1, xm_i x1), (3, xm_i r36), (4, xm_i r64)]) C [2, 3, 1, 0] rfl ?_
        exact kp_X12_isTestOf_187 h x1 r36 r64 (1 : Int32) S63 C N hg  h1
  · have h1 := h1.2 z9
    refine x_aload_n C 2 dX12_isTestOf_50 rfl rfl ?_
    refine x_getf_i (n := h) C rfl ht65 fd_156 (by decide) dX12_isTestOf_51 ?_
    refine x_if_ne (tgt := 71) C dX12_isTestOf_54 (by decide) (fun z9 => ?_) (fun z9 => ?_)
    · have h1 := h1.1 z9
      refine x_aload_n C 2 dX12_isTestOf_71 rfl rfl ?_
      refine x_getf_i (n := h) C rfl ht65 fd_156 (by decide) dX12_isTestOf_72 ?_
      refine x_iconst (v := (1 : Int32)) C dX12_isTestOf_75 (by decide) ?_
      refine x_icmp_ne (tgt := 93) C dX12_isTestOf_76 (by decide) (fun z9 => ?_) (fun z9 => ?_)
      · have h1 := h1.1 z9
        refine x_aload_n C 2 dX12_isTestOf_93 rfl rfl ?_
        refine x_getf_i (n := h) C rfl ht65 fd_156 (by decide) dX12_isTestOf_94 ?_
        refine x_iconst (v := (nI 2)) C dX12_isTestOf_97 (by decide) ?_
        refine x_icmp_ne (tgt := 115) C dX12_isTestOf_98 (by decide) (fun z9 => ?_) (fun z9 => ?_)
        · have h1 := h1.1 z9
          refine x_aload_n C 2 dX12_isTestOf_115 rfl rfl ?_
          refine x_getf_i (n := h) C rfl ht65 fd_156 (by decide) dX12_isTestOf_116 ?_
          refine x_iconst (v := (nI 3)) C dX12_isTestOf_119 (by decide) ?_
          refine x_icmp_ne (tgt := 137) C dX12_isTestOf_120 (by decide) (fun z9 => ?_) (fun z9 => ?_)
          · have h1 := h1.1 z9
            refine x_iload_n C 1 dX12_isTestOf_137 rfl rfl ?_
            refine x_iload C 0 dX12_isTestOf_138 rfl ?_
            refine x_icmp_gt (tgt := 147) C dX12_isTestOf_140 (by decide) (fun z9 => ?_) (fun z9 => ?_)
            · have h1 := h1.1 z9
              refine x_iconst (v := (0 : Int32)) C dX12_isTestOf_147 (by decide) ?_
              refine x_keep (L' := []) C [] rfl ?_
              exact kp_X12_isTestOf_148 h (0 : Int32) S63 C N hg  h1
            · have h1 := h1.2 z9
              refine x_iconst (v := (1 : Int32)) C dX12_isTestOf_143 (by decide) ?_
              refine x_goto (tgt := 148) C dX12_isTestOf_144 (by decide) ?_
              refine x_keep (L' := []) C [] rfl ?_
              exact kp_X12_isTestOf_148 h (1 : Int32) S63 C N hg  h1
          · have h1 := h1.2 z9
            refine x_iload_n C 1 dX12_isTestOf_123 rfl rfl ?_
            refine x_iload C 0 dX12_isTestOf_124 rfl ?_
            refine x_icmp_lt (tgt := 133) C dX12_isTestOf_126 (by decide) (fun z9 => ?_) (fun z9 => ?_)
            · have h1 := h1.1 z9
              refine x_iconst (v := (0 : Int32)) C dX12_isTestOf_133 (by decide) ?_
              refine x_goto (tgt := 148) C dX12_isTestOf_134 (by decide) ?_
              refine x_keep (L' := []) C [] rfl ?_
              exact kp_X12_isTestOf_148 h (0 : Int32) S63 C N hg  h1
            · have h1 := h1.2 z9
              refine x_iconst (v := (1 : Int32)) C dX12_isTestOf_129 (by decide) ?_
              refine x_goto (tgt := 148) C dX12_isTestOf_130 (by decide) ?_
              refine x_keep (L' := []) C [] rfl ?_
              exact kp_X12_isTestOf_148 h (1 : Int32) S63 C N hg  h1
        · have h1 := h1.2 z9
          refine x_iload_n C 1 dX12_isTestOf_101 rfl rfl ?_
          refine x_iload C 0 dX12_isTestOf_102 rfl ?_
          refine x_icmp_ge (tgt := 111) C dX12_isTestOf_104 (by decide) (fun z9 => ?_) (fun z9 => ?_)
          · have h1 := h1.1 z9
            refine x_iconst (v := (0 : Int32)) C dX12_isTestOf_111 (by decide) ?_
            refine x_goto (tgt := 148) C dX12_isTestOf_112 (by decide) ?_
            refine x_keep (L' := []) C [] rfl ?_
            exact kp_X12_isTestOf_148 h (0 : Int32) S63 C N hg  h1
          · have h1 := h1.2 z9
            refine x_iconst (v := (1 : Int32)) C dX12_isTestOf_107 (by decide) ?_
            refine x_goto (tgt := 148) C dX12_isTestOf_108 (by decide) ?_
            refine x_keep (L' := []) C [] rfl ?_
            exact kp_X12_isTestOf_148 h (1 : Int32) S63 C N hg  h1
      · have h1 := h1.2 z9
        refine x_iload_n C 1 dX12_isTestOf_79 rfl rfl ?_
        refine x_iload C 0 dX12_isTestOf_80 rfl ?_
        refine x_icmp_le (tgt := 89) C dX12_isTestOf_82 (by decide) (fun z9 => ?_) (fun z9 => ?_)
        · have h1 := h1.1 z9
          refine x_iconst (v := (0 : Int32)) C dX12_isTestOf_89 (by decide) ?_
          refine x_goto (tgt := 148) C dX12_isTestOf_90 (by decide) ?_
          refine x_keep (L' := []) C [] rfl ?_
          exact kp_X12_isTestOf_148 h (0 : Int32) S63 C N hg  h1
        · have h1 := h1.2 z9
          refine x_iconst (v := (1 : Int32)) C dX12_isTestOf_85 (by decide) ?_
          refine x_goto (tgt := 148) C dX12_isTestOf_86 (by decide) ?_
          refine x_keep (L' := []) C [] rfl ?_
          exact kp_X12_isTestOf_148 h (1 : Int32) S63 C N hg  h1
    · have h1 := h1.2 z9
      refine x_iload_n C 1 dX12_isTestOf_57 rfl rfl ?_
      refine x_iload C 0 dX12_isTestOf_58 rfl ?_
      refine x_icmp_ne (tgt := 67) C dX12_isTestOf_60 (by decide) (fun z9 => ?_) (fun z9 => ?_)
      · have h1 := h1.1 z9
        refine x_iconst (v := (0 : Int32)) C dX12_isTestOf_67 (by decide) ?_
        refine x_goto (tgt := 148) C dX12_isTestOf_68 (by decide) ?_
        refine x_keep (L' := []) C [] rfl ?_
        exact kp_X12_isTestOf_148 h (0 : Int32) S63 C N hg  h1
      · have h1 := h1.2 z9
        refine x_iconst (v := (1 : Int32)) C dX12_isTestOf_63 (by decide) ?_
        refine x_goto (tgt := 148) C dX12_isTestOf_64 (by decide) ?_
        refine x_keep (L' := []) C [] rfl ?_
        exact kp_X12_isTestOf_148 h (1 : Int32) S63 C N hg  h1
theorem kp_X12_isTestOf_met {h : Nat} {x1 : Int32} {x2 : Int32} {S : xm_S} {g : Int32 → xm_S → Prop}  (h1 : wp_X12_isTestOf h x1 x2 S g) : xm_Met yX12_isTestOf cX12_isTestOf 10 (some (FieldType.boolean)) rm_X12_isTestOf [xm_r (some h), xm_i x1, xm_i x2] S (xm_qi g) xm_nox :=
  xm_ofW RX12 (by decide +kernel) rfl (Nat.le_of_ble_eq_true rfl) (fun K C N hq hx hi => kp_X12_isTestOf h x1 x2 S C N (fun v S h => by rw [hq]; exact ⟨v, rfl, h⟩)  h1)
def rm_X12_isRangeOf : Room := { frames := 6, cells := 0, slots := 0, locals := 126 }
theorem dX12_isRangeOf_0 : decode cX12_isRangeOf 0 = .ok (.iload_n 3, 1) := by decide +kernel
theorem dX12_isRangeOf_1 : decode cX12_isRangeOf 1 = .ok (.bipush 10, 2) := by decide +kernel
theorem dX12_isRangeOf_3 : decode cX12_isRangeOf 3 = .ok (.irem, 1) := by decide +kernel
theorem dX12_isRangeOf_4 : decode cX12_isRangeOf 4 = .ok (.ifCond .le 7, 3) := by decide +kernel
theorem dX12_isRangeOf_7 : decode cX12_isRangeOf 7 = .ok (.iconst 1, 1) := by decide +kernel
theorem dX12_isRangeOf_8 : decode cX12_isRangeOf 8 = .ok (.goto 4, 3) := by decide +kernel
theorem dX12_isRangeOf_11 : decode cX12_isRangeOf 11 = .ok (.iconst 0, 1) := by decide +kernel
theorem dX12_isRangeOf_12 : decode cX12_isRangeOf 12 = .ok (.istore 4, 2) := by decide +kernel
theorem dX12_isRangeOf_14 : decode cX12_isRangeOf 14 = .ok (.iconst 0, 1) := by decide +kernel
theorem dX12_isRangeOf_15 : decode cX12_isRangeOf 15 = .ok (.istore 5, 2) := by decide +kernel
theorem dX12_isRangeOf_17 : decode cX12_isRangeOf 17 = .ok (.aload_n 0, 1) := by decide +kernel
theorem dX12_isRangeOf_18 : decode cX12_isRangeOf 18 = .ok (.iload_n 1, 1) := by decide +kernel
theorem dX12_isRangeOf_19 : decode cX12_isRangeOf 19 = .ok (.putfield 188, 3) := by decide +kernel
theorem dX12_isRangeOf_22 : decode cX12_isRangeOf 22 = .ok (.aload_n 0, 1) := by decide +kernel
theorem dX12_isRangeOf_23 : decode cX12_isRangeOf 23 = .ok (.iconst 0, 1) := by decide +kernel
theorem dX12_isRangeOf_24 : decode cX12_isRangeOf 24 = .ok (.putfield 185, 3) := by decide +kernel
theorem dX12_isRangeOf_27 : decode cX12_isRangeOf 27 = .ok (.aload_n 0, 1) := by decide +kernel
theorem dX12_isRangeOf_28 : decode cX12_isRangeOf 28 = .ok (.getfield 185, 3) := by decide +kernel
theorem dX12_isRangeOf_31 : decode cX12_isRangeOf 31 = .ok (.aload_n 0, 1) := by decide +kernel
theorem dX12_isRangeOf_32 : decode cX12_isRangeOf 32 = .ok (.getfield 77, 3) := by decide +kernel
theorem dX12_isRangeOf_35 : decode cX12_isRangeOf 35 = .ok (.iload_n 1, 1) := by decide +kernel
theorem dX12_isRangeOf_36 : decode cX12_isRangeOf 36 = .ok (.iaload, 1) := by decide +kernel
theorem dX12_isRangeOf_37 : decode cX12_isRangeOf 37 = .ok (.if_icmp .ge 126, 3) := by decide +kernel
theorem dX12_isRangeOf_40 : decode cX12_isRangeOf 40 = .ok (.iconst 1, 1) := by decide +kernel
theorem dX12_isRangeOf_41 : decode cX12_isRangeOf 41 = .ok (.istore 6, 2) := by decide +kernel
theorem dX12_isRangeOf_43 : decode cX12_isRangeOf 43 = .ok (.iload 4, 2) := by decide +kernel
theorem dX12_isRangeOf_45 : decode cX12_isRangeOf 45 = .ok (.ifCond .ne 7, 3) := by decide +kernel
theorem dX12_isRangeOf_48 : decode cX12_isRangeOf 48 = .ok (.iconst 1, 1) := by decide +kernel
theorem dX12_isRangeOf_49 : decode cX12_isRangeOf 49 = .ok (.goto 4, 3) := by decide +kernel
theorem dX12_isRangeOf_52 : decode cX12_isRangeOf 52 = .ok (.iconst 0, 1) := by decide +kernel
theorem dX12_isRangeOf_53 : decode cX12_isRangeOf 53 = .ok (.istore 7, 2) := by decide +kernel
theorem dX12_isRangeOf_55 : decode cX12_isRangeOf 55 = .ok (.aload_n 0, 1) := by decide +kernel
theorem dX12_isRangeOf_56 : decode cX12_isRangeOf 56 = .ok (.bipush 42, 2) := by decide +kernel
theorem dX12_isRangeOf_58 : decode cX12_isRangeOf 58 = .ok (.invokevirtual 205, 3) := by decide +kernel
theorem dX12_isRangeOf_61 : decode cX12_isRangeOf 61 = .ok (.ifCond .ne 69, 3) := by decide +kernel
theorem dX12_isRangeOf_64 : decode cX12_isRangeOf 64 = .ok (.iconst 1, 1) := by decide +kernel
theorem dX12_isRangeOf_65 : decode cX12_isRangeOf 65 = .ok (.istore 8, 2) := by decide +kernel
theorem dX12_isRangeOf_67 : decode cX12_isRangeOf 67 = .ok (.iload 8, 2) := by decide +kernel
theorem dX12_isRangeOf_69 : decode cX12_isRangeOf 69 = .ok (.ifCond .eq 61, 3) := by decide +kernel
theorem dX12_isRangeOf_72 : decode cX12_isRangeOf 72 = .ok (.aload_n 0, 1) := by decide +kernel
theorem dX12_isRangeOf_73 : decode cX12_isRangeOf 73 = .ok (.invokevirtual 214, 3) := by decide +kernel
theorem dX12_isRangeOf_76 : decode cX12_isRangeOf 76 = .ok (.istore 9, 2) := by decide +kernel
theorem dX12_isRangeOf_78 : decode cX12_isRangeOf 78 = .ok (.iload 6, 2) := by decide +kernel
theorem dX12_isRangeOf_80 : decode cX12_isRangeOf 80 = .ok (.ifCond .eq 16, 3) := by decide +kernel
theorem dX12_isRangeOf_83 : decode cX12_isRangeOf 83 = .ok (.aload_n 0, 1) := by decide +kernel
theorem dX12_isRangeOf_84 : decode cX12_isRangeOf 84 = .ok (.iload_n 2, 1) := by decide +kernel
theorem dX12_isRangeOf_85 : decode cX12_isRangeOf 85 = .ok (.iload_n 3, 1) := by decide +kernel
theorem dX12_isRangeOf_86 : decode cX12_isRangeOf 86 = .ok (.invokevirtual 229, 3) := by decide +kernel
theorem dX12_isRangeOf_89 : decode cX12_isRangeOf 89 = .ok (.ifCond .eq 7, 3) := by decide +kernel
theorem dX12_isRangeOf_92 : decode cX12_isRangeOf 92 = .ok (.iconst 1, 1) := by decide +kernel
theorem dX12_isRangeOf_93 : decode cX12_isRangeOf 93 = .ok (.goto 4, 3) := by decide +kernel
theorem dX12_isRangeOf_96 : decode cX12_isRangeOf 96 = .ok (.iconst 0, 1) := by decide +kernel
theorem dX12_isRangeOf_97 : decode cX12_isRangeOf 97 = .ok (.istore 6, 2) := by decide +kernel
theorem dX12_isRangeOf_99 : decode cX12_isRangeOf 99 = .ok (.iload 7, 2) := by decide +kernel
theorem dX12_isRangeOf_101 : decode cX12_isRangeOf 101 = .ok (.ifCond .ne 11, 3) := by decide +kernel
theorem dX12_isRangeOf_104 : decode cX12_isRangeOf 104 = .ok (.aload_n 0, 1) := by decide +kernel
theorem dX12_isRangeOf_105 : decode cX12_isRangeOf 105 = .ok (.iload_n 3, 1) := by decide +kernel
theorem dX12_isRangeOf_106 : decode cX12_isRangeOf 106 = .ok (.invokevirtual 233, 3) := by decide +kernel
theorem dX12_isRangeOf_109 : decode cX12_isRangeOf 109 = .ok (.ifCond .eq 7, 3) := by decide +kernel
theorem dX12_isRangeOf_112 : decode cX12_isRangeOf 112 = .ok (.iconst 1, 1) := by decide +kernel
theorem dX12_isRangeOf_113 : decode cX12_isRangeOf 113 = .ok (.goto 4, 3) := by decide +kernel
theorem dX12_isRangeOf_116 : decode cX12_isRangeOf 116 = .ok (.iconst 0, 1) := by decide +kernel
theorem dX12_isRangeOf_117 : decode cX12_isRangeOf 117 = .ok (.istore 7, 2) := by decide +kernel
theorem dX12_isRangeOf_119 : decode cX12_isRangeOf 119 = .ok (.aload_n 0, 1) := by decide +kernel
theorem dX12_isRangeOf_120 : decode cX12_isRangeOf 120 = .ok (.bipush 44, 2) := by decide +kernel
theorem dX12_isRangeOf_122 : decode cX12_isRangeOf 122 = .ok (.invokevirtual 205, 3) := by decide +kernel
theorem dX12_isRangeOf_125 : decode cX12_isRangeOf 125 = .ok (.istore 8, 2) := by decide +kernel
theorem dX12_isRangeOf_127 : decode cX12_isRangeOf 127 = .ok (.goto (-60), 3) := by decide +kernel
theorem dX12_isRangeOf_130 : decode cX12_isRangeOf 130 = .ok (.iload 5, 2) := by decide +kernel
theorem dX12_isRangeOf_132 : decode cX12_isRangeOf 132 = .ok (.ifCond .ne 13, 3) := by decide +kernel
theorem dX12_isRangeOf_135 : decode cX12_isRangeOf 135 = .ok (.iload 6, 2) := by decide +kernel
theorem dX12_isRangeOf_137 : decode cX12_isRangeOf 137 = .ok (.ifCond .eq 12, 3) := by decide +kernel
theorem dX12_isRangeOf_140 : decode cX12_isRangeOf 140 = .ok (.iload 7, 2) := by decide +kernel
theorem dX12_isRangeOf_142 : decode cX12_isRangeOf 142 = .ok (.ifCond .eq 7, 3) := by decide +kernel
theorem dX12_isRangeOf_145 : decode cX12_isRangeOf 145 = .ok (.iconst 1, 1) := by decide +kernel
theorem dX12_isRangeOf_146 : decode cX12_isRangeOf 146 = .ok (.goto 4, 3) := by decide +kernel
theorem dX12_isRangeOf_149 : decode cX12_isRangeOf 149 = .ok (.iconst 0, 1) := by decide +kernel
theorem dX12_isRangeOf_150 : decode cX12_isRangeOf 150 = .ok (.istore 5, 2) := by decide +kernel
theorem dX12_isRangeOf_152 : decode cX12_isRangeOf 152 = .ok (.aload_n 0, 1) := by decide +kernel
theorem dX12_isRangeOf_153 : decode cX12_isRangeOf 153 = .ok (.bipush 124, 2) := by decide +kernel
theorem dX12_isRangeOf_155 : decode cX12_isRangeOf 155 = .ok (.invokevirtual 205, 3) := by decide +kernel
theorem dX12_isRangeOf_158 : decode cX12_isRangeOf 158 = .ok (.istore 8, 2) := by decide +kernel
theorem dX12_isRangeOf_160 : decode cX12_isRangeOf 160 = .ok (.goto (-133), 3) := by decide +kernel
theorem dX12_isRangeOf_163 : decode cX12_isRangeOf 163 = .ok (.iload 5, 2) := by decide +kernel
theorem dX12_isRangeOf_165 : decode cX12_isRangeOf 165 = .ok (.ireturn, 1) := by decide +kernel
def wp_X12_isRangeOf_150 (h : Nat) (x1 : Int32) (x2 : Int32) (x3 : Int32) (x4 : Int32) (s0 : Int32) (S : xm_S) (g : Int32 → xm_S → Prop) (Z27 : Int32 → Int32 → Int32 → Int32 → Int32 → xm_S → Prop) : Prop :=
  st_t S h = some (12, 0) ∧ wp_X12_takes h (nI 124) S (fun r3 S2 => Z27 x1 x2 x3 x4 s0 S2)
set_option maxRecDepth 100000 in
set_option maxHeartbeats 4000000 in
theorem kp_X12_isRangeOf_150 {K : xm_K} (h : Nat) (x1 : Int32) (x2 : Int32) (x3 : Int32) (x4 : Int32) (s0 : Int32) (S : xm_S) {g : Int32 → xm_S → Prop} {Z27 : Int32 → Int32 → Int32 → Int32 → Int32 → xm_S → Prop} (C : xm_Cx K cX12_isRangeOf RX12 10 (some (FieldType.boolean)) rm_X12_isRangeOf) (N : xm_Nx K) (hg : ∀ v S, g v S → xm_q K (some (xm_i v)) S) (hZ27 : ∀ x1 x2 x3 x4 x5 S, Z27 x1 x2 x3 x4 x5 S → xm_W K 0 0 27 [(0, xm_r (some h)), (1, xm_i x1), (2, xm_i x2), (3, xm_i x3), (4, xm_i x4), (5, xm_i x5)] [] S) (h1 : wp_X12_isRangeOf_150 h x1 x2 x3 x4 s0 S g Z27) : xm_W K 0 0 150 [(0, xm_r (some h)), (1, xm_i x1), (2, xm_i x2), (3, xm_i x3), (4, xm_i x4)] [xm_i s0] S := by
  unfold wp_X12_isRangeOf_150 at h1
  refine x_istore (L' := [(5, xm_i s0), (0, xm_r (some h)), (1, xm_i x1), (2, xm_i x2), (3, xm_i x3), (4, xm_i x4)]) C dX12_isRangeOf_150 (by decide) rfl ?_
  refine x_aload_n C 1 dX12_isRangeOf_152 rfl rfl ?_
  refine x_bipush (v := (nI 124)) C dX12_isRangeOf_153 (by decide) ?_
  obtain ⟨ht1, h1⟩ := h1
  refine x_callV (rm' := rm_X12_takes) (n := h) C (kp_X12_takes_met h1) lk_66 gw_426 gw_427 xv_12 rfl rfl ht1 rfl (Nat.le_of_ble_eq_true rfl) ⟨Nat.le_of_ble_eq_true rfl, Nat.le_of_ble_eq_true rfl, (Nat.le_of_ble_eq_true rfl), (Nat.le_of_ble_eq_true rfl)⟩ dX12_isRangeOf_155 xm_kx (xm_ki (fun r3 S2 h1 => ?_))
  refine x_istore (L' := [(8, xm_i r3), (5, xm_i s0), (0, xm_r (some h)), (1, xm_i x1), (2, xm_i x2), (3, xm_i x3), (4, xm_i x4)]) C dX12_isRangeOf_158 (by decide) rfl ?_
  refine x_goto (tgt := 27) C dX12_isRangeOf_160 (by decide) ?_
  refine x_keep (L' := [(0, xm_r (some h)), (1, xm_i x1), (2, xm_i x2), (3, xm_i x3), (4, xm_i x4), (5, xm_i s0)]) C [2, 3, 4, 5, 6, 1] rfl ?_
  exact hZ27 x1 x2 x3 x4 s0 S2 h1
def wp_X12_isRangeOf_145 (h : Nat) (x1 : Int32) (x2 : Int32) (x3 : Int32) (x4 : Int32) (S : xm_S) (g : Int32 → xm_S → Prop) (Z27 : Int32 → Int32 → Int32 → Int32 → Int32 → xm_S → Prop) : Prop :=
  wp_X12_isRangeOf_150 h x1 x2 x3 x4 (1 : Int32) S g Z27
set_option maxRecDepth 100000 in
set_option maxHeartbeats 4000000 in
theorem kp_X12_isRangeOf_145 {K : xm_K} (h : Nat) (x1 : Int32) (x2 : Int32) (x3 : Int32) (x4 : Int32) (S : xm_S) {g : Int32 → xm_S → Prop} {Z27 : Int32 → Int32 → Int32 → Int32 → Int32 → xm_S → Prop} (C : xm_Cx K cX12_isRangeOf RX12 10 (some (FieldType.boolean)) rm_X12_isRangeOf) (N : xm_Nx K) (hg : ∀ v S, g v S → xm_q K (some (xm_i v)) S) (hZ27 : ∀ x1 x2 x3 x4 x5 S, Z27 x1 x2 x3 x4 x5 S → xm_W K 0 0 27 [(0, xm_r (some h)), (1, xm_i x1), (2, xm_i x2), (3, xm_i x3), (4, xm_i x4), (5, xm_i x5)] [] S) (h1 : wp_X12_isRangeOf_145 h x1 x2 x3 x4 S g Z27) : xm_W K 0 0 145 [(0, xm_r (some h)), (1, xm_i x1), (2, xm_i x2), (3, xm_i x3), (4, xm_i x4)] [] S := by
  unfold wp_X12_isRangeOf_145 at h1
  refine x_iconst (v := (1 : Int32)) C dX12_isRangeOf_145 (by decide) ?_
  refine x_goto (tgt := 150) C dX12_isRangeOf_146 (by decide) ?_
  exact kp_X12_isRangeOf_150 h x1 x2 x3 x4 (1 : Int32) S C N hg hZ27 h1
def wp_X12_isRangeOf_149 (h : Nat) (x1 : Int32) (x2 : Int32) (x3 : Int32) (x4 : Int32) (S : xm_S) (g : Int32 → xm_S → Prop) (Z27 : Int32 → Int32 → Int32 → Int32 → Int32 → xm_S → Prop) : Prop :=
  wp_X12_isRangeOf_150 h x1 x2 x3 x4 (0 : Int32) S g Z27
set_option maxRecDepth 100000 in
set_option maxHeartbeats 4000000 in
theorem kp_X12_isRangeOf_149 {K : xm_K} (h : Nat) (x1 : Int32) (x2 : Int32) (x3 : Int32) (x4 : Int32) (S : xm_S) {g : Int32 → xm_S → Prop} {Z27 : Int32 → Int32 → Int32 → Int32 → Int32 → xm_S → Prop} (C : xm_Cx K cX12_isRangeOf RX12 10 (some (FieldType.boolean)) rm_X12_isRangeOf) (N : xm_Nx K) (hg : ∀ v S, g v S → xm_q K (some (xm_i v)) S) (hZ27 : ∀ x1 x2 x3 x4 x5 S, Z27 x1 x2 x3 x4 x5 S → xm_W K 0 0 27 [(0, xm_r (some h)), (1, xm_i x1), (2, xm_i x2), (3, xm_i x3), (4, xm_i x4), (5, xm_i x5)] [] S) (h1 : wp_X12_isRangeOf_149 h x1 x2 x3 x4 S g Z27) : xm_W K 0 0 149 [(0, xm_r (some h)), (1, xm_i x1), (2, xm_i x2), (3, xm_i x3), (4, xm_i x4)] [] S := by
  unfold wp_X12_isRangeOf_149 at h1
  refine x_iconst (v := (0 : Int32)) C dX12_isRangeOf_149 (by decide) ?_
  exact kp_X12_isRangeOf_150 h x1 x2 x3 x4 (0 : Int32) S C N hg hZ27 h1
def wp_X12_isRangeOf_130 (h : Nat) (x1 : Int32) (x2 : Int32) (x3 : Int32) (x4 : Int32) (x5 : Int32) (x6 : Int32) (x7 : Int32) (S : xm_S) (g : Int32 → xm_S → Prop) (Z27 : Int32 → Int32 → Int32 → Int32 → Int32 → xm_S → Prop) : Prop :=
  (¬ x5 = 0 → wp_X12_isRangeOf_145 h x1 x2 x3 x4 S g Z27) ∧ (x5 = 0 → (x6 = 0 → wp_X12_isRangeOf_149 h x1 x2 x3 x4 S g Z27) ∧ (¬ x6 = 0 → (x7 = 0 → wp_X12_isRangeOf_149 h x1 x2 x3 x4 S g Z27) ∧ (¬ x7 = 0 → wp_X12_isRangeOf_145 h x1 x2 x3 x4 S g Z27)))
set_option maxRecDepth 100000 in
set_option maxHeartbeats 4000000 in
theorem kp_X12_isRangeOf_130 {K : xm_K} (h : Nat) (x1 : Int32) (x2 : Int32) (x3 : Int32) (x4 : Int32) (x5 : Int32) (x6 : Int32) (x7 : Int32) (S : xm_S) {g : Int32 → xm_S → Prop} {Z27 : Int32 → Int32 → Int32 → Int32 → Int32 → xm_S → Prop} (C : xm_Cx K cX12_isRangeOf RX12 10 (some (FieldType.boolean)) rm_X12_isRangeOf) (N : xm_Nx K) (hg : ∀ v S, g v S → xm_q K (some (xm_i v)) S) (hZ27 : ∀ x1 x2 x3 x4 x5 S, Z27 x1 x2 x3 x4 x5 S → xm_W K 0 0 27 [(0, xm_r (some h)), (1, xm_i x1), (2, xm_i x2), (3, xm_i x3), (4, xm_i x4), (5, xm_i x5)] [] S) (h1 : wp_X12_isRangeOf_130 h x1 x2 x3 x4 x5 x6 x7 S g Z27) : xm_W K 0 0 130 [(0, xm_r (some h)), (1, xm_i x1), (2, xm_i x2), (3, xm_i x3), (4, xm_i x4), (5, xm_i x5), (6, xm_i x6), (7, xm_i x7)] [] S := by
  unfold wp_X12_isRangeOf_130 at h1
  refine x_iload C 5 dX12_isRangeOf_130 rfl ?_
  refine x_if_ne (tgt := 145) C dX12_isRangeOf_132 (by decide) (fun z9 => ?_) (fun z9 => ?_)
  · have h1 := h1.1 z9
    refine x_keep (L' := [(0, xm_r (some h)), (1, xm_i x1), (2, xm_i x2), (3, xm_i x3), (4, xm_i x4)]) C [0, 1, 2, 3, 4] rfl ?_
    exact kp_X12_isRangeOf_145 h x1 x2 x3 x4 S C N hg hZ27 h1
  · have h1 := h1.2 z9
    refine x_iload C 6 dX12_isRangeOf_135 rfl ?_
    refine x_if_eq (tgt := 149) C dX12_isRangeOf_137 (by decide) (fun z9 => ?_) (fun z9 => ?_)
    · have h1 := h1.1 z9
      refine x_keep (L' := [(0, xm_r (some h)), (1, xm_i x1), (2, xm_i x2), (3, xm_i x3), (4, xm_i x4)]) C [0, 1, 2, 3, 4] rfl ?_
      exact kp_X12_isRangeOf_149 h x1 x2 x3 x4 S C N hg hZ27 h1
    · have h1 := h1.2 z9
      refine x_iload C 7 dX12_isRangeOf_140 rfl ?_
      refine x_if_eq (tgt := 149) C dX12_isRangeOf_142 (by decide) (fun z9 => ?_) (fun z9 => ?_)
      · have h1 := h1.1 z9
        refine x_keep (L' := [(0, xm_r (some h)), (1, xm_i x1), (2, xm_i x2), (3, xm_i x3), (4, xm_i x4)]) C [0, 1, 2, 3, 4] rfl ?_
        exact kp_X12_isRangeOf_149 h x1 x2 x3 x4 S C N hg hZ27 h1
      · have h1 := h1.2 z9
        refine x_keep (L' := [(0, xm_r (some h)), (1, xm_i x1), (2, xm_i x2), (3, xm_i x3), (4, xm_i x4)]) C [0, 1, 2, 3, 4] rfl ?_
        exact kp_X12_isRangeOf_145 h x1 x2 x3 x4 S C N hg hZ27 h1
def wp_X12_isRangeOf_117 (h : Nat) (x1 : Int32) (x2 : Int32) (x3 : Int32) (x4 : Int32) (x5 : Int32) (x6 : Int32) (s0 : Int32) (S : xm_S) (g : Int32 → xm_S → Prop) (Z27 : Int32 → Int32 → Int32 → Int32 → Int32 → xm_S → Prop) (Z67 : Int32 → Int32 → Int32 → Int32 → Int32 → Int32 → Int32 → Int32 → xm_S → Prop) : Prop :=
  st_t S h = some (12, 0) ∧ wp_X12_takes h (nI 44) S (fun r6 S5 => Z67 x1 x2 x3 x4 x5 x6 s0 r6 S5)
set_option maxRecDepth 100000 in
set_option maxHeartbeats 4000000 in
theorem kp_X12_isRangeOf_117 {K : xm_K} (h : Nat) (x1 : Int32) (x2 : Int32) (x3 : Int32) (x4 : Int32) (x5 : Int32) (x6 : Int32) (s0 : Int32) (S : xm_S) {g : Int32 → xm_S → Prop} {Z27 : Int32 → Int32 → Int32 → Int32 → Int32 → xm_S → Prop} {Z67 : Int32 → Int32 → Int32 → Int32 → Int32 → Int32 → Int32 → Int32 → xm_S → Prop} (C : xm_Cx K cX12_isRangeOf RX12 10 (some (FieldType.boolean)) rm_X12_isRangeOf) (N : xm_Nx K) (hg : ∀ v S, g v S → xm_q K (some (xm_i v)) S) (hZ27 : ∀ x1 x2 x3 x4 x5 S, Z27 x1 x2 x3 x4 x5 S → xm_W K 0 0 27 [(0, xm_r (some h)), (1, xm_i x1), (2, xm_i x2), (3, xm_i x3), (4, xm_i x4), (5, xm_i x5)] [] S) (hZ67 : ∀ x1 x2 x3 x4 x5 x6 x7 x8 S, Z67 x1 x2 x3 x4 x5 x6 x7 x8 S → xm_W K 0 0 67 [(0, xm_r (some h)), (1, xm_i x1), (2, xm_i x2), (3, xm_i x3), (4, xm_i x4), (5, xm_i x5), (6, xm_i x6), (7, xm_i x7), (8, xm_i x8)] [] S) (h1 : wp_X12_isRangeOf_117 h x1 x2 x3 x4 x5 x6 s0 S g Z27 Z67) : xm_W K 0 0 117 [(0, xm_r (some h)), (1, xm_i x1), (2, xm_i x2), (3, xm_i x3), (4, xm_i x4), (5, xm_i x5), (6, xm_i x6)] [xm_i s0] S := by
  unfold wp_X12_isRangeOf_117 at h1
  refine x_istore (L' := [(7, xm_i s0), (0, xm_r (some h)), (1, xm_i x1), (2, xm_i x2), (3, xm_i x3), (4, xm_i x4), (5, xm_i x5), (6, xm_i x6)]) C dX12_isRangeOf_117 (by decide) rfl ?_
  refine x_aload_n C 1 dX12_isRangeOf_119 rfl rfl ?_
  refine x_bipush (v := (nI 44)) C dX12_isRangeOf_120 (by decide) ?_
  obtain ⟨ht4, h1⟩ := h1
  refine x_callV (rm' := rm_X12_takes) (n := h) C (kp_X12_takes_met h1) lk_66 gw_426 gw_427 xv_12 rfl rfl ht4 rfl (Nat.le_of_ble_eq_true rfl) ⟨Nat.le_of_ble_eq_true rfl, Nat.le_of_ble_eq_true rfl, (Nat.le_of_ble_eq_true rfl), (Nat.le_of_ble_eq_true rfl)⟩ dX12_isRangeOf_122 xm_kx (xm_ki (fun r6 S5 h1 => ?_))
  refine x_istore (L' := [(8, xm_i r6), (7, xm_i s0), (0, xm_r (some h)), (1, xm_i x1), (2, xm_i x2), (3, xm_i x3), (4, xm_i x4), (5, xm_i x5), (6, xm_i x6)]) C dX12_isRangeOf_125 (by decide) rfl ?_
  refine x_goto (tgt := 67) C dX12_isRangeOf_127 (by decide) ?_
  refine x_keep (L' := [(0, xm_r (some h)), (1, xm_i x1), (2, xm_i x2), (3, xm_i x3), (4, xm_i x4), (5, xm_i x5), (6, xm_i x6), (7, xm_i s0), (8, xm_i r6)]) C [2, 3, 4, 5, 6, 7, 8, 1, 0] rfl ?_
  exact hZ67 x1 x2 x3 x4 x5 x6 s0 r6 S5 h1
def wp_X12_isRangeOf_112 (h : Nat) (x1 : Int32) (x2 : Int32) (x3 : Int32) (x4 : Int32) (x5 : Int32) (x6 : Int32) (S : xm_S) (g : Int32 → xm_S → Prop) (Z27 : Int32 → Int32 → Int32 → Int32 → Int32 → xm_S → Prop) (Z67 : Int32 → Int32 → Int32 → Int32 → Int32 → Int32 → Int32 → Int32 → xm_S → Prop) : Prop :=
  wp_X12_isRangeOf_117 h x1 x2 x3 x4 x5 x6 (1 : Int32) S g Z27 Z67
set_option maxRecDepth 100000 in
set_option maxHeartbeats 4000000 in
theorem kp_X12_isRangeOf_112 {K : xm_K} (h : Nat) (x1 : Int32) (x2 : Int32) (x3 : Int32) (x4 : Int32) (x5 : Int32) (x6 : Int32) (S : xm_S) {g : Int32 → xm_S → Prop} {Z27 : Int32 → Int32 → Int32 → Int32 → Int32 → xm_S → Prop} {Z67 : Int32 → Int32 → Int32 → Int32 → Int32 → Int32 → Int32 → Int32 → xm_S → Prop} (C : xm_Cx K cX12_isRangeOf RX12 10 (some (FieldType.boolean)) rm_X12_isRangeOf) (N : xm_Nx K) (hg : ∀ v S, g v S → xm_q K (some (xm_i v)) S) (hZ27 : ∀ x1 x2 x3 x4 x5 S, Z27 x1 x2 x3 x4 x5 S → xm_W K 0 0 27 [(0, xm_r (some h)), (1, xm_i x1), (2, xm_i x2), (3, xm_i x3), (4, xm_i x4), (5, xm_i x5)] [] S) (hZ67 : ∀ x1 x2 x3 x4 x5 x6 x7 x8 S, Z67 x1 x2 x3 x4 x5 x6 x7 x8 S → xm_W K 0 0 67 [(0, xm_r (some h)), (1, xm_i x1), (2, xm_i x2), (3, xm_i x3), (4, xm_i x4), (5, xm_i x5), (6, xm_i x6), (7, xm_i x7), (8, xm_i x8)] [] S) (h1 : wp_X12_isRangeOf_112 h x1 x2 x3 x4 x5 x6 S g Z27 Z67) : xm_W K 0 0 112 [(0, xm_r (some h)), (1, xm_i x1), (2, xm_i x2), (3, xm_i x3), (4, xm_i x4), (5, xm_i x5), (6, xm_i x6)] [] S := by
  unfold wp_X12_isRangeOf_112 at h1
  refine x_iconst (v := (1 : Int32)) C dX12_isRangeOf_112 (by decide) ?_
  refine x_goto (tgt := 117) C dX12_isRangeOf_113 (by decide) ?_
  exact kp_X12_isRangeOf_117 h x1 x2 x3 x4 x5 x6 (1 : Int32) S C N hg hZ27 hZ67 h1
def wp_X12_isRangeOf_97 (h : Nat) (x1 : Int32) (x2 : Int32) (x3 : Int32) (x4 : Int32) (x5 : Int32) (x7 : Int32) (s0 : Int32) (S : xm_S) (g : Int32 → xm_S → Prop) (Z27 : Int32 → Int32 → Int32 → Int32 → Int32 → xm_S → Prop) (Z67 : Int32 → Int32 → Int32 → Int32 → Int32 → Int32 → Int32 → Int32 → xm_S → Prop) : Prop :=
  (¬ x7 = 0 → wp_X12_isRangeOf_112 h x1 x2 x3 x4 x5 s0 S g Z27 Z67) ∧ (x7 = 0 → st_t S h = some (12, 0) ∧ wp_X12_isOfPreview h x3 S (fun r9 S8 => (r9 = 0 → wp_X12_isRangeOf_117 h x1 x2 x3 x4 x5 s0 (0 : Int32) S8 g Z27 Z67) ∧ (¬ r9 = 0 → wp_X12_isRangeOf_112 h x1 x2 x3 x4 x5 s0 S8 g Z27 Z67)))
set_option maxRecDepth 100000 in
set_option maxHeartbeats 4000000 in
theorem kp_X12_isRangeOf_97 {K : xm_K} (h : Nat) (x1 : Int32) (x2 : Int32) (x3 : Int32) (x4 : Int32) (x5 : Int32) (x7 : Int32) (s0 : Int32) (S : xm_S) {g : Int32 → xm_S → Prop} {Z27 : Int32 → Int32 → Int32 → Int32 → Int32 → xm_S → Prop} {Z67 : Int32 → Int32 → Int32 → Int32 → Int32 → Int32 → Int32 → Int32 → xm_S → Prop} (C : xm_Cx K cX12_isRangeOf RX12 10 (some (FieldType.boolean)) rm_X12_isRangeOf) (N : xm_Nx K) (hg : ∀ v S, g v S → xm_q K (some (xm_i v)) S) (hZ27 : ∀ x1 x2 x3 x4 x5 S, Z27 x1 x2 x3 x4 x5 S → xm_W K 0 0 27 [(0, xm_r (some h)), (1, xm_i x1), (2, xm_i x2), (3, xm_i x3), (4, xm_i x4), (5, xm_i x5)] [] S) (hZ67 : ∀ x1 x2 x3 x4 x5 x6 x7 x8 S, Z67 x1 x2 x3 x4 x5 x6 x7 x8 S → xm_W K 0 0 67 [(0, xm_r (some h)), (1, xm_i x1), (2, xm_i x2), (3, xm_i x3), (4, xm_i x4), (5, xm_i x5), (6, xm_i x6), (7, xm_i x7), (8, xm_i x8)] [] S) (h1 : wp_X12_isRangeOf_97 h x1 x2 x3 x4 x5 x7 s0 S g Z27 Z67) : xm_W K 0 0 97 [(0, xm_r (some h)), (1, xm_i x1), (2, xm_i x2), (3, xm_i x3), (4, xm_i x4), (5, xm_i x5), (7, xm_i x7)] [xm_i s0] S := by
  unfold wp_X12_isRangeOf_97 at h1
  refine x_istore (L' := [(6, xm_i s0), (0, xm_r (some h)), (1, xm_i x1), (2, xm_i x2), (3, xm_i x3), (4, xm_i x4), (5, xm_i x5), (7, xm_i x7)]) C dX12_isRangeOf_97 (by decide) rfl ?_
  refine x_iload C 7 dX12_isRangeOf_99 rfl ?_
  refine x_if_ne (tgt := 112) C dX12_isRangeOf_101 (by decide) (fun z9 => ?_) (fun z9 => ?_)
  · have h1 := h1.1 z9
    refine x_keep (L' := [(0, xm_r (some h)), (1, xm_i x1), (2, xm_i x2), (3, xm_i x3), (4, xm_i x4), (5, xm_i x5), (6, xm_i s0)]) C [1, 2, 3, 4, 5, 6, 0] rfl ?_
    exact kp_X12_isRangeOf_112 h x1 x2 x3 x4 x5 s0 S C N hg hZ27 hZ67 h1
  · have h1 := h1.2 z9
    refine x_aload_n C 1 dX12_isRangeOf_104 rfl rfl ?_
    refine x_iload_n C 4 dX12_isRangeOf_105 rfl rfl ?_
    obtain ⟨ht7, h1⟩ := h1
    refine x_callV (rm' := rm_X12_isOfPreview) (n := h) C (kp_X12_isOfPreview_met h1) lk_77 gw_473 gw_474 xv_12 rfl rfl ht7 rfl (Nat.le_of_ble_eq_true rfl) ⟨Nat.le_of_ble_eq_true rfl, Nat.le_of_ble_eq_true rfl, (Nat.le_of_ble_eq_true rfl), (Nat.le_of_ble_eq_true rfl)⟩ dX12_isRangeOf_106 xm_kx (xm_ki (fun r9 S8 h1 => ?_))
    refine x_if_eq (tgt := 116) C dX12_isRangeOf_109 (by decide) (fun z9 => ?_) (fun z9 => ?_)
    · have h1 := h1.1 z9
      refine x_iconst (v := (0 : Int32)) C dX12_isRangeOf_116 (by decide) ?_
      refine x_keep (L' := [(0, xm_r (some h)), (1, xm_i x1), (2, xm_i x2), (3, xm_i x3), (4, xm_i x4), (5, xm_i x5), (6, xm_i s0)]) C [1, 2, 3, 4, 5, 6, 0] rfl ?_
      exact kp_X12_isRangeOf_117 h x1 x2 x3 x4 x5 s0 (0 : Int32) S8 C N hg hZ27 hZ67 h1
    · have h1 := h1.2 z9
      refine x_keep (L' := [(0, xm_r (some h)), (1, xm_i x1), (2, xm_i x2), (3, xm_i x3), (4, xm_i x4), (5, xm_i x5), (6, xm_i s0)]) C [1, 2, 3, 4, 5, 6, 0] rfl ?_
      exact kp_X12_isRangeOf_112 h x1 x2 x3 x4 x5 s0 S8 C N hg hZ27 hZ67 h1
def wp_X12_isRangeOf_96 (h : Nat) (x1 : Int32) (x2 : Int32) (x3 : Int32) (x4 : Int32) (x5 : Int32) (x7 : Int32) (S : xm_S) (g : Int32 → xm_S → Prop) (Z27 : Int32 → Int32 → Int32 → Int32 → Int32 → xm_S → Prop) (Z67 : Int32 → Int32 → Int32 → Int32 → Int32 → Int32 → Int32 → Int32 → xm_S → Prop) : Prop :=
  wp_X12_isRangeOf_97 h x1 x2 x3 x4 x5 x7 (0 : Int32) S g Z27 Z67
set_option maxRecDepth 100000 in
set_option maxHeartbeats 4000000 in
theorem kp_X12_isRangeOf_96 {K : xm_K} (h : Nat) (x1 : Int32) (x2 : Int32) (x3 : Int32) (x4 : Int32) (x5 : Int32) (x7 : Int32) (S : xm_S) {g : Int32 → xm_S → Prop} {Z27 : Int32 → Int32 → Int32 → Int32 → Int32 → xm_S → Prop} {Z67 : Int32 → Int32 → Int32 → Int32 → Int32 → Int32 → Int32 → Int32 → xm_S → Prop} (C : xm_Cx K cX12_isRangeOf RX12 10 (some (FieldType.boolean)) rm_X12_isRangeOf) (N : xm_Nx K) (hg : ∀ v S, g v S → xm_q K (some (xm_i v)) S) (hZ27 : ∀ x1 x2 x3 x4 x5 S, Z27 x1 x2 x3 x4 x5 S → xm_W K 0 0 27 [(0, xm_r (some h)), (1, xm_i x1), (2, xm_i x2), (3, xm_i x3), (4, xm_i x4), (5, xm_i x5)] [] S) (hZ67 : ∀ x1 x2 x3 x4 x5 x6 x7 x8 S, Z67 x1 x2 x3 x4 x5 x6 x7 x8 S → xm_W K 0 0 67 [(0, xm_r (some h)), (1, xm_i x1), (2, xm_i x2), (3, xm_i x3), (4, xm_i x4), (5, xm_i x5), (6, xm_i x6), (7, xm_i x7), (8, xm_i x8)] [] S) (h1 : wp_X12_isRangeOf_96 h x1 x2 x3 x4 x5 x7 S g Z27 Z67) : xm_W K 0 0 96 [(0, xm_r (some h)), (1, xm_i x1), (2, xm_i x2), (3, xm_i x3), (4, xm_i x4), (5, xm_i x5), (7, xm_i x7)] [] S := by
  unfold wp_X12_isRangeOf_96 at h1
  refine x_iconst (v := (0 : Int32)) C dX12_isRangeOf_96 (by decide) ?_
  exact kp_X12_isRangeOf_97 h x1 x2 x3 x4 x5 x7 (0 : Int32) S C N hg hZ27 hZ67 h1
def wp_X12_isRangeOf_67B (h : Nat) (x1 : Int32) (x2 : Int32) (x3 : Int32) (x4 : Int32) (x5 : Int32) (x6 : Int32) (x7 : Int32) (x8 : Int32) (S : xm_S) (g : Int32 → xm_S → Prop) (Z27 : Int32 → Int32 → Int32 → Int32 → Int32 → xm_S → Prop) (Z67 : Int32 → Int32 → Int32 → Int32 → Int32 → Int32 → Int32 → Int32 → xm_S → Prop) : Prop :=
  (x8 = 0 → wp_X12_isRangeOf_130 h x1 x2 x3 x4 x5 x6 x7 S g Z27) ∧ (¬ x8 = 0 → st_t S h = some (12, 0) ∧ wp_X12_readsTest h S (fun r12 S11 => (x6 = 0 → wp_X12_isRangeOf_96 h x1 x2 x3 x4 x5 x7 S11 g Z27 Z67) ∧ (¬ x6 = 0 → st_t S11 h = some (12, 0) ∧ wp_X12_isTestOf h x2 x3 S11 (fun r15 S14 => (r15 = 0 → wp_X12_isRangeOf_96 h x1 x2 x3 x4 x5 x7 S14 g Z27 Z67) ∧ (¬ r15 = 0 → wp_X12_isRangeOf_97 h x1 x2 x3 x4 x5 x7 (1 : Int32) S14 g Z27 Z67)))))
def wp_X12_isRangeOf_67 (h : Nat) (x1 : Int32) (x2 : Int32) (x3 : Int32) (x4 : Int32) (x5 : Int32) (x6 : Int32) (x7 : Int32) (x8 : Int32) (S : xm_S) (g : Int32 → xm_S → Prop) (Z27 : Int32 → Int32 → Int32 → Int32 → Int32 → xm_S → Prop) : Prop :=
  ∀ Z67 : Int32 → Int32 → Int32 → Int32 → Int32 → Int32 → Int32 → Int32 → xm_S → Prop, (∀ x1 x2 x3 x4 x5 x6 x7 x8 S, wp_X12_isRangeOf_67B h x1 x2 x3 x4 x5 x6 x7 x8 S g Z27 Z67 → Z67 x1 x2 x3 x4 x5 x6 x7 x8 S) → Z67 x1 x2 x3 x4 x5 x6 x7 x8 S
set_option maxRecDepth 100000 in
set_option maxHeartbeats 4000000 in
theorem kp_X12_isRangeOf_67B {K : xm_K} (h : Nat) (x1 : Int32) (x2 : Int32) (x3 : Int32) (x4 : Int32) (x5 : Int32) (x6 : Int32) (x7 : Int32) (x8 : Int32) (S : xm_S) {g : Int32 → xm_S → Prop} {Z27 : Int32 → Int32 → Int32 → Int32 → Int32 → xm_S → Prop} {Z67 : Int32 → Int32 → Int32 → Int32 → Int32 → Int32 → Int32 → Int32 → xm_S → Prop} (C : xm_Cx K cX12_isRangeOf RX12 10 (some (FieldType.boolean)) rm_X12_isRangeOf) (N : xm_Nx K) (hg : ∀ v S, g v S → xm_q K (some (xm_i v)) S) (hZ27 : ∀ x1 x2 x3 x4 x5 S, Z27 x1 x2 x3 x4 x5 S → xm_W K 0 0 27 [(0, xm_r (some h)), (1, xm_i x1), (2, xm_i x2), (3, xm_i x3), (4, xm_i x4), (5, xm_i x5)] [] S) (hZ67 : ∀ x1 x2 x3 x4 x5 x6 x7 x8 S, Z67 x1 x2 x3 x4 x5 x6 x7 x8 S → xm_W K 0 0 67 [(0, xm_r (some h)), (1, xm_i x1), (2, xm_i x2), (3, xm_i x3), (4, xm_i x4), (5, xm_i x5), (6, xm_i x6), (7, xm_i x7), (8, xm_i x8)] [] S) (h1 : wp_X12_isRangeOf_67B h x1 x2 x3 x4 x5 x6 x7 x8 S g Z27 Z67) : xm_W K 0 0 67 [(0, xm_r (some h)), (1, xm_i x1), (2, xm_i x2), (3, xm_i x3), (4, xm_i x4), (5, xm_i x5), (6, xm_i x6), (7, xm_i x7), (8, xm_i x8)] [] S := by
  unfold wp_X12_isRangeOf_67B at h1
  refine x_iload C 8 dX12_isRangeOf_67 rfl ?_
  refine x_if_eq (tgt := 130) C dX12_isRangeOf_69 (by decide) (fun z9 => ?_) (fun z9 => ?_)
  · have h1 := h1.1 z9
    refine x_keep (L' := [(0, xm_r (some h)), (1, xm_i x1), (2, xm_i x2), (3, xm_i x3), (4, xm_i x4), (5, xm_i x5), (6, xm_i x6), (7, xm_i x7)]) C [0, 1, 2, 3, 4, 5, 6, 7] rfl ?_
    exact kp_X12_isRangeOf_130 h x1 x2 x3 x4 x5 x6 x7 S C N hg hZ27 h1
  · have h1 := h1.2 z9
    refine x_aload_n C 0 dX12_isRangeOf_72 rfl rfl ?_
    obtain ⟨ht10, h1⟩ := h1
    refine x_callV (rm' := rm_X12_readsTest) (n := h) C (kp_X12_readsTest_met h1) lk_69 gw_440 gw_441 xv_12 rfl rfl ht10 rfl (Nat.le_of_ble_eq_true rfl) ⟨Nat.le_of_ble_eq_true rfl, Nat.le_of_ble_eq_true rfl, (Nat.le_of_ble_eq_true rfl), (Nat.le_of_ble_eq_true rfl)⟩ dX12_isRangeOf_73 xm_kx (xm_ki (fun r12 S11 h1 => ?_))
    refine x_istore (L' := [(9, xm_i r12), (0, xm_r (some h)), (1, xm_i x1), (2, xm_i x2), (3, xm_i x3), (4, xm_i x4), (5, xm_i x5), (6, xm_i x6), (7, xm_i x7), (8, xm_i x8)]) C dX12_isRangeOf_76 (by decide) rfl ?_
    refine x_iload C 7 dX12_isRangeOf_78 rfl ?_
    refine x_if_eq (tgt := 96) C dX12_isRangeOf_80 (by decide) (fun z9 => ?_) (fun z9 => ?_)
    · have h1 := h1.1 z9
      refine x_keep (L' := [(0, xm_r (some h)), (1, xm_i x1), (2, xm_i x2), (3, xm_i x3), (4, xm_i x4), (5, xm_i x5), (7, xm_i x7)]) C [1, 2, 3, 4, 5, 6, 8] rfl ?_
      exact kp_X12_isRangeOf_96 h x1 x2 x3 x4 x5 x7 S11 C N hg hZ27 hZ67 h1
    · have h1 := h1.2 z9
      refine x_aload_n C 1 dX12_isRangeOf_83 rfl rfl ?_
      refine x_iload_n C 3 dX12_isRangeOf_84 rfl rfl ?_
      refine x_iload_n C 4 dX12_isRangeOf_85 rfl rfl ?_
      obtain ⟨ht13, h1⟩ := h1
      refine x_callV (rm' := rm_X12_isTestOf) (n := h) C (kp_X12_isTestOf_met h1) lk_78 gw_477 gw_478 xv_12 rfl rfl ht13 rfl (Nat.le_of_ble_eq_true rfl) ⟨Nat.le_of_ble_eq_true rfl, Nat.le_of_ble_eq_true rfl, (Nat.le_of_ble_eq_true rfl), (Nat.le_of_ble_eq_true rfl)⟩ dX12_isRangeOf_86 xm_kx (xm_ki (fun r15 S14 h1 => ?_))
      refine x_if_eq (tgt := 96) C dX12_isRangeOf_89 (by decide) (fun z9 => ?_) (fun z9 => ?_)
      · have h1 := h1.1 z9
        refine x_keep (L' := [(0, xm_r (some h)), (1, xm_i x1), (2, xm_i x2), (3, xm_i x3), (4, xm_i x4), (5, xm_i x5), (7, xm_i x7)]) C [1, 2, 3, 4, 5, 6, 8] rfl ?_
        exact kp_X12_isRangeOf_96 h x1 x2 x3 x4 x5 x7 S14 C N hg hZ27 hZ67 h1
      · have h1 := h1.2 z9
        refine x_iconst (v := (1 : Int32)) C dX12_isRangeOf_92 (by decide) ?_
        refine x_goto (tgt := 97) C dX12_isRangeOf_93 (by decide) ?_
        refine x_keep (L' := [(0, xm_r (some h)), (1, xm_i x1), (2, xm_i x2), (3, xm_i x3), (4, xm_i x4), (5, xm_i x5), (7, xm_i x7)]) C [1, 2, 3, 4, 5, 6, 8] rfl ?_
        exact kp_X12_isRangeOf_97 h x1 x2 x3 x4 x5 x7 (1 : Int32) S14 C N hg hZ27 hZ67 h1
theorem kp_X12_isRangeOf_67 {K : xm_K} (h : Nat) (x1 : Int32) (x2 : Int32) (x3 : Int32) (x4 : Int32) (x5 : Int32) (x6 : Int32) (x7 : Int32) (x8 : Int32) (S : xm_S) {g : Int32 → xm_S → Prop} {Z27 : Int32 → Int32 → Int32 → Int32 → Int32 → xm_S → Prop} (C : xm_Cx K cX12_isRangeOf RX12 10 (some (FieldType.boolean)) rm_X12_isRangeOf) (N : xm_Nx K) (hg : ∀ v S, g v S → xm_q K (some (xm_i v)) S) (hZ27 : ∀ x1 x2 x3 x4 x5 S, Z27 x1 x2 x3 x4 x5 S → xm_W K 0 0 27 [(0, xm_r (some h)), (1, xm_i x1), (2, xm_i x2), (3, xm_i x3), (4, xm_i x4), (5, xm_i x5)] [] S) (h1 : wp_X12_isRangeOf_67 h x1 x2 x3 x4 x5 x6 x7 x8 S g Z27) : xm_W K 0 0 67 [(0, xm_r (some h)), (1, xm_i x1), (2, xm_i x2), (3, xm_i x3), (4, xm_i x4), (5, xm_i x5), (6, xm_i x6), (7, xm_i x7), (8, xm_i x8)] [] S :=
  h1 (fun x1 x2 x3 x4 x5 x6 x7 x8 S => xm_W K 0 0 67 [(0, xm_r (some h)), (1, xm_i x1), (2, xm_i x2), (3, xm_i x3), (4, xm_i x4), (5, xm_i x5), (6, xm_i x6), (7, xm_i x7), (8, xm_i x8)] [] S) (fun x1 x2 x3 x4 x5 x6 x7 x8 S hb => kp_X12_isRangeOf_67B h x1 x2 x3 x4 x5 x6 x7 x8 S C N hg hZ27 (fun x1 x2 x3 x4 x5 x6 x7 x8 S hz => hz) hb)
def wp_X12_isRangeOf_53 (h : Nat) (x1 : Int32) (x2 : Int32) (x3 : Int32) (x4 : Int32) (x5 : Int32) (x6 : Int32) (s0 : Int32) (S : xm_S) (g : Int32 → xm_S → Prop) (Z27 : Int32 → Int32 → Int32 → Int32 → Int32 → xm_S → Prop) : Prop :=
  st_t S h = some (12, 0) ∧ wp_X12_takes h (nI 42) S (fun r18 S17 => (¬ r18 = 0 → wp_X12_isRangeOf_130 h x1 x2 x3 x4 x5 x6 s0 S17 g Z27) ∧ (r18 = 0 → wp_X12_isRangeOf_67 h x1 x2 x3 x4 x5 x6 s0 (1 : Int32) S17 g Z27))
set_option maxRecDepth 100000 in
set_option maxHeartbeats 4000000 in
theorem kp_X12_isRangeOf_53 {K : xm_K} (h : Nat) (x1 : Int32) (x2 : Int32) (x3 : Int32) (x4 : Int32) (x5 : Int32) (x6 : Int32) (s0 : Int32) (S : xm_S) {g : Int32 → xm_S → Prop} {Z27 : Int32 → Int32 → Int32 → Int32 → Int32 → xm_S → Prop} (C : xm_Cx K cX12_isRangeOf RX12 10 (some (FieldType.boolean)) rm_X12_isRangeOf) (N : xm_Nx K) (hg : ∀ v S, g v S → xm_q K (some (xm_i v)) S) (hZ27 : ∀ x1 x2 x3 x4 x5 S, Z27 x1 x2 x3 x4 x5 S → xm_W K 0 0 27 [(0, xm_r (some h)), (1, xm_i x1), (2, xm_i x2), (3, xm_i x3), (4, xm_i x4), (5, xm_i x5)] [] S) (h1 : wp_X12_isRangeOf_53 h x1 x2 x3 x4 x5 x6 s0 S g Z27) : xm_W K 0 0 53 [(0, xm_r (some h)), (1, xm_i x1), (2, xm_i x2), (3, xm_i x3), (4, xm_i x4), (5, xm_i x5), (6, xm_i x6)] [xm_i s0] S := by
  unfold wp_X12_isRangeOf_53 at h1
  refine x_istore (L' := [(7, xm_i s0), (0, xm_r (some h)), (1, xm_i x1), (2, xm_i x2), (3, xm_i x3), (4, xm_i x4), (5, xm_i x5), (6, xm_i x6)]) C dX12_isRangeOf_53 (by decide) rfl ?_
  refine x_aload_n C 1 dX12_isRangeOf_55 rfl rfl ?_
  refine x_bipush (v := (nI 42)) C dX12_isRangeOf_56 (by decide) ?_
  obtain ⟨ht16, h1⟩ := h1
  refine x_callV (rm' := rm_X12_takes) (n := h) C (kp_X12_takes_met h1) lk_66 gw_426 gw_427 xv_12 rfl rfl ht16 rfl (Nat.le_of_ble_eq_true rfl) ⟨Nat.le_of_ble_eq_true rfl, Nat.le_of_ble_eq_true rfl, (Nat.le_of_ble_eq_true rfl), (Nat.le_of_ble_eq_true rfl)⟩ dX12_isRangeOf_58 xm_kx (xm_ki (fun r18 S17 h1 => ?_))
  refine x_if_ne (tgt := 130) C dX12_isRangeOf_61 (by decide) (fun z9 => ?_) (fun z9 => ?_)
  · have h1 := h1.1 z9
    refine x_keep (L' := [(0, xm_r (some h)), (1, xm_i x1), (2, xm_i x2), (3, xm_i x3), (4, xm_i x4), (5, xm_i x5), (6, xm_i x6), (7, xm_i s0)]) C [1, 2, 3, 4, 5, 6, 7, 0] rfl ?_
    exact kp_X12_isRangeOf_130 h x1 x2 x3 x4 x5 x6 s0 S17 C N hg hZ27 h1
  · have h1 := h1.2 z9
    refine x_iconst (v := (1 : Int32)) C dX12_isRangeOf_64 (by decide) ?_
    refine x_istore (L' := [(8, xm_i (1 : Int32)), (7, xm_i s0), (0, xm_r (some h)), (1, xm_i x1), (2, xm_i x2), (3, xm_i x3), (4, xm_i x4), (5, xm_i x5), (6, xm_i x6)]) C dX12_isRangeOf_65 (by decide) rfl ?_
    refine x_keep (L' := [(0, xm_r (some h)), (1, xm_i x1), (2, xm_i x2), (3, xm_i x3), (4, xm_i x4), (5, xm_i x5), (6, xm_i x6), (7, xm_i s0), (8, xm_i (1 : Int32))]) C [2, 3, 4, 5, 6, 7, 8, 1, 0] rfl ?_
    exact kp_X12_isRangeOf_67 h x1 x2 x3 x4 x5 x6 s0 (1 : Int32) S17 C N hg hZ27 h1
def wp_X12_isRangeOf_27B (h : Nat) (x1 : Int32) (x2 : Int32) (x3 : Int32) (x4 : Int32) (x5 : Int32) (S : xm_S) (g : Int32 → xm_S → Prop) (Z27 : Int32 → Int32 → Int32 → Int32 → Int32 → xm_S → Prop) : Prop :=
  st_t S h = some (12, 0) ∧ ∃ n20, (st_r S h 25) = some n20 ∧ ∃ z23, st_t S n20 = some (100, z23) ∧ vp_in x1 z23 ∧ ((st_i S n20 (x1).toNatClampNeg) ≤ (st_i S h 60) → (x5 = 0 ∨ x5 = 1) ∧ g x5 S) ∧ (¬ (st_i S n20 (x1).toNatClampNeg) ≤ (st_i S h 60) → (¬ x4 = 0 → wp_X12_isRangeOf_53 h x1 x2 x3 x4 x5 (1 : Int32) (0 : Int32) S g Z27) ∧ (x4 = 0 → wp_X12_isRangeOf_53 h x1 x2 x3 x4 x5 (1 : Int32) (1 : Int32) S g Z27))
def wp_X12_isRangeOf_27 (h : Nat) (x1 : Int32) (x2 : Int32) (x3 : Int32) (x4 : Int32) (x5 : Int32) (S : xm_S) (g : Int32 → xm_S → Prop) : Prop :=
  ∀ Z27 : Int32 → Int32 → Int32 → Int32 → Int32 → xm_S → Prop, (∀ x1 x2 x3 x4 x5 S, wp_X12_isRangeOf_27B h x1 x2 x3 x4 x5 S g Z27 → Z27 x1 x2 x3 x4 x5 S) → Z27 x1 x2 x3 x4 x5 S
set_option maxRecDepth 100000 in
set_option maxHeartbeats 4000000 in
theorem kp_X12_isRangeOf_27B {K : xm_K} (h : Nat) (x1 : Int32) (x2 : Int32) (x3 : Int32) (x4 : Int32) (x5 : Int32) (S : xm_S) {g : Int32 → xm_S → Prop} {Z27 : Int32 → Int32 → Int32 → Int32 → Int32 → xm_S → Prop} (C : xm_Cx K cX12_isRangeOf RX12 10 (some (FieldType.boolean)) rm_X12_isRangeOf) (N : xm_Nx K) (hg : ∀ v S, g v S → xm_q K (some (xm_i v)) S) (hZ27 : ∀ x1 x2 x3 x4 x5 S, Z27 x1 x2 x3 x4 x5 S → xm_W K 0 0 27 [(0, xm_r (some h)), (1, xm_i x1), (2, xm_i x2), (3, xm_i x3), (4, xm_i x4), (5, xm_i x5)] [] S) (h1 : wp_X12_isRangeOf_27B h x1 x2 x3 x4 x5 S g Z27) : xm_W K 0 0 27 [(0, xm_r (some h)), (1, xm_i x1), (2, xm_i x2), (3, xm_i x3), (4, xm_i x4), (5, xm_i x5)] [] S := by
  unfold wp_X12_isRangeOf_27B at h1
  refine x_aload_n C 0 dX12_isRangeOf_27 rfl rfl ?_
  obtain ⟨ht19, h1⟩ := h1
  refine x_getf_i (n := h) C rfl ht19 fd_150 (by decide) dX12_isRangeOf_28 ?_
  refine x_aload_n C 0 dX12_isRangeOf_31 rfl rfl ?_
  refine x_getf_r (n := h) C rfl ht19 fd_151 (by decide) dX12_isRangeOf_32 ?_
  refine x_iload_n C 1 dX12_isRangeOf_35 rfl rfl ?_
  obtain ⟨n20, hr21, h1⟩ := h1
  obtain ⟨z23, ht22, h1⟩ := h1
  obtain ⟨hi24, h1⟩ := h1
  refine x_iald (n := n20) C hr21 ht22 hi24 dX12_isRangeOf_36 ?_
  refine x_icmp_ge (tgt := 163) C dX12_isRangeOf_37 (by decide) (fun z9 => ?_) (fun z9 => ?_)
  · have h1 := h1.1 z9
    refine x_iload C 5 dX12_isRangeOf_163 rfl ?_
    exact x_zret C (Nat.le_of_ble_eq_true rfl) (Nat.le_of_ble_eq_true rfl) rfl h1.1 dX12_isRangeOf_165 (hg _ _ h1.2)
  · have h1 := h1.2 z9
    refine x_iconst (v := (1 : Int32)) C dX12_isRangeOf_40 (by decide) ?_
    refine x_istore (L' := [(6, xm_i (1 : Int32)), (0, xm_r (some h)), (1, xm_i x1), (2, xm_i x2), (3, xm_i x3), (4, xm_i x4), (5, xm_i x5)]) C dX12_isRangeOf_41 (by decide) rfl ?_
    refine x_iload C 5 dX12_isRangeOf_43 rfl ?_
    refine x_if_ne (tgt := 52) C dX12_isRangeOf_45 (by decide) (fun z9 => ?_) (fun z9 => ?_)
    · have h1 := h1.1 z9
      refine x_iconst (v := (0 : Int32)) C dX12_isRangeOf_52 (by decide) ?_
      refine x_keep (L' := [(0, xm_r (some h)), (1, xm_i x1), (2, xm_i x2), (3, xm_i x3), (4, xm_i x4), (5, xm_i x5), (6, xm_i (1 : Int32))]) C [1, 2, 3, 4, 5, 6, 0] rfl ?_
      exact kp_X12_isRangeOf_53 h x1 x2 x3 x4 x5 (1 : Int32) (0 : Int32) S C N hg hZ27 h1
    · have h1 := h1.2 z9
      refine x_iconst (v := (1 : Int32)) C dX12_isRangeOf_48 (by decide) ?_
      refine x_goto (tgt := 53) C dX12_isRangeOf_49 (by decide) ?_
      refine x_keep (L' := [(0, xm_r (some h)), (1, xm_i x1), (2, xm_i x2), (3, xm_i x3), (4, xm_i x4), (5, xm_i x5), (6, xm_i (1 : Int32))]) C [1, 2, 3, 4, 5, 6, 0] rfl ?_
      exact kp_X12_isRangeOf_53 h x1 x2 x3 x4 x5 (1 : Int32) (1 : Int32) S C N hg hZ27 h1
theorem kp_X12_isRangeOf_27 {K : xm_K} (h : Nat) (x1 : Int32) (x2 : Int32) (x3 : Int32) (x4 : Int32) (x5 : Int32) (S : xm_S) {g : Int32 → xm_S → Prop} (C : xm_Cx K cX12_isRangeOf RX12 10 (some (FieldType.boolean)) rm_X12_isRangeOf) (N : xm_Nx K) (hg : ∀ v S, g v S → xm_q K (some (xm_i v)) S)  (h1 : wp_X12_isRangeOf_27 h x1 x2 x3 x4 x5 S g) : xm_W K 0 0 27 [(0, xm_r (some h)), (1, xm_i x1), (2, xm_i x2), (3, xm_i x3), (4, xm_i x4), (5, xm_i x5)] [] S :=
  h1 (fun x1 x2 x3 x4 x5 S => xm_W K 0 0 27 [(0, xm_r (some h)), (1, xm_i x1), (2, xm_i x2), (3, xm_i x3), (4, xm_i x4), (5, xm_i x5)] [] S) (fun x1 x2 x3 x4 x5 S hb => kp_X12_isRangeOf_27B h x1 x2 x3 x4 x5 S C N hg (fun x1 x2 x3 x4 x5 S hz => hz) hb)
def wp_X12_isRangeOf_12 (h : Nat) (x1 : Int32) (x2 : Int32) (x3 : Int32) (s0 : Int32) (S : xm_S) (g : Int32 → xm_S → Prop) : Prop :=
  st_t S h = some (12, 0) ∧ ∀ S26, S26 = st_pi S h 61 x1 → ∀ S28, S28 = st_pi S26 h 60 (0 : Int32) → wp_X12_isRangeOf_27 h x1 x2 x3 s0 (0 : Int32) S28 g
set_option maxRecDepth 100000 in
set_option maxHeartbeats 4000000 in
theorem kp_X12_isRangeOf_12 {K : xm_K} (h : Nat) (x1 : Int32) (x2 : Int32) (x3 : Int32) (s0 : Int32) (S : xm_S) {g : Int32 → xm_S → Prop} (C : xm_Cx K cX12_isRangeOf RX12 10 (some (FieldType.boolean)) rm_X12_isRangeOf) (N : xm_Nx K) (hg : ∀ v S, g v S → xm_q K (some (xm_i v)) S)  (h1 : wp_X12_isRangeOf_12 h x1 x2 x3 s0 S g) : xm_W K 0 0 12 [(0, xm_r (some h)), (1, xm_i x1), (2, xm_i x2), (3, xm_i x3)] [xm_i s0] S := by
  unfold wp_X12_isRangeOf_12 at h1
  refine x_istore (L' := [(4, xm_i s0), (0, xm_r (some h)), (1, xm_i x1), (2, xm_i x2), (3, xm_i x3)]) C dX12_isRangeOf_12 (by decide) rfl ?_
  refine x_iconst (v := (0 : Int32)) C dX12_isRangeOf_14 (by decide) ?_
  refine x_istore (L' := [(5, xm_i (0 : Int32)), (4, xm_i s0), (0, xm_r (some h)), (1, xm_i x1), (2, xm_i x2), (3, xm_i x3)]) C dX12_isRangeOf_15 (by decide) rfl ?_
  refine x_aload_n C 2 dX12_isRangeOf_17 rfl rfl ?_
  refine x_iload_n C 3 dX12_isRangeOf_18 rfl rfl ?_
  obtain ⟨ht25, h1⟩ := h1
  refine x_putf_i (n := h) C rfl ht25 fd_152 xc_12 (by decide) rfl ⟨rfl, rfl⟩ dX12_isRangeOf_19 ?_
  refine x_topS (fun S26 e27 => ?_)
  have h1 := h1 S26 e27
  refine x_aload_n C 2 dX12_isRangeOf_22 rfl rfl ?_
  refine x_iconst (v := (0 : Int32)) C dX12_isRangeOf_23 (by decide) ?_
  refine x_putf_i (n := h) C rfl (tk_p e27 ht25) fd_150 xc_12 (by decide) rfl ⟨rfl, rfl⟩ dX12_isRangeOf_24 ?_
  refine x_topS (fun S28 e29 => ?_)
  have h1 := h1 S28 e29
  refine x_keep (L' := [(0, xm_r (some h)), (1, xm_i x1), (2, xm_i x2), (3, xm_i x3), (4, xm_i s0), (5, xm_i (0 : Int32))]) C [2, 3, 4, 5, 1, 0] rfl ?_
  exact kp_X12_isRangeOf_27 h x1 x2 x3 s0 (0 : Int32) S28 C N hg  h1
def wp_X12_isRangeOf (h : Nat) (x1 : Int32) (x2 : Int32) (x3 : Int32) (S : xm_S) (g : Int32 → xm_S → Prop) : Prop :=
  ((x3 - x3 / (nI 10) * (nI 10)) ≤ 0 → wp_X12_isRangeOf_12 h x1 x2 x3 (0 : Int32) S g) ∧ (¬ (x3 - x3 / (nI 10) * (nI 10)) ≤ 0 → wp_X12_isRangeOf_12 h x1 x2 x3 (1 : Int32) S g)
set_option maxRecDepth 100000 in
set_option maxHeartbeats 4000000 in
theorem kp_X12_isRangeOf {K : xm_K} (h : Nat) (x1 : Int32) (x2 : Int32) (x3 : Int32) (S : xm_S) {g : Int32 → xm_S → Prop} (C : xm_Cx K cX12_isRangeOf RX12 10 (some (FieldType.boolean)) rm_X12_isRangeOf) (N : xm_Nx K) (hg : ∀ v S, g v S → xm_q K (some (xm_i v)) S)  (h1 : wp_X12_isRangeOf h x1 x2 x3 S g) : xm_W K 0 0 0 [(0, xm_r (some h)), (1, xm_i x1), (2, xm_i x2), (3, xm_i x3)] [] S := by
  unfold wp_X12_isRangeOf at h1
  refine x_iload_n C 3 dX12_isRangeOf_0 rfl rfl ?_
  refine x_bipush (v := (nI 10)) C dX12_isRangeOf_1 (by decide) ?_
  refine x_irem C dX12_isRangeOf_3 (by decide) ?_
  refine x_if_le (tgt := 11) C dX12_isRangeOf_4 (by decide) (fun z9 => ?_) (fun z9 => ?_)
  · have h1 := h1.1 z9
    refine x_iconst (v := (0 : Int32)) C dX12_isRangeOf_11 (by decide) ?_
    exact kp_X12_isRangeOf_12 h x1 x2 x3 (0 : Int32) S C N hg  h1
  · have h1 := h1.2 z9
    refine x_iconst (v := (1 : Int32)) C dX12_isRangeOf_7 (by decide) ?_
    refine x_goto (tgt := 12) C dX12_isRangeOf_8 (by decide) ?_
    exact kp_X12_isRangeOf_12 h x1 x2 x3 (1 : Int32) S C N hg  h1
theorem kp_X12_isRangeOf_met {h : Nat} {x1 : Int32} {x2 : Int32} {x3 : Int32} {S : xm_S} {g : Int32 → xm_S → Prop}  (h1 : wp_X12_isRangeOf h x1 x2 x3 S g) : xm_Met yX12_isRangeOf cX12_isRangeOf 10 (some (FieldType.boolean)) rm_X12_isRangeOf [xm_r (some h), xm_i x1, xm_i x2, xm_i x3] S (xm_qi g) xm_nox :=
  xm_ofW RX12 (by decide +kernel) rfl (Nat.le_of_ble_eq_true rfl) (fun K C N hq hx hi => kp_X12_isRangeOf h x1 x2 x3 S C N (fun v S h => by rw [hq]; exact ⟨v, rfl, h⟩)  h1)
def rm_X12_advised : Room := { frames := 7, cells := 0, slots := 0, locals := 155 }
theorem dX12_advised_0 : decode cX12_advised 0 = .ok (.aload_n 0, 1) := by decide +kernel
theorem dX12_advised_1 : decode cX12_advised 1 = .ok (.iload_n 1, 1) := by decide +kernel
theorem dX12_advised_2 : decode cX12_advised 2 = .ok (.invokestatic 302, 3) := by decide +kernel
theorem dX12_advised_5 : decode cX12_advised 5 = .ok (.ifCond .ne 7, 3) := by decide +kernel
theorem dX12_advised_8 : decode cX12_advised 8 = .ok (.iconst 1, 1) := by decide +kernel
theorem dX12_advised_9 : decode cX12_advised 9 = .ok (.goto 18, 3) := by decide +kernel
theorem dX12_advised_12 : decode cX12_advised 12 = .ok (.iload_n 2, 1) := by decide +kernel
theorem dX12_advised_13 : decode cX12_advised 13 = .ok (.iconst 1, 1) := by decide +kernel
theorem dX12_advised_14 : decode cX12_advised 14 = .ok (.bipush 9, 2) := by decide +kernel
theorem dX12_advised_16 : decode cX12_advised 16 = .ok (.invokestatic 172, 3) := by decide +kernel
theorem dX12_advised_19 : decode cX12_advised 19 = .ok (.ifCond .eq 7, 3) := by decide +kernel
theorem dX12_advised_22 : decode cX12_advised 22 = .ok (.iconst 0, 1) := by decide +kernel
theorem dX12_advised_23 : decode cX12_advised 23 = .ok (.goto 4, 3) := by decide +kernel
theorem dX12_advised_26 : decode cX12_advised 26 = .ok (.iconst 2, 1) := by decide +kernel
theorem dX12_advised_27 : decode cX12_advised 27 = .ok (.invokevirtual 182, 3) := by decide +kernel
theorem dX12_advised_30 : decode cX12_advised 30 = .ok (.ifCond .ne 5, 3) := by decide +kernel
theorem dX12_advised_33 : decode cX12_advised 33 = .ok (.iconst 0, 1) := by decide +kernel
theorem dX12_advised_34 : decode cX12_advised 34 = .ok (.ireturn, 1) := by decide +kernel
theorem dX12_advised_35 : decode cX12_advised 35 = .ok (.iconst 0, 1) := by decide +kernel
theorem dX12_advised_36 : decode cX12_advised 36 = .ok (.istore_n 3, 1) := by decide +kernel
theorem dX12_advised_37 : decode cX12_advised 37 = .ok (.iconst 0, 1) := by decide +kernel
theorem dX12_advised_38 : decode cX12_advised 38 = .ok (.istore 4, 2) := by decide +kernel
theorem dX12_advised_40 : decode cX12_advised 40 = .ok (.iload 4, 2) := by decide +kernel
theorem dX12_advised_42 : decode cX12_advised 42 = .ok (.aload_n 0, 1) := by decide +kernel
theorem dX12_advised_43 : decode cX12_advised 43 = .ok (.getfield 317, 3) := by decide +kernel
theorem dX12_advised_46 : decode cX12_advised 46 = .ok (.if_icmp .ge 104, 3) := by decide +kernel
theorem dX12_advised_49 : decode cX12_advised 49 = .ok (.aload_n 0, 1) := by decide +kernel
theorem dX12_advised_50 : decode cX12_advised 50 = .ok (.getfield 68, 3) := by decide +kernel
theorem dX12_advised_53 : decode cX12_advised 53 = .ok (.iload 4, 2) := by decide +kernel
theorem dX12_advised_55 : decode cX12_advised 55 = .ok (.iaload, 1) := by decide +kernel
theorem dX12_advised_56 : decode cX12_advised 56 = .ok (.istore 5, 2) := by decide +kernel
theorem dX12_advised_58 : decode cX12_advised 58 = .ok (.aload_n 0, 1) := by decide +kernel
theorem dX12_advised_59 : decode cX12_advised 59 = .ok (.getfield 90, 3) := by decide +kernel
theorem dX12_advised_62 : decode cX12_advised 62 = .ok (.bipush 6, 2) := by decide +kernel
theorem dX12_advised_64 : decode cX12_advised 64 = .ok (.iload_n 1, 1) := by decide +kernel
theorem dX12_advised_65 : decode cX12_advised 65 = .ok (.imul, 1) := by decide +kernel
theorem dX12_advised_66 : decode cX12_advised 66 = .ok (.iload 5, 2) := by decide +kernel
theorem dX12_advised_68 : decode cX12_advised 68 = .ok (.iadd, 1) := by decide +kernel
theorem dX12_advised_69 : decode cX12_advised 69 = .ok (.iaload, 1) := by decide +kernel
theorem dX12_advised_70 : decode cX12_advised 70 = .ok (.istore 6, 2) := by decide +kernel
theorem dX12_advised_72 : decode cX12_advised 72 = .ok (.iload 6, 2) := by decide +kernel
theorem dX12_advised_74 : decode cX12_advised 74 = .ok (.iconst (-1), 1) := by decide +kernel
theorem dX12_advised_75 : decode cX12_advised 75 = .ok (.if_icmp .eq 50, 3) := by decide +kernel
theorem dX12_advised_78 : decode cX12_advised 78 = .ok (.aload_n 0, 1) := by decide +kernel
theorem dX12_advised_79 : decode cX12_advised 79 = .ok (.getfield 71, 3) := by decide +kernel
theorem dX12_advised_82 : decode cX12_advised 82 = .ok (.iload 4, 2) := by decide +kernel
theorem dX12_advised_84 : decode cX12_advised 84 = .ok (.iaload, 1) := by decide +kernel
theorem dX12_advised_85 : decode cX12_advised 85 = .ok (.iload_n 2, 1) := by decide +kernel
theorem dX12_advised_86 : decode cX12_advised 86 = .ok (.if_icmp .lt 39, 3) := by decide +kernel
theorem dX12_advised_89 : decode cX12_advised 89 = .ok (.aload_n 0, 1) := by decide +kernel
theorem dX12_advised_90 : decode cX12_advised 90 = .ok (.sipush 148, 3) := by decide +kernel
theorem dX12_advised_93 : decode cX12_advised 93 = .ok (.iload 4, 2) := by decide +kernel
theorem dX12_advised_95 : decode cX12_advised 95 = .ok (.iadd, 1) := by decide +kernel
theorem dX12_advised_96 : decode cX12_advised 96 = .ok (.aload_n 0, 1) := by decide +kernel
theorem dX12_advised_97 : decode cX12_advised 97 = .ok (.getfield 7, 3) := by decide +kernel
theorem dX12_advised_100 : decode cX12_advised 100 = .ok (.iload 5, 2) := by decide +kernel
theorem dX12_advised_102 : decode cX12_advised 102 = .ok (.iaload, 1) := by decide +kernel
theorem dX12_advised_103 : decode cX12_advised 103 = .ok (.aload_n 0, 1) := by decide +kernel
theorem dX12_advised_104 : decode cX12_advised 104 = .ok (.getfield 16, 3) := by decide +kernel
theorem dX12_advised_107 : decode cX12_advised 107 = .ok (.iconst 4, 1) := by decide +kernel
theorem dX12_advised_108 : decode cX12_advised 108 = .ok (.iload 5, 2) := by decide +kernel
theorem dX12_advised_110 : decode cX12_advised 110 = .ok (.imul, 1) := by decide +kernel
theorem dX12_advised_111 : decode cX12_advised 111 = .ok (.iload 6, 2) := by decide +kernel
theorem dX12_advised_113 : decode cX12_advised 113 = .ok (.iadd, 1) := by decide +kernel
theorem dX12_advised_114 : decode cX12_advised 114 = .ok (.iaload, 1) := by decide +kernel
theorem dX12_advised_115 : decode cX12_advised 115 = .ok (.invokevirtual 251, 3) := by decide +kernel
theorem dX12_advised_118 : decode cX12_advised 118 = .ok (.ifCond .eq 7, 3) := by decide +kernel
theorem dX12_advised_121 : decode cX12_advised 121 = .ok (.iconst 1, 1) := by decide +kernel
theorem dX12_advised_122 : decode cX12_advised 122 = .ok (.goto 4, 3) := by decide +kernel
theorem dX12_advised_125 : decode cX12_advised 125 = .ok (.iconst 0, 1) := by decide +kernel
theorem dX12_advised_126 : decode cX12_advised 126 = .ok (.istore 7, 2) := by decide +kernel
theorem dX12_advised_128 : decode cX12_advised 128 = .ok (.iload_n 3, 1) := by decide +kernel
theorem dX12_advised_129 : decode cX12_advised 129 = .ok (.iload 7, 2) := by decide +kernel
theorem dX12_advised_131 : decode cX12_advised 131 = .ok (.ifCond .eq 10, 3) := by decide +kernel
theorem dX12_advised_134 : decode cX12_advised 134 = .ok (.iconst 1, 1) := by decide +kernel
theorem dX12_advised_135 : decode cX12_advised 135 = .ok (.iload 5, 2) := by decide +kernel
theorem dX12_advised_137 : decode cX12_advised 137 = .ok (.ishl, 1) := by decide +kernel
theorem dX12_advised_138 : decode cX12_advised 138 = .ok (.goto 4, 3) := by decide +kernel
theorem dX12_advised_141 : decode cX12_advised 141 = .ok (.iconst 0, 1) := by decide +kernel
theorem dX12_advised_142 : decode cX12_advised 142 = .ok (.ior, 1) := by decide +kernel
theorem dX12_advised_143 : decode cX12_advised 143 = .ok (.istore_n 3, 1) := by decide +kernel
theorem dX12_advised_144 : decode cX12_advised 144 = .ok (.iinc 4 1, 3) := by decide +kernel
theorem dX12_advised_147 : decode cX12_advised 147 = .ok (.goto (-107), 3) := by decide +kernel
theorem dX12_advised_150 : decode cX12_advised 150 = .ok (.iload_n 3, 1) := by decide +kernel
theorem dX12_advised_151 : decode cX12_advised 151 = .ok (.ireturn, 1) := by decide +kernel
def wp_X12_advised_142 (h : Nat) (x1 : Int32) (x2 : Int32) (x4 : Int32) (s0 : Int32) (s1 : Int32) (S : xm_S) (g : Int32 → xm_S → Prop) (Z40 : Int32 → Int32 → Int32 → Int32 → xm_S → Prop) : Prop :=
  ∀ y1, y1 = (s1 ||| s0) → ∀ y3, y3 = (x4 + (1 : Int32)) → Z40 x1 x2 y1 y3 S
set_option maxRecDepth 100000 in
set_option maxHeartbeats 4000000 in
theorem kp_X12_advised_142 {K : xm_K} (h : Nat) (x1 : Int32) (x2 : Int32) (x4 : Int32) (s0 : Int32) (s1 : Int32) (S : xm_S) {g : Int32 → xm_S → Prop} {Z40 : Int32 → Int32 → Int32 → Int32 → xm_S → Prop} (C : xm_Cx K cX12_advised RX12 8 (some (FieldType.int)) rm_X12_advised) (N : xm_Nx K) (hg : ∀ v S, g v S → xm_q K (some (xm_i v)) S) (hZ40 : ∀ x1 x2 x3 x4 S, Z40 x1 x2 x3 x4 S → xm_W K 0 0 40 [(0, xm_r (some h)), (1, xm_i x1), (2, xm_i x2), (3, xm_i x3), (4, xm_i x4)] [] S) (h1 : wp_X12_advised_142 h x1 x2 x4 s0 s1 S g Z40) : xm_W K 0 0 142 [(0, xm_r (some h)), (1, xm_i x1), (2, xm_i x2), (4, xm_i x4)] [xm_i s0, xm_i s1] S := by
  unfold wp_X12_advised_142 at h1
  refine x_ior C dX12_advised_142 ?_
  refine x_topi (fun y1 e2 => ?_)
  have h1 := h1 y1 e2
  refine x_istore_n (L' := [(3, xm_i y1), (0, xm_r (some h)), (1, xm_i x1), (2, xm_i x2), (4, xm_i x4)]) C dX12_advised_143 rfl (by decide) rfl ?_
  obtain ⟨y3, e4⟩ : ∃ y3, y3 = (x4 + (1 : Int32)) := ⟨_, rfl⟩
  have h1 := h1 y3 e4
  refine x_iinc (v := y3) (L' := [(4, xm_i y3), (3, xm_i y1), (0, xm_r (some h)), (1, xm_i x1), (2, xm_i x2)]) C 4 dX12_advised_144 rfl (by rw [e4]; rfl) (by decide) rfl ?_
  refine x_goto (tgt := 40) C dX12_advised_147 (by decide) ?_
  refine x_keep (L' := [(0, xm_r (some h)), (1, xm_i x1), (2, xm_i x2), (3, xm_i y1), (4, xm_i y3)]) C [2, 3, 4, 1, 0] rfl ?_
  exact hZ40 x1 x2 y1 y3 S h1
def wp_X12_advised_126 (h : Nat) (x1 : Int32) (x2 : Int32) (x3 : Int32) (x4 : Int32) (x5 : Int32) (s0 : Int32) (S : xm_S) (g : Int32 → xm_S → Prop) (Z40 : Int32 → Int32 → Int32 → Int32 → xm_S → Prop) : Prop :=
  (s0 = 0 → wp_X12_advised_142 h x1 x2 x4 (0 : Int32) x3 S g Z40) ∧ (¬ s0 = 0 → wp_X12_advised_142 h x1 x2 x4 ((1 : Int32) <<< (x5 &&& 31)) x3 S g Z40)
set_option maxRecDepth 100000 in
set_option maxHeartbeats 4000000 in
theorem kp_X12_advised_126 {K : xm_K} (h : Nat) (x1 : Int32) (x2 : Int32) (x3 : Int32) (x4 : Int32) (x5 : Int32) (s0 : Int32) (S : xm_S) {g : Int32 → xm_S → Prop} {Z40 : Int32 → Int32 → Int32 → Int32 → xm_S → Prop} (C : xm_Cx K cX12_advised RX12 8 (some (FieldType.int)) rm_X12_advised) (N : xm_Nx K) (hg : ∀ v S, g v S → xm_q K (some (xm_i v)) S) (hZ40 : ∀ x1 x2 x3 x4 S, Z40 x1 x2 x3 x4 S → xm_W K 0 0 40 [(0, xm_r (some h)), (1, xm_i x1), (2, xm_i x2), (3, xm_i x3), (4, xm_i x4)] [] S) (h1 : wp_X12_advised_126 h x1 x2 x3 x4 x5 s0 S g Z40) : xm_W K 0 0 126 [(0, xm_r (some h)), (1, xm_i x1), (2, xm_i x2), (3, xm_i x3), (4, xm_i x4), (5, xm_i x5)] [xm_i s0] S := by
  unfold wp_X12_advised_126 at h1
  refine x_istore (L' := [(7, xm_i s0), (0, xm_r (some h)), (1, xm_i x1), (2, xm_i x2), (3, xm_i x3), (4, xm_i x4), (5, xm_i x5)]) C dX12_advised_126 (by decide) rfl ?_
  refine x_iload_n C 4 dX12_advised_128 rfl rfl ?_
  refine x_iload C 0 dX12_advised_129 rfl ?_
  refine x_if_eq (tgt := 141) C dX12_advised_131 (by decide) (fun z9 => ?_) (fun z9 => ?_)
  · have h1 := h1.1 z9
    refine x_iconst (v := (0 : Int32)) C dX12_advised_141 (by decide) ?_
    refine x_keep (L' := [(0, xm_r (some h)), (1, xm_i x1), (2, xm_i x2), (4, xm_i x4)]) C [1, 2, 3, 5] rfl ?_
    exact kp_X12_advised_142 h x1 x2 x4 (0 : Int32) x3 S C N hg hZ40 h1
  · have h1 := h1.2 z9
    refine x_iconst (v := (1 : Int32)) C dX12_advised_134 (by decide) ?_
    refine x_iload C 6 dX12_advised_135 rfl ?_
    refine x_ishl C dX12_advised_137 ?_
    refine x_goto (tgt := 142) C dX12_advised_138 (by decide) ?_
    refine x_keep (L' := [(0, xm_r (some h)), (1, xm_i x1), (2, xm_i x2), (4, xm_i x4)]) C [1, 2, 3, 5] rfl ?_
    exact kp_X12_advised_142 h x1 x2 x4 ((1 : Int32) <<< (x5 &&& 31)) x3 S C N hg hZ40 h1
def wp_X12_advised_125 (h : Nat) (x1 : Int32) (x2 : Int32) (x3 : Int32) (x4 : Int32) (x5 : Int32) (S : xm_S) (g : Int32 → xm_S → Prop) (Z40 : Int32 → Int32 → Int32 → Int32 → xm_S → Prop) : Prop :=
  wp_X12_advised_126 h x1 x2 x3 x4 x5 (0 : Int32) S g Z40
set_option maxRecDepth 100000 in
set_option maxHeartbeats 4000000 in
theorem kp_X12_advised_125 {K : xm_K} (h : Nat) (x1 : Int32) (x2 : Int32) (x3 : Int32) (x4 : Int32) (x5 : Int32) (S : xm_S) {g : Int32 → xm_S → Prop} {Z40 : Int32 → Int32 → Int32 → Int32 → xm_S → Prop} (C : xm_Cx K cX12_advised RX12 8 (some (FieldType.int)) rm_X12_advised) (N : xm_Nx K) (hg : ∀ v S, g v S → xm_q K (some (xm_i v)) S) (hZ40 : ∀ x1 x2 x3 x4 S, Z40 x1 x2 x3 x4 S → xm_W K 0 0 40 [(0, xm_r (some h)), (1, xm_i x1), (2, xm_i x2), (3, xm_i x3), (4, xm_i x4)] [] S) (h1 : wp_X12_advised_125 h x1 x2 x3 x4 x5 S g Z40) : xm_W K 0 0 125 [(0, xm_r (some h)), (1, xm_i x1), (2, xm_i x2), (3, xm_i x3), (4, xm_i x4), (5, xm_i x5)] [] S := by
  unfold wp_X12_advised_125 at h1
  refine x_iconst (v := (0 : Int32)) C dX12_advised_125 (by decide) ?_
  exact kp_X12_advised_126 h x1 x2 x3 x4 x5 (0 : Int32) S C N hg hZ40 h1
def wp_X12_advised_40B (h : Nat) (x1 : Int32) (x2 : Int32) (x3 : Int32) (x4 : Int32) (S : xm_S) (g : Int32 → xm_S → Prop) (Z40 : Int32 → Int32 → Int32 → Int32 → xm_S → Prop) : Prop :=
  st_t S h = some (12, 0) ∧ ((st_i S h 21) ≤ x4 → g x3 S) ∧ (¬ (st_i S h 21) ≤ x4 → ∃ n6, (st_r S h 22) = some n6 ∧ ∃ z9, st_t S n6 = some (100, z9) ∧ vp_in x4 z9 ∧ ∀ y11, y11 = (st_i S n6 (x4).toNatClampNeg) → ∃ n13, (st_r S h 29) = some n13 ∧ ∃ z16, st_t S n13 = some (100, z16) ∧ vp_in (((nI 6) * x1) + y11) z16 ∧ ∀ y18, y18 = (st_i S n13 ((((nI 6) * x1) + y11)).toNatClampNeg) → (y18 = (-1 : Int32) → wp_X12_advised_125 h x1 x2 x3 x4 y11 S g Z40) ∧ (¬ y18 = (-1 : Int32) → ∃ n20, (st_r S h 23) = some n20 ∧ ∃ z23, st_t S n20 = some (100, z23) ∧ vp_in x4 z23 ∧ ((st_i S n20 (x4).toNatClampNeg) < x2 → wp_X12_advised_125 h x1 x2 x3 x4 y11 S g Z40) ∧ (¬ (st_i S n20 (x4).toNatClampNeg) < x2 → ∃ n25, (st_r S h 1) = some n25 ∧ ∃ z28, st_t S n25 = some (100, z28) ∧ vp_in y11 z28 ∧ ∃ n30, (st_r S h 3) = some n30 ∧ ∃ z33, st_t S n30 = some (100, z33) ∧ vp_in (((nI 4) * y11) + y18) z33 ∧ wp_X12_isRangeOf h ((nI 148) + x4) (st_i S n25 (y11).toNatClampNeg) (st_i S n30 ((((nI 4) * y11) + y18)).toNatClampNeg) S (fun r36 S35 => (r36 = 0 → wp_X12_advised_125 h x1 x2 x3 x4 y11 S35 g Z40) ∧ (¬ r36 = 0 → wp_X12_advised_126 h x1 x2 x3 x4 y11 (1 : Int32) S35 g Z40)))))
def wp_X12_advised_40 (h : Nat) (x1 : Int32) (x2 : Int32) (x3 : Int32) (x4 : Int32) (S : xm_S) (g : Int32 → xm_S → Prop) : Prop :=
  ∀ Z40 : Int32 → Int32 → Int32 → Int32 → xm_S → Prop, (∀ x1 x2 x3 x4 S, wp_X12_advised_40B h x1 x2 x3 x4 S g Z40 → Z40 x1 x2 x3 x4 S) → Z40 x1 x2 x3 x4 S
set_option maxRecDepth 100000 in
set_option maxHeartbeats 4000000 in
theorem kp_X12_advised_40B {K : xm_K} (h : Nat) (x1 : Int32) (x2 : Int32) (x3 : Int32) (x4 : Int32) (S : xm_S) {g : Int32 → xm_S → Prop} {Z40 : Int32 → Int32 → Int32 → Int32 → xm_S → Prop} (C : xm_Cx K cX12_advised RX12 8 (some (FieldType.int)) rm_X12_advised) (N : xm_Nx K) (hg : ∀ v S, g v S → xm_q K (some (xm_i v)) S) (hZ40 : ∀ x1 x2 x3 x4 S, Z40 x1 x2 x3 x4 S → xm_W K 0 0 40 [(0, xm_r (some h)), (1, xm_i x1), (2, xm_i x2), (3, xm_i x3), (4, xm_i x4)] [] S) (h1 : wp_X12_advised_40B h x1 x2 x3 x4 S g Z40) : xm_W K 0 0 40 [(0, xm_r (some h)), (1, xm_i x1), (2, xm_i x2), (3, xm_i x3), (4, xm_i x4)] [] S := by
  unfold wp_X12_advised_40B at h1
  refine x_iload C 4 dX12_advised_40 rfl ?_
  refine x_aload_n C 0 dX12_advised_42 rfl rfl ?_
  obtain ⟨ht5, h1⟩ := h1
  refine x_getf_i (n := h) C rfl ht5 fd_159 (by decide) dX12_advised_43 ?_
  refine x_icmp_ge (tgt := 150) C dX12_advised_46 (by decide) (fun z9 => ?_) (fun z9 => ?_)
  · have h1 := h1.1 z9
    refine x_iload_n C 3 dX12_advised_150 rfl rfl ?_
    exact x_iret C (Nat.le_of_ble_eq_true rfl) (Nat.le_of_ble_eq_true rfl) rfl dX12_advised_151 (hg _ _ h1)
  · have h1 := h1.2 z9
    refine x_aload_n C 0 dX12_advised_49 rfl rfl ?_
    refine x_getf_r (n := h) C rfl ht5 fd_158 (by decide) dX12_advised_50 ?_
    refine x_iload C 4 dX12_advised_53 rfl ?_
    obtain ⟨n6, hr7, h1⟩ := h1
    obtain ⟨z9, ht8, h1⟩ := h1
    obtain ⟨hi10, h1⟩ := h1
    refine x_iald (n := n6) C hr7 ht8 hi10 dX12_advised_55 ?_
    refine x_topi (fun y11 e12 => ?_)
    have h1 := h1 y11 e12
    refine x_istore (L' := [(5, xm_i y11), (0, xm_r (some h)), (1, xm_i x1), (2, xm_i x2), (3, xm_i x3), (4, xm_i x4)]) C dX12_advised_56 (by decide) rfl ?_
    refine x_aload_n C 1 dX12_advised_58 rfl rfl ?_
    refine x_getf_r (n := h) C rfl ht5 fd_161 (by decide) dX12_advised_59 ?_
    refine x_bipush (v := (nI 6)) C dX12_advised_62 (by decide) ?_
    refine x_iload_n C 2 dX12_advised_64 rfl rfl ?_
    refine x_imul C dX12_advised_65 ?_
    refine x_iload C 0 dX12_advised_66 rfl ?_
    refine x_iadd C dX12_advised_68 ?_
    obtain ⟨n13, hr14, h1⟩ := h1
    obtain ⟨z16, ht15, h1⟩ := h1
    obtain ⟨hi17, h1⟩ := h1
    refine x_iald (n := n13) C hr14 ht15 hi17 dX12_advised_69 ?_
    refine x_topi (fun y18 e19 => ?_)
    have h1 := h1 y18 e19
    refine x_istore (L' := [(6, xm_i y18), (5, xm_i y11), (0, xm_r (some h)), (1, xm_i x1), (2, xm_i x2), (3, xm_i x3), (4, xm_i x4)]) C dX12_advised_70 (by decide) rfl ?_
    refine x_iload C 0 dX12_advised_72 rfl ?_
    refine x_iconst (v := (-1 : Int32)) C dX12_advised_74 (by decide) ?_
    refine x_icmp_eq (tgt := 125) C dX12_advised_75 (by decide) (fun z9 => ?_) (fun z9 => ?_)
    · have h1 := h1.1 z9
      refine x_keep (L' := [(0, xm_r (some h)), (1, xm_i x1), (2, xm_i x2), (3, xm_i x3), (4, xm_i x4), (5, xm_i y11)]) C [2, 3, 4, 5, 6, 1] rfl ?_
      exact kp_X12_advised_125 h x1 x2 x3 x4 y11 S C N hg hZ40 h1
    · have h1 := h1.2 z9
      refine x_aload_n C 2 dX12_advised_78 rfl rfl ?_
      refine x_getf_r (n := h) C rfl ht5 fd_160 (by decide) dX12_advised_79 ?_
      refine x_iload C 6 dX12_advised_82 rfl ?_
      obtain ⟨n20, hr21, h1⟩ := h1
      obtain ⟨z23, ht22, h1⟩ := h1
      obtain ⟨hi24, h1⟩ := h1
      refine x_iald (n := n20) C hr21 ht22 hi24 dX12_advised_84 ?_
      refine x_iload_n C 4 dX12_advised_85 rfl rfl ?_
      refine x_icmp_lt (tgt := 125) C dX12_advised_86 (by decide) (fun z9 => ?_) (fun z9 => ?_)
      · have h1 := h1.1 z9
        refine x_keep (L' := [(0, xm_r (some h)), (1, xm_i x1), (2, xm_i x2), (3, xm_i x3), (4, xm_i x4), (5, xm_i y11)]) C [2, 3, 4, 5, 6, 1] rfl ?_
        exact kp_X12_advised_125 h x1 x2 x3 x4 y11 S C N hg hZ40 h1
      · have h1 := h1.2 z9
        refine x_aload_n C 2 dX12_advised_89 rfl rfl ?_
        refine x_sipush (v := (nI 148)) C dX12_advised_90 (by decide) ?_
        refine x_iload C 6 dX12_advised_93 rfl ?_
        refine x_iadd C dX12_advised_95 ?_
        refine x_aload_n C 2 dX12_advised_96 rfl rfl ?_
        refine x_getf_r (n := h) C rfl ht5 fd_162 (by decide) dX12_advised_97 ?_
        refine x_iload C 1 dX12_advised_100 rfl ?_
        obtain ⟨n25, hr26, h1⟩ := h1
        obtain ⟨z28, ht27, h1⟩ := h1
        obtain ⟨hi29, h1⟩ := h1
        refine x_iald (n := n25) C hr26 ht27 hi29 dX12_advised_102 ?_
        refine x_aload_n C 2 dX12_advised_103 rfl rfl ?_
        refine x_getf_r (n := h) C rfl ht5 fd_163 (by decide) dX12_advised_104 ?_
        refine x_iconst (v := (nI 4)) C dX12_advised_107 (by decide) ?_
        refine x_iload C 1 dX12_advised_108 rfl ?_
        refine x_imul C dX12_advised_110 ?_
        refine x_iload C 0 dX12_advised_111 rfl ?_
        refine x_iadd C dX12_advised_113 ?_
        obtain ⟨n30, hr31, h1⟩ := h1
        obtain ⟨z33, ht32, h1⟩ := h1
        obtain ⟨hi34, h1⟩ := h1
        refine x_iald (n := n30) C hr31 ht32 hi34 dX12_advised_114 ?_
        refine x_callV (rm' := rm_X12_isRangeOf) (n := h) C (kp_X12_isRangeOf_met h1) lk_79 gw_484 gw_485 xv_12 rfl rfl ht5 rfl (Nat.le_of_ble_eq_true rfl) ⟨Nat.le_of_ble_eq_true rfl, Nat.le_of_ble_eq_true rfl, (Nat.le_of_ble_eq_true rfl), (Nat.le_of_ble_eq_true rfl)⟩ dX12_advised_115 xm_kx (xm_ki (fun r36 S35 h1 => ?_))
        refine x_if_eq (tgt := 125) C dX12_advised_118 (by decide) (fun z9 => ?_) (fun z9 => ?_)
        · have h1 := h1.1 z9
          refine x_keep (L' := [(0, xm_r (some h)), (1, xm_i x1), (2, xm_i x2), (3, xm_i x3), (4, xm_i x4), (5, xm_i y11)]) C [2, 3, 4, 5, 6, 1] rfl ?_
          exact kp_X12_advised_125 h x1 x2 x3 x4 y11 S35 C N hg hZ40 h1
        · have h1 := h1.2 z9
          refine x_iconst (v := (1 : Int32)) C dX12_advised_121 (by decide) ?_
          refine x_goto (tgt := 126) C dX12_advised_122 (by decide) ?_
          refine x_keep (L' := [(0, xm_r (some h)), (1, xm_i x1), (2, xm_i x2), (3, xm_i x3), (4, xm_i x4), (5, xm_i y11)]) C [2, 3, 4, 5, 6, 1] rfl ?_
          exact kp_X12_advised_126 h x1 x2 x3 x4 y11 (1 : Int32) S35 C N hg hZ40 h1
theorem kp_X12_advised_40 {K : xm_K} (h : Nat) (x1 : Int32) (x2 : Int32) (x3 : Int32) (x4 : Int32) (S : xm_S) {g : Int32 → xm_S → Prop} (C : xm_Cx K cX12_advised RX12 8 (some (FieldType.int)) rm_X12_advised) (N : xm_Nx K) (hg : ∀ v S, g v S → xm_q K (some (xm_i v)) S)  (h1 : wp_X12_advised_40 h x1 x2 x3 x4 S g) : xm_W K 0 0 40 [(0, xm_r (some h)), (1, xm_i x1), (2, xm_i x2), (3, xm_i x3), (4, xm_i x4)] [] S :=
  h1 (fun x1 x2 x3 x4 S => xm_W K 0 0 40 [(0, xm_r (some h)), (1, xm_i x1), (2, xm_i x2), (3, xm_i x3), (4, xm_i x4)] [] S) (fun x1 x2 x3 x4 S hb => kp_X12_advised_40B h x1 x2 x3 x4 S C N hg (fun x1 x2 x3 x4 S hz => hz) hb)
def wp_X12_advised_27 (h : Nat) (x1 : Int32) (x2 : Int32) (s0 : Int32) (s1 : Option Nat) (S : xm_S) (g : Int32 → xm_S → Prop) : Prop :=
  ∃ n37, s1 = some n37 ∧ st_t S n37 = some (12, 0) ∧ wp_X12_may n37 s0 S (fun r41 S40 => (¬ r41 = 0 → wp_X12_advised_40 h x1 x2 (0 : Int32) (0 : Int32) S40 g) ∧ (r41 = 0 → g (0 : Int32) S40))
set_option maxRecDepth 100000 in
set_option maxHeartbeats 4000000 in
theorem kp_X12_advised_27 {K : xm_K} (h : Nat) (x1 : Int32) (x2 : Int32) (s0 : Int32) (s1 : Option Nat) (S : xm_S) {g : Int32 → xm_S → Prop} (C : xm_Cx K cX12_advised RX12 8 (some (FieldType.int)) rm_X12_advised) (N : xm_Nx K) (hg : ∀ v S, g v S → xm_q K (some (xm_i v)) S)  (h1 : wp_X12_advised_27 h x1 x2 s0 s1 S g) : xm_W K 0 0 27 [(0, xm_r (some h)), (1, xm_i x1), (2, xm_i x2)] [xm_i s0, xm_r s1] S := by
  unfold wp_X12_advised_27 at h1
  obtain ⟨n37, hr38, h1⟩ := h1
  obtain ⟨ht39, h1⟩ := h1
  refine x_callV (rm' := rm_X12_may) (n := n37) C (kp_X12_may_met h1) lk_71 gw_449 gw_450 xv_12 rfl hr38 ht39 rfl (Nat.le_of_ble_eq_true rfl) ⟨Nat.le_of_ble_eq_true rfl, Nat.le_of_ble_eq_true rfl, (Nat.le_of_ble_eq_true rfl), (Nat.le_of_ble_eq_true rfl)⟩ dX12_advised_27 xm_kx (xm_ki (fun r41 S40 h1 => ?_))
  refine x_if_ne (tgt := 35) C dX12_advised_30 (by decide) (fun z9 => ?_) (fun z9 => ?_)
  · have h1 := h1.1 z9
    refine x_iconst (v := (0 : Int32)) C dX12_advised_35 (by decide) ?_
    refine x_istore_n (L' := [(3, xm_i (0 : Int32)), (0, xm_r (some h)), (1, xm_i x1), (2, xm_i x2)]) C dX12_advised_36 rfl (by decide) rfl ?_
    refine x_iconst (v := (0 : Int32)) C dX12_advised_37 (by decide) ?_
    refine x_istore (L' := [(4, xm_i (0 : Int32)), (3, xm_i (0 : Int32)), (0, xm_r (some h)), (1, xm_i x1), (2, xm_i x2)]) C dX12_advised_38 (by decide) rfl ?_
    refine x_keep (L' := [(0, xm_r (some h)), (1, xm_i x1), (2, xm_i x2), (3, xm_i (0 : Int32)), (4, xm_i (0 : Int32))]) C [2, 3, 4, 1, 0] rfl ?_
    exact kp_X12_advised_40 h x1 x2 (0 : Int32) (0 : Int32) S40 C N hg  h1
  · have h1 := h1.2 z9
    refine x_iconst (v := (0 : Int32)) C dX12_advised_33 (by decide) ?_
    exact x_iret C (Nat.le_of_ble_eq_true rfl) (Nat.le_of_ble_eq_true rfl) rfl dX12_advised_34 (hg _ _ h1)
def wp_X12_advised (h : Nat) (x1 : Int32) (x2 : Int32) (S : xm_S) (g : Int32 → xm_S → Prop) : Prop :=
  wp_X12_isPlatform x1 S (fun r43 S42 => (¬ r43 = 0 → wp_X12_in x2 (1 : Int32) (nI 9) S42 (fun r45 S44 => (r45 = 0 → wp_X12_advised_27 h x1 x2 (nI 2) (some h) S44 g) ∧ (¬ r45 = 0 → wp_X12_advised_27 h x1 x2 (0 : Int32) (some h) S44 g))) ∧ (r43 = 0 → wp_X12_advised_27 h x1 x2 (1 : Int32) (some h) S42 g))
set_option maxRecDepth 100000 in
set_option maxHeartbeats 4000000 in
theorem kp_X12_advised {K : xm_K} (h : Nat) (x1 : Int32) (x2 : Int32) (S : xm_S) {g : Int32 → xm_S → Prop} (C : xm_Cx K cX12_advised RX12 8 (some (FieldType.int)) rm_X12_advised) (N : xm_Nx K) (hg : ∀ v S, g v S → xm_q K (some (xm_i v)) S)  (h1 : wp_X12_advised h x1 x2 S g) : xm_W K 0 0 0 [(0, xm_r (some h)), (1, xm_i x1), (2, xm_i x2)] [] S := by
  unfold wp_X12_advised at h1
  refine x_aload_n C 0 dX12_advised_0 rfl rfl ?_
  refine x_iload_n C 1 dX12_advised_1 rfl rfl ?_
  refine x_callS (rm' := rm_X12_isPlatform) C (kp_X12_isPlatform_met h1) lk_80 gw_488 rfl (Nat.le_of_ble_eq_true rfl) ⟨Nat.le_of_ble_eq_true rfl, Nat.le_of_ble_eq_true rfl, (Nat.le_of_ble_eq_true rfl), (Nat.le_of_ble_eq_true rfl)⟩ dX12_advised_2 xm_kx (xm_ki (fun r43 S42 h1 => ?_))
  refine x_if_ne (tgt := 12) C dX12_advised_5 (by decide) (fun z9 => ?_) (fun z9 => ?_)
  · have h1 := h1.1 z9
    refine x_iload_n C 2 dX12_advised_12 rfl rfl ?_
    refine x_iconst (v := (1 : Int32)) C dX12_advised_13 (by decide) ?_
    refine x_bipush (v := (nI 9)) C dX12_advised_14 (by decide) ?_
    refine x_callS (rm' := rm_X12_in) C (kp_X12_in_met h1) lk_63 gw_410 rfl (Nat.le_of_ble_eq_true rfl) ⟨Nat.le_of_ble_eq_true rfl, Nat.le_of_ble_eq_true rfl, (Nat.le_of_ble_eq_true rfl), (Nat.le_of_ble_eq_true rfl)⟩ dX12_advised_16 xm_kx (xm_ki (fun r45 S44 h1 => ?_))
    refine x_if_eq (tgt := 26) C dX12_advised_19 (by decide) (fun z9 => ?_) (fun z9 => ?_)
    · have h1 := h1.1 z9
      refine x_iconst (v := (nI 2)) C dX12_advised_26 (by decide) ?_
      exact kp_X12_advised_27 h x1 x2 (nI 2) (some h) S44 C N hg  h1
    · have h1 := h1.2 z9
      refine x_iconst (v := (0 : Int32)) C dX12_advised_22 (by decide) ?_
      refine x_goto (tgt := 27) C dX12_advised_23 (by decide) ?_
      exact kp_X12_advised_27 h x1 x2 (0 : Int32) (some h) S44 C N hg  h1
  · have h1 := h1.2 z9
    refine x_iconst (v := (1 : Int32)) C dX12_advised_8 (by decide) ?_
    refine x_goto (tgt := 27) C dX12_advised_9 (by decide) ?_
    exact kp_X12_advised_27 h x1 x2 (1 : Int32) (some h) S42 C N hg  h1
theorem kp_X12_advised_met {h : Nat} {x1 : Int32} {x2 : Int32} {S : xm_S} {g : Int32 → xm_S → Prop}  (h1 : wp_X12_advised h x1 x2 S g) : xm_Met yX12_advised cX12_advised 8 (some (FieldType.int)) rm_X12_advised [xm_r (some h), xm_i x1, xm_i x2] S (xm_qi g) xm_nox :=
  xm_ofW RX12 (by decide +kernel) rfl (Nat.le_of_ble_eq_true rfl) (fun K C N hq hx hi => kp_X12_advised h x1 x2 S C N (fun v S h => by rw [hq]; exact ⟨v, rfl, h⟩)  h1)
def rm_X12_aside : Room := { frames := 1, cells := 0, slots := 0, locals := 20 }
theorem dX12_aside_0 : decode cX12_aside 0 = .ok (.aload_n 0, 1) := by decide +kernel
theorem dX12_aside_1 : decode cX12_aside 1 = .ok (.iconst 0, 1) := by decide +kernel
theorem dX12_aside_2 : decode cX12_aside 2 = .ok (.putfield 169, 3) := by decide +kernel
theorem dX12_aside_5 : decode cX12_aside 5 = .ok (.aload_n 0, 1) := by decide +kernel
theorem dX12_aside_6 : decode cX12_aside 6 = .ok (.getfield 343, 3) := by decide +kernel
theorem dX12_aside_9 : decode cX12_aside 9 = .ok (.ireturn, 1) := by decide +kernel
def wp_X12_aside (h : Nat)  (S : xm_S) (g : Int32 → xm_S → Prop) : Prop :=
  st_t S h = some (12, 0) ∧ ∀ S2, S2 = st_pi S h 0 (0 : Int32) → g (st_i S2 h 53) S2
set_option maxRecDepth 100000 in
set_option maxHeartbeats 4000000 in
theorem kp_X12_aside {K : xm_K} (h : Nat)  (S : xm_S) {g : Int32 → xm_S → Prop} (C : xm_Cx K cX12_aside RX12 1 (some (FieldType.int)) rm_X12_aside) (N : xm_Nx K) (hg : ∀ v S, g v S → xm_q K (some (xm_i v)) S)  (h1 : wp_X12_aside h  S g) : xm_W K 0 0 0 [(0, xm_r (some h))] [] S := by
  unfold wp_X12_aside at h1
  refine x_aload_n C 0 dX12_aside_0 rfl rfl ?_
  refine x_iconst (v := (0 : Int32)) C dX12_aside_1 (by decide) ?_
  obtain ⟨ht1, h1⟩ := h1
  refine x_putf_i (n := h) C rfl ht1 fd_157 xc_12 (by decide) rfl ⟨rfl, rfl⟩ dX12_aside_2 ?_
  refine x_topS (fun S2 e3 => ?_)
  have h1 := h1 S2 e3
  refine x_aload_n C 0 dX12_aside_5 rfl rfl ?_
  refine x_getf_i (n := h) C rfl (tk_p e3 ht1) fd_164 (by decide) dX12_aside_6 ?_
  exact x_iret C (Nat.le_of_ble_eq_true rfl) (Nat.le_of_ble_eq_true rfl) rfl dX12_aside_9 (hg _ _ h1)
theorem kp_X12_aside_met {h : Nat}  {S : xm_S} {g : Int32 → xm_S → Prop}  (h1 : wp_X12_aside h  S g) : xm_Met yX12_aside cX12_aside 1 (some (FieldType.int)) rm_X12_aside [xm_r (some h)] S (xm_qi g) xm_nox :=
  xm_ofW RX12 (by decide +kernel) rfl (Nat.le_of_ble_eq_true rfl) (fun K C N hq hx hi => kp_X12_aside h  S C N (fun v S h => by rw [hq]; exact ⟨v, rfl, h⟩)  h1)
def rm_X12_asks : Room := { frames := 1, cells := 0, slots := 0, locals := 20 }
theorem dX12_asks_0 : decode cX12_asks 0 = .ok (.aload_n 0, 1) := by decide +kernel
theorem dX12_asks_1 : decode cX12_asks 1 = .ok (.getfield 106, 3) := by decide +kernel
theorem dX12_asks_4 : decode cX12_asks 4 = .ok (.iload_n 1, 1) := by decide +kernel
theorem dX12_asks_5 : decode cX12_asks 5 = .ok (.dup2, 1) := by decide +kernel
theorem dX12_asks_6 : decode cX12_asks 6 = .ok (.iaload, 1) := by decide +kernel
theorem dX12_asks_7 : decode cX12_asks 7 = .ok (.aload_n 0, 1) := by decide +kernel
theorem dX12_asks_8 : decode cX12_asks 8 = .ok (.getfield 103, 3) := by decide +kernel
theorem dX12_asks_11 : decode cX12_asks 11 = .ok (.iload_n 1, 1) := by decide +kernel
theorem dX12_asks_12 : decode cX12_asks 12 = .ok (.iaload, 1) := by decide +kernel
theorem dX12_asks_13 : decode cX12_asks 13 = .ok (.iconst (-1), 1) := by decide +kernel
theorem dX12_asks_14 : decode cX12_asks 14 = .ok (.if_icmp .ne 7, 3) := by decide +kernel
theorem dX12_asks_17 : decode cX12_asks 17 = .ok (.iconst 0, 1) := by decide +kernel
theorem dX12_asks_18 : decode cX12_asks 18 = .ok (.goto 4, 3) := by decide +kernel
theorem dX12_asks_21 : decode cX12_asks 21 = .ok (.iload_n 2, 1) := by decide +kernel
theorem dX12_asks_22 : decode cX12_asks 22 = .ok (.ior, 1) := by decide +kernel
theorem dX12_asks_23 : decode cX12_asks 23 = .ok (.iastore, 1) := by decide +kernel
theorem dX12_asks_24 : decode cX12_asks 24 = .ok (.return_, 1) := by decide +kernel
def wp_X12_asks_22 (h : Nat) (s0 : Int32) (s1 : Int32) (s2 : Int32) (s3 : Option Nat) (S : xm_S) (g : xm_S → Prop) : Prop :=
  ∃ n1, s3 = some n1 ∧ ∃ z4, st_t S n1 = some (100, z4) ∧ vp_in s2 z4 ∧ ∀ S6, S6 = st_pi S n1 (s2).toNatClampNeg (s1 ||| s0) → g S6
set_option maxRecDepth 100000 in
set_option maxHeartbeats 4000000 in
theorem kp_X12_asks_22 {K : xm_K} (h : Nat) (s0 : Int32) (s1 : Int32) (s2 : Int32) (s3 : Option Nat) (S : xm_S) {g : xm_S → Prop} (C : xm_Cx K cX12_asks RX12 3 none rm_X12_asks) (N : xm_Nx K) (hg : ∀ S, g S → xm_q K none S)  (h1 : wp_X12_asks_22 h s0 s1 s2 s3 S g) : xm_W K 0 0 22 [] [xm_i s0, xm_i s1, xm_i s2, xm_r s3] S := by
  unfold wp_X12_asks_22 at h1
  refine x_ior C dX12_asks_22 ?_
  obtain ⟨n1, hr2, h1⟩ := h1
  obtain ⟨z4, ht3, h1⟩ := h1
  obtain ⟨hi5, h1⟩ := h1
  refine x_iast (n := n1) C hr2 ht3 hi5 dX12_asks_23 ?_
  refine x_topS (fun S6 e7 => ?_)
  have h1 := h1 S6 e7
  exact x_vret C (Nat.le_of_ble_eq_true rfl) (Nat.le_of_ble_eq_true rfl) rfl dX12_asks_24 (hg _ h1)
def wp_X12_asks (h : Nat) (x1 : Int32) (x2 : Int32) (S : xm_S) (g : xm_S → Prop) : Prop :=
  st_t S h = some (12, 0) ∧ ∃ n9, (st_r S h 34) = some n9 ∧ ∃ z12, st_t S n9 = some (100, z12) ∧ vp_in x1 z12 ∧ ∃ n14, (st_r S h 33) = some n14 ∧ ∃ z17, st_t S n14 = some (100, z17) ∧ vp_in x1 z17 ∧ (¬ (st_i S n14 (x1).toNatClampNeg) = (-1 : Int32) → wp_X12_asks_22 h x2 (st_i S n9 (x1).toNatClampNeg) x1 (st_r S h 34) S g) ∧ ((st_i S n14 (x1).toNatClampNeg) = (-1 : Int32) → wp_X12_asks_22 h (0 : Int32) (st_i S n9 (x1).toNatClampNeg) x1 (st_r S h 34) S g)
set_option maxRecDepth 100000 in
set_option maxHeartbeats 4000000 in
theorem kp_X12_asks {K : xm_K} (h : Nat) (x1 : Int32) (x2 : Int32) (S : xm_S) {g : xm_S → Prop} (C : xm_Cx K cX12_asks RX12 3 none rm_X12_asks) (N : xm_Nx K) (hg : ∀ S, g S → xm_q K none S)  (h1 : wp_X12_asks h x1 x2 S g) : xm_W K 0 0 0 [(0, xm_r (some h)), (1, xm_i x1), (2, xm_i x2)] [] S := by
  unfold wp_X12_asks at h1
  refine x_aload_n C 0 dX12_asks_0 rfl rfl ?_
  obtain ⟨ht8, h1⟩ := h1
  refine x_getf_r (n := h) C rfl ht8 fd_165 (by decide) dX12_asks_1 ?_
  refine x_iload_n C 1 dX12_asks_4 rfl rfl ?_
  refine x_dup2_ir C dX12_asks_5 ?_
  obtain ⟨n9, hr10, h1⟩ := h1
  obtain ⟨z12, ht11, h1⟩ := h1
  obtain ⟨hi13, h1⟩ := h1
  refine x_iald (n := n9) C hr10 ht11 hi13 dX12_asks_6 ?_
  refine x_aload_n C 0 dX12_asks_7 rfl rfl ?_
  refine x_getf_r (n := h) C rfl ht8 fd_166 (by decide) dX12_asks_8 ?_
  refine x_iload_n C 1 dX12_asks_11 rfl rfl ?_
  obtain ⟨n14, hr15, h1⟩ := h1
  obtain ⟨z17, ht16, h1⟩ := h1
  obtain ⟨hi18, h1⟩ := h1
  refine x_iald (n := n14) C hr15 ht16 hi18 dX12_asks_12 ?_
  refine x_iconst (v := (-1 : Int32)) C dX12_asks_13 (by decide) ?_
  refine x_icmp_ne (tgt := 21) C dX12_asks_14 (by decide) (fun z9 => ?_) (fun z9 => ?_)
  · have h1 := h1.1 z9
    refine x_iload_n C 2 dX12_asks_21 rfl rfl ?_
    refine x_keep (L' := []) C [] rfl ?_
    exact kp_X12_asks_22 h x2 (st_i S n9 (x1).toNatClampNeg) x1 (st_r S h 34) S C N hg  h1
  · have h1 := h1.2 z9
    refine x_iconst (v := (0 : Int32)) C dX12_asks_17 (by decide) ?_
    refine x_goto (tgt := 22) C dX12_asks_18 (by decide) ?_
    refine x_keep (L' := []) C [] rfl ?_
    exact kp_X12_asks_22 h (0 : Int32) (st_i S n9 (x1).toNatClampNeg) x1 (st_r S h 34) S C N hg  h1
theorem kp_X12_asks_met {h : Nat} {x1 : Int32} {x2 : Int32} {S : xm_S} {g : xm_S → Prop}  (h1 : wp_X12_asks h x1 x2 S g) : xm_Met yX12_asks cX12_asks 3 none rm_X12_asks [xm_r (some h), xm_i x1, xm_i x2] S (xm_qv g) xm_nox :=
  xm_ofW RX12 (by decide +kernel) rfl (Nat.le_of_ble_eq_true rfl) (fun K C N hq hx hi => kp_X12_asks h x1 x2 S C N (fun S h => by rw [hq]; exact ⟨rfl, h⟩)  h1)
def rm_X12_changes : Room := { frames := 1, cells := 0, slots := 0, locals := 20 }
theorem dX12_changes_0 : decode cX12_changes 0 = .ok (.iconst 0, 1) := by decide +kernel
theorem dX12_changes_1 : decode cX12_changes 1 = .ok (.istore_n 3, 1) := by decide +kernel
theorem dX12_changes_2 : decode cX12_changes 2 = .ok (.iconst 0, 1) := by decide +kernel
theorem dX12_changes_3 : decode cX12_changes 3 = .ok (.istore 4, 2) := by decide +kernel
theorem dX12_changes_5 : decode cX12_changes 5 = .ok (.iload 4, 2) := by decide +kernel
theorem dX12_changes_7 : decode cX12_changes 7 = .ok (.bipush 6, 2) := by decide +kernel
theorem dX12_changes_9 : decode cX12_changes 9 = .ok (.if_icmp .ge 55, 3) := by decide +kernel
theorem dX12_changes_12 : decode cX12_changes 12 = .ok (.aload_n 0, 1) := by decide +kernel
theorem dX12_changes_13 : decode cX12_changes 13 = .ok (.getfield 90, 3) := by decide +kernel
theorem dX12_changes_16 : decode cX12_changes 16 = .ok (.bipush 6, 2) := by decide +kernel
theorem dX12_changes_18 : decode cX12_changes 18 = .ok (.iload_n 1, 1) := by decide +kernel
theorem dX12_changes_19 : decode cX12_changes 19 = .ok (.imul, 1) := by decide +kernel
theorem dX12_changes_20 : decode cX12_changes 20 = .ok (.iload 4, 2) := by decide +kernel
theorem dX12_changes_22 : decode cX12_changes 22 = .ok (.iadd, 1) := by decide +kernel
theorem dX12_changes_23 : decode cX12_changes 23 = .ok (.iaload, 1) := by decide +kernel
theorem dX12_changes_24 : decode cX12_changes 24 = .ok (.istore 5, 2) := by decide +kernel
theorem dX12_changes_26 : decode cX12_changes 26 = .ok (.iload_n 3, 1) := by decide +kernel
theorem dX12_changes_27 : decode cX12_changes 27 = .ok (.iload 4, 2) := by decide +kernel
theorem dX12_changes_29 : decode cX12_changes 29 = .ok (.iload_n 2, 1) := by decide +kernel
theorem dX12_changes_30 : decode cX12_changes 30 = .ok (.if_icmp .eq 25, 3) := by decide +kernel
theorem dX12_changes_33 : decode cX12_changes 33 = .ok (.iload 5, 2) := by decide +kernel
theorem dX12_changes_35 : decode cX12_changes 35 = .ok (.iconst (-1), 1) := by decide +kernel
theorem dX12_changes_36 : decode cX12_changes 36 = .ok (.if_icmp .eq 19, 3) := by decide +kernel
theorem dX12_changes_39 : decode cX12_changes 39 = .ok (.iload 5, 2) := by decide +kernel
theorem dX12_changes_41 : decode cX12_changes 41 = .ok (.aload_n 0, 1) := by decide +kernel
theorem dX12_changes_42 : decode cX12_changes 42 = .ok (.getfield 103, 3) := by decide +kernel
theorem dX12_changes_45 : decode cX12_changes 45 = .ok (.iload 4, 2) := by decide +kernel
theorem dX12_changes_47 : decode cX12_changes 47 = .ok (.iaload, 1) := by decide +kernel
theorem dX12_changes_48 : decode cX12_changes 48 = .ok (.if_icmp .eq 7, 3) := by decide +kernel
theorem dX12_changes_51 : decode cX12_changes 51 = .ok (.iconst 1, 1) := by decide +kernel
theorem dX12_changes_52 : decode cX12_changes 52 = .ok (.goto 4, 3) := by decide +kernel
theorem dX12_changes_55 : decode cX12_changes 55 = .ok (.iconst 0, 1) := by decide +kernel
theorem dX12_changes_56 : decode cX12_changes 56 = .ok (.iadd, 1) := by decide +kernel
theorem dX12_changes_57 : decode cX12_changes 57 = .ok (.istore_n 3, 1) := by decide +kernel
theorem dX12_changes_58 : decode cX12_changes 58 = .ok (.iinc 4 1, 3) := by decide +kernel
theorem dX12_changes_61 : decode cX12_changes 61 = .ok (.goto (-56), 3) := by decide +kernel
theorem dX12_changes_64 : decode cX12_changes 64 = .ok (.iload_n 3, 1) := by decide +kernel
theorem dX12_changes_65 : decode cX12_changes 65 = .ok (.ireturn, 1) := by decide +kernel
def wp_X12_changes_56 (h : Nat) (x1 : Int32) (x2 : Int32) (x4 : Int32) (s0 : Int32) (s1 : Int32) (S : xm_S) (g : Int32 → xm_S → Prop) (Z5 : Int32 → Int32 → Int32 → Int32 → xm_S → Prop) : Prop :=
  ∀ y1, y1 = (s1 + s0) → ∀ y3, y3 = (x4 + (1 : Int32)) → Z5 x1 x2 y1 y3 S
set_option maxRecDepth 100000 in
set_option maxHeartbeats 4000000 in
theorem kp_X12_changes_56 {K : xm_K} (h : Nat) (x1 : Int32) (x2 : Int32) (x4 : Int32) (s0 : Int32) (s1 : Int32) (S : xm_S) {g : Int32 → xm_S → Prop} {Z5 : Int32 → Int32 → Int32 → Int32 → xm_S → Prop} (C : xm_Cx K cX12_changes RX12 6 (some (FieldType.int)) rm_X12_changes) (N : xm_Nx K) (hg : ∀ v S, g v S → xm_q K (some (xm_i v)) S) (hZ5 : ∀ x1 x2 x3 x4 S, Z5 x1 x2 x3 x4 S → xm_W K 0 0 5 [(0, xm_r (some h)), (1, xm_i x1), (2, xm_i x2), (3, xm_i x3), (4, xm_i x4)] [] S) (h1 : wp_X12_changes_56 h x1 x2 x4 s0 s1 S g Z5) : xm_W K 0 0 56 [(0, xm_r (some h)), (1, xm_i x1), (2, xm_i x2), (4, xm_i x4)] [xm_i s0, xm_i s1] S := by
  unfold wp_X12_changes_56 at h1
  refine x_iadd C dX12_changes_56 ?_
  refine x_topi (fun y1 e2 => ?_)
  have h1 := h1 y1 e2
  refine x_istore_n (L' := [(3, xm_i y1), (0, xm_r (some h)), (1, xm_i x1), (2, xm_i x2), (4, xm_i x4)]) C dX12_changes_57 rfl (by decide) rfl ?_
  obtain ⟨y3, e4⟩ : ∃ y3, y3 = (x4 + (1 : Int32)) := ⟨_, rfl⟩
  have h1 := h1 y3 e4
  refine x_iinc (v := y3) (L' := [(4, xm_i y3), (3, xm_i y1), (0, xm_r (some h)), (1, xm_i x1), (2, xm_i x2)]) C 4 dX12_changes_58 rfl (by rw [e4]; rfl) (by decide) rfl ?_
  refine x_goto (tgt := 5) C dX12_changes_61 (by decide) ?_
  refine x_keep (L' := [(0, xm_r (some h)), (1, xm_i x1), (2, xm_i x2), (3, xm_i y1), (4, xm_i y3)]) C [2, 3, 4, 1, 0] rfl ?_
  exact hZ5 x1 x2 y1 y3 S h1
def wp_X12_changes_55 (h : Nat) (x1 : Int32) (x2 : Int32) (x4 : Int32) (s0 : Int32) (S : xm_S) (g : Int32 → xm_S → Prop) (Z5 : Int32 → Int32 → Int32 → Int32 → xm_S → Prop) : Prop :=
  wp_X12_changes_56 h x1 x2 x4 (0 : Int32) s0 S g Z5
set_option maxRecDepth 100000 in
set_option maxHeartbeats 4000000 in
theorem kp_X12_changes_55 {K : xm_K} (h : Nat) (x1 : Int32) (x2 : Int32) (x4 : Int32) (s0 : Int32) (S : xm_S) {g : Int32 → xm_S → Prop} {Z5 : Int32 → Int32 → Int32 → Int32 → xm_S → Prop} (C : xm_Cx K cX12_changes RX12 6 (some (FieldType.int)) rm_X12_changes) (N : xm_Nx K) (hg : ∀ v S, g v S → xm_q K (some (xm_i v)) S) (hZ5 : ∀ x1 x2 x3 x4 S, Z5 x1 x2 x3 x4 S → xm_W K 0 0 5 [(0, xm_r (some h)), (1, xm_i x1), (2, xm_i x2), (3, xm_i x3), (4, xm_i x4)] [] S) (h1 : wp_X12_changes_55 h x1 x2 x4 s0 S g Z5) : xm_W K 0 0 55 [(0, xm_r (some h)), (1, xm_i x1), (2, xm_i x2), (4, xm_i x4)] [xm_i s0] S := by
  unfold wp_X12_changes_55 at h1
  refine x_iconst (v := (0 : Int32)) C dX12_changes_55 (by decide) ?_
  exact kp_X12_changes_56 h x1 x2 x4 (0 : Int32) s0 S C N hg hZ5 h1
def wp_X12_changes_5B (h : Nat) (x1 : Int32) (x2 : Int32) (x3 : Int32) (x4 : Int32) (S : xm_S) (g : Int32 → xm_S → Prop) (Z5 : Int32 → Int32 → Int32 → Int32 → xm_S → Prop) : Prop :=
  ((nI 6) ≤ x4 → g x3 S) ∧ (¬ (nI 6) ≤ x4 → st_t S h = some (12, 0) ∧ ∃ n6, (st_r S h 29) = some n6 ∧ ∃ z9, st_t S n6 = some (100, z9) ∧ vp_in (((nI 6) * x1) + x4) z9 ∧ ∀ y11, y11 = (st_i S n6 ((((nI 6) * x1) + x4)).toNatClampNeg) → (x4 = x2 → wp_X12_changes_55 h x1 x2 x4 x3 S g Z5) ∧ (¬ x4 = x2 → (y11 = (-1 : Int32) → wp_X12_changes_55 h x1 x2 x4 x3 S g Z5) ∧ (¬ y11 = (-1 : Int32) → ∃ n13, (st_r S h 33) = some n13 ∧ ∃ z16, st_t S n13 = some (100, z16) ∧ vp_in x4 z16 ∧ (y11 = (st_i S n13 (x4).toNatClampNeg) → wp_X12_changes_55 h x1 x2 x4 x3 S g Z5) ∧ (¬ y11 = (st_i S n13 (x4).toNatClampNeg) → wp_X12_changes_56 h x1 x2 x4 (1 : Int32) x3 S g Z5))))
def wp_X12_changes_5 (h : Nat) (x1 : Int32) (x2 : Int32) (x3 : Int32) (x4 : Int32) (S : xm_S) (g : Int32 → xm_S → Prop) : Prop :=
  ∀ Z5 : Int32 → Int32 → Int32 → Int32 → xm_S → Prop, (∀ x1 x2 x3 x4 S, wp_X12_changes_5B h x1 x2 x3 x4 S g Z5 → Z5 x1 x2 x3 x4 S) → Z5 x1 x2 x3 x4 S
set_option maxRecDepth 100000 in
set_option maxHeartbeats 4000000 in
theorem kp_X12_changes_5B {K : xm_K} (h : Nat) (x1 : Int32) (x2 : Int32) (x3 : Int32) (x4 : Int32) (S : xm_S) {g : Int32 → xm_S → Prop} {Z5 : Int32 → Int32 → Int32 → Int32 → xm_S → Prop} (C : xm_Cx K cX12_changes RX12 6 (some (FieldType.int)) rm_X12_changes) (N : xm_Nx K) (hg : ∀ v S, g v S → xm_q K (some (xm_i v)) S) (hZ5 : ∀ x1 x2 x3 x4 S, Z5 x1 x2 x3 x4 S → xm_W K 0 0 5 [(0, xm_r (some h)), (1, xm_i x1), (2, xm_i x2), (3, xm_i x3), (4, xm_i x4)] [] S) (h1 : wp_X12_changes_5B h x1 x2 x3 x4 S g Z5) : xm_W K 0 0 5 [(0, xm_r (some h)), (1, xm_i x1), (2, xm_i x2), (3, xm_i x3), (4, xm_i x4)] [] S := by
  unfold wp_X12_changes_5B at h1
  refine x_iload C 4 dX12_changes_5 rfl ?_
  refine x_bipush (v := (nI 6)) C dX12_changes_7 (by decide) ?_
  refine x_icmp_ge (tgt := 64) C dX12_changes_9 (by decide) (fun z9 => ?_) (fun z9 => ?_)
  · have h1 := h1.1 z9
    refine x_iload_n C 3 dX12_changes_64 rfl rfl ?_
    exact x_iret C (Nat.le_of_ble_eq_true rfl) (Nat.le_of_ble_eq_true rfl) rfl dX12_changes_65 (hg _ _ h1)
  · have h1 := h1.2 z9
    refine x_aload_n C 0 dX12_changes_12 rfl rfl ?_
    obtain ⟨ht5, h1⟩ := h1
    refine x_getf_r (n := h) C rfl ht5 fd_161 (by decide) dX12_changes_13 ?_
    refine x_bipush (v := (nI 6)) C dX12_changes_16 (by decide) ?_
    refine x_iload_n C 1 dX12_changes_18 rfl rfl ?_
    refine x_imul C dX12_changes_19 ?_
    refine x_iload C 4 dX12_changes_20 rfl ?_
    refine x_iadd C dX12_changes_22 ?_
    obtain ⟨n6, hr7, h1⟩ := h1
    obtain ⟨z9, ht8, h1⟩ := h1
    obtain ⟨hi10, h1⟩ := h1
    refine x_iald (n := n6) C hr7 ht8 hi10 dX12_changes_23 ?_
    refine x_topi (fun y11 e12 => ?_)
    have h1 := h1 y11 e12
    refine x_istore (L' := [(5, xm_i y11), (0, xm_r (some h)), (1, xm_i x1), (2, xm_i x2), (3, xm_i x3), (4, xm_i x4)]) C dX12_changes_24 (by decide) rfl ?_
    refine x_iload_n C 4 dX12_changes_26 rfl rfl ?_
    refine x_iload C 5 dX12_changes_27 rfl ?_
    refine x_iload_n C 3 dX12_changes_29 rfl rfl ?_
    refine x_icmp_eq (tgt := 55) C dX12_changes_30 (by decide) (fun z9 => ?_) (fun z9 => ?_)
    · have h1 := h1.1 z9
      refine x_keep (L' := [(0, xm_r (some h)), (1, xm_i x1), (2, xm_i x2), (4, xm_i x4)]) C [1, 2, 3, 5] rfl ?_
      exact kp_X12_changes_55 h x1 x2 x4 x3 S C N hg hZ5 h1
    · have h1 := h1.2 z9
      refine x_iload C 0 dX12_changes_33 rfl ?_
      refine x_iconst (v := (-1 : Int32)) C dX12_changes_35 (by decide) ?_
      refine x_icmp_eq (tgt := 55) C dX12_changes_36 (by decide) (fun z9 => ?_) (fun z9 => ?_)
      · have h1 := h1.1 z9
        refine x_keep (L' := [(0, xm_r (some h)), (1, xm_i x1), (2, xm_i x2), (4, xm_i x4)]) C [1, 2, 3, 5] rfl ?_
        exact kp_X12_changes_55 h x1 x2 x4 x3 S C N hg hZ5 h1
      · have h1 := h1.2 z9
        refine x_iload C 0 dX12_changes_39 rfl ?_
        refine x_aload_n C 1 dX12_changes_41 rfl rfl ?_
        refine x_getf_r (n := h) C rfl ht5 fd_166 (by decide) dX12_changes_42 ?_
        refine x_iload C 5 dX12_changes_45 rfl ?_
        obtain ⟨n13, hr14, h1⟩ := h1
        obtain ⟨z16, ht15, h1⟩ := h1
        obtain ⟨hi17, h1⟩ := h1
        refine x_iald (n := n13) C hr14 ht15 hi17 dX12_changes_47 ?_
        refine x_icmp_eq (tgt := 55) C dX12_changes_48 (by decide) (fun z9 => ?_) (fun z9 => ?_)
        · have h1 := h1.1 z9
          refine x_keep (L' := [(0, xm_r (some h)), (1, xm_i x1), (2, xm_i x2), (4, xm_i x4)]) C [1, 2, 3, 5] rfl ?_
          exact kp_X12_changes_55 h x1 x2 x4 x3 S C N hg hZ5 h1
        · have h1 := h1.2 z9
          refine x_iconst (v := (1 : Int32)) C dX12_changes_51 (by decide) ?_
          refine x_goto (tgt := 56) C dX12_changes_52 (by decide) ?_
          refine x_keep (L' := [(0, xm_r (some h)), (1, xm_i x1), (2, xm_i x2), (4, xm_i x4)]) C [1, 2, 3, 5] rfl ?_
          exact kp_X12_changes_56 h x1 x2 x4 (1 : Int32) x3 S C N hg hZ5 h1
theorem kp_X12_changes_5 {K : xm_K} (h : Nat) (x1 : Int32) (x2 : Int32) (x3 : Int32) (x4 : Int32) (S : xm_S) {g : Int32 → xm_S → Prop} (C : xm_Cx K cX12_changes RX12 6 (some (FieldType.int)) rm_X12_changes) (N : xm_Nx K) (hg : ∀ v S, g v S → xm_q K (some (xm_i v)) S)  (h1 : wp_X12_changes_5 h x1 x2 x3 x4 S g) : xm_W K 0 0 5 [(0, xm_r (some h)), (1, xm_i x1), (2, xm_i x2), (3, xm_i x3), (4, xm_i x4)] [] S :=
  h1 (fun x1 x2 x3 x4 S => xm_W K 0 0 5 [(0, xm_r (some h)), (1, xm_i x1), (2, xm_i x2), (3, xm_i x3), (4, xm_i x4)] [] S) (fun x1 x2 x3 x4 S hb => kp_X12_changes_5B h x1 x2 x3 x4 S C N hg (fun x1 x2 x3 x4 S hz => hz) hb)
def wp_X12_changes (h : Nat) (x1 : Int32) (x2 : Int32) (S : xm_S) (g : Int32 → xm_S → Prop) : Prop :=
  wp_X12_changes_5 h x1 x2 (0 : Int32) (0 : Int32) S g
set_option maxRecDepth 100000 in
set_option maxHeartbeats 4000000 in
theorem kp_X12_changes {K : xm_K} (h : Nat) (x1 : Int32) (x2 : Int32) (S : xm_S) {g : Int32 → xm_S → Prop} (C : xm_Cx K cX12_changes RX12 6 (some (FieldType.int)) rm_X12_changes) (N : xm_Nx K) (hg : ∀ v S, g v S → xm_q K (some (xm_i v)) S)  (h1 : wp_X12_changes h x1 x2 S g) : xm_W K 0 0 0 [(0, xm_r (some h)), (1, xm_i x1), (2, xm_i x2)] [] S := by
  unfold wp_X12_changes at h1
  refine x_iconst (v := (0 : Int32)) C dX12_changes_0 (by decide) ?_
  refine x_istore_n (L' := [(3, xm_i (0 : Int32)), (0, xm_r (some h)), (1, xm_i x1), (2, xm_i x2)]) C dX12_changes_1 rfl (by decide) rfl ?_
  refine x_iconst (v := (0 : Int32)) C dX12_changes_2 (by decide) ?_
  refine x_istore (L' := [(4, xm_i (0 : Int32)), (3, xm_i (0 : Int32)), (0, xm_r (some h)), (1, xm_i x1), (2, xm_i x2)]) C dX12_changes_3 (by decide) rfl ?_
  refine x_keep (L' := [(0, xm_r (some h)), (1, xm_i x1), (2, xm_i x2), (3, xm_i (0 : Int32)), (4, xm_i (0 : Int32))]) C [2, 3, 4, 1, 0] rfl ?_
  exact kp_X12_changes_5 h x1 x2 (0 : Int32) (0 : Int32) S C N hg  h1
theorem kp_X12_changes_met {h : Nat} {x1 : Int32} {x2 : Int32} {S : xm_S} {g : Int32 → xm_S → Prop}  (h1 : wp_X12_changes h x1 x2 S g) : xm_Met yX12_changes cX12_changes 6 (some (FieldType.int)) rm_X12_changes [xm_r (some h), xm_i x1, xm_i x2] S (xm_qi g) xm_nox :=
  xm_ofW RX12 (by decide +kernel) rfl (Nat.le_of_ble_eq_true rfl) (fun K C N hq hx hi => kp_X12_changes h x1 x2 S C N (fun v S h => by rw [hq]; exact ⟨v, rfl, h⟩)  h1)
def rm_X12_chooses : Room := { frames := 1, cells := 0, slots := 0, locals := 20 }
theorem dX12_chooses_0 : decode cX12_chooses 0 = .ok (.iload_n 1, 1) := by decide +kernel
theorem dX12_chooses_1 : decode cX12_chooses 1 = .ok (.istore_n 2, 1) := by decide +kernel
theorem dX12_chooses_2 : decode cX12_chooses 2 = .ok (.iconst 1, 1) := by decide +kernel
theorem dX12_chooses_3 : decode cX12_chooses 3 = .ok (.istore_n 3, 1) := by decide +kernel
theorem dX12_chooses_4 : decode cX12_chooses 4 = .ok (.iconst 5, 1) := by decide +kernel
theorem dX12_chooses_5 : decode cX12_chooses 5 = .ok (.istore 4, 2) := by decide +kernel
theorem dX12_chooses_7 : decode cX12_chooses 7 = .ok (.iload 4, 2) := by decide +kernel
theorem dX12_chooses_9 : decode cX12_chooses 9 = .ok (.ifCond .lt 82, 3) := by decide +kernel
theorem dX12_chooses_12 : decode cX12_chooses 12 = .ok (.iload_n 2, 1) := by decide +kernel
theorem dX12_chooses_13 : decode cX12_chooses 13 = .ok (.iconst 5, 1) := by decide +kernel
theorem dX12_chooses_14 : decode cX12_chooses 14 = .ok (.irem, 1) := by decide +kernel
theorem dX12_chooses_15 : decode cX12_chooses 15 = .ok (.istore 5, 2) := by decide +kernel
theorem dX12_chooses_17 : decode cX12_chooses 17 = .ok (.iload_n 2, 1) := by decide +kernel
theorem dX12_chooses_18 : decode cX12_chooses 18 = .ok (.iconst 5, 1) := by decide +kernel
theorem dX12_chooses_19 : decode cX12_chooses 19 = .ok (.idiv, 1) := by decide +kernel
theorem dX12_chooses_20 : decode cX12_chooses 20 = .ok (.istore_n 2, 1) := by decide +kernel
theorem dX12_chooses_21 : decode cX12_chooses 21 = .ok (.aload_n 0, 1) := by decide +kernel
theorem dX12_chooses_22 : decode cX12_chooses 22 = .ok (.getfield 103, 3) := by decide +kernel
theorem dX12_chooses_25 : decode cX12_chooses 25 = .ok (.iload 4, 2) := by decide +kernel
theorem dX12_chooses_27 : decode cX12_chooses 27 = .ok (.iload 5, 2) := by decide +kernel
theorem dX12_chooses_29 : decode cX12_chooses 29 = .ok (.ifCond .eq 15, 3) := by decide +kernel
theorem dX12_chooses_32 : decode cX12_chooses 32 = .ok (.iload 5, 2) := by decide +kernel
theorem dX12_chooses_34 : decode cX12_chooses 34 = .ok (.aload_n 0, 1) := by decide +kernel
theorem dX12_chooses_35 : decode cX12_chooses 35 = .ok (.getfield 13, 3) := by decide +kernel
theorem dX12_chooses_38 : decode cX12_chooses 38 = .ok (.iload 4, 2) := by decide +kernel
theorem dX12_chooses_40 : decode cX12_chooses 40 = .ok (.iaload, 1) := by decide +kernel
theorem dX12_chooses_41 : decode cX12_chooses 41 = .ok (.if_icmp .le 7, 3) := by decide +kernel
theorem dX12_chooses_44 : decode cX12_chooses 44 = .ok (.iconst (-1), 1) := by decide +kernel
theorem dX12_chooses_45 : decode cX12_chooses 45 = .ok (.goto 17, 3) := by decide +kernel
theorem dX12_chooses_48 : decode cX12_chooses 48 = .ok (.aload_n 0, 1) := by decide +kernel
theorem dX12_chooses_49 : decode cX12_chooses 49 = .ok (.getfield 100, 3) := by decide +kernel
theorem dX12_chooses_52 : decode cX12_chooses 52 = .ok (.iconst 4, 1) := by decide +kernel
theorem dX12_chooses_53 : decode cX12_chooses 53 = .ok (.iload 4, 2) := by decide +kernel
theorem dX12_chooses_55 : decode cX12_chooses 55 = .ok (.imul, 1) := by decide +kernel
theorem dX12_chooses_56 : decode cX12_chooses 56 = .ok (.iload 5, 2) := by decide +kernel
theorem dX12_chooses_58 : decode cX12_chooses 58 = .ok (.iadd, 1) := by decide +kernel
theorem dX12_chooses_59 : decode cX12_chooses 59 = .ok (.iconst 1, 1) := by decide +kernel
theorem dX12_chooses_60 : decode cX12_chooses 60 = .ok (.isub, 1) := by decide +kernel
theorem dX12_chooses_61 : decode cX12_chooses 61 = .ok (.iaload, 1) := by decide +kernel
theorem dX12_chooses_62 : decode cX12_chooses 62 = .ok (.iastore, 1) := by decide +kernel
theorem dX12_chooses_63 : decode cX12_chooses 63 = .ok (.iload_n 3, 1) := by decide +kernel
theorem dX12_chooses_64 : decode cX12_chooses 64 = .ok (.ifCond .eq 19, 3) := by decide +kernel
theorem dX12_chooses_67 : decode cX12_chooses 67 = .ok (.iload 5, 2) := by decide +kernel
theorem dX12_chooses_69 : decode cX12_chooses 69 = .ok (.aload_n 0, 1) := by decide +kernel
theorem dX12_chooses_70 : decode cX12_chooses 70 = .ok (.getfield 13, 3) := by decide +kernel
theorem dX12_chooses_73 : decode cX12_chooses 73 = .ok (.iload 4, 2) := by decide +kernel
theorem dX12_chooses_75 : decode cX12_chooses 75 = .ok (.iaload, 1) := by decide +kernel
theorem dX12_chooses_76 : decode cX12_chooses 76 = .ok (.if_icmp .gt 7, 3) := by decide +kernel
theorem dX12_chooses_79 : decode cX12_chooses 79 = .ok (.iconst 1, 1) := by decide +kernel
theorem dX12_chooses_80 : decode cX12_chooses 80 = .ok (.goto 4, 3) := by decide +kernel
theorem dX12_chooses_83 : decode cX12_chooses 83 = .ok (.iconst 0, 1) := by decide +kernel
theorem dX12_chooses_84 : decode cX12_chooses 84 = .ok (.istore_n 3, 1) := by decide +kernel
theorem dX12_chooses_85 : decode cX12_chooses 85 = .ok (.iinc 4 (-1), 3) := by decide +kernel
theorem dX12_chooses_88 : decode cX12_chooses 88 = .ok (.goto (-81), 3) := by decide +kernel
theorem dX12_chooses_91 : decode cX12_chooses 91 = .ok (.iload_n 3, 1) := by decide +kernel
theorem dX12_chooses_92 : decode cX12_chooses 92 = .ok (.ireturn, 1) := by decide +kernel
def wp_X12_chooses_84 (h : Nat) (x2 : Int32) (x4 : Int32) (s0 : Int32) (S : xm_S) (g : Int32 → xm_S → Prop) (Z7 : Int32 → Int32 → Int32 → xm_S → Prop) : Prop :=
  ∀ y1, y1 = (x4 + (-1 : Int32)) → Z7 x2 s0 y1 S
set_option maxRecDepth 100000 in
set_option maxHeartbeats 4000000 in
theorem kp_X12_chooses_84 {K : xm_K} (h : Nat) (x2 : Int32) (x4 : Int32) (s0 : Int32) (S : xm_S) {g : Int32 → xm_S → Prop} {Z7 : Int32 → Int32 → Int32 → xm_S → Prop} (C : xm_Cx K cX12_chooses RX12 6 (some (FieldType.boolean)) rm_X12_chooses) (N : xm_Nx K) (hg : ∀ v S, g v S → xm_q K (some (xm_i v)) S) (hZ7 : ∀ x2 x3 x4 S, Z7 x2 x3 x4 S → xm_W K 0 0 7 [(0, xm_r (some h)), (2, xm_i x2), (3, xm_i x3), (4, xm_i x4)] [] S) (h1 : wp_X12_chooses_84 h x2 x4 s0 S g Z7) : xm_W K 0 0 84 [(0, xm_r (some h)), (2, xm_i x2), (4, xm_i x4)] [xm_i s0] S := by
  unfold wp_X12_chooses_84 at h1
  refine x_istore_n (L' := [(3, xm_i s0), (0, xm_r (some h)), (2, xm_i x2), (4, xm_i x4)]) C dX12_chooses_84 rfl (by decide) rfl ?_
  obtain ⟨y1, e2⟩ : ∃ y1, y1 = (x4 + (-1 : Int32)) := ⟨_, rfl⟩
  have h1 := h1 y1 e2
  refine x_iinc (v := y1) (L' := [(4, xm_i y1), (3, xm_i s0), (0, xm_r (some h)), (2, xm_i x2)]) C 3 dX12_chooses_85 rfl (by rw [e2]; rfl) (by decide) rfl ?_
  refine x_goto (tgt := 7) C dX12_chooses_88 (by decide) ?_
  refine x_keep (L' := [(0, xm_r (some h)), (2, xm_i x2), (3, xm_i s0), (4, xm_i y1)]) C [2, 3, 1, 0] rfl ?_
  exact hZ7 x2 s0 y1 S h1
def wp_X12_chooses_83 (h : Nat) (x2 : Int32) (x4 : Int32) (S : xm_S) (g : Int32 → xm_S → Prop) (Z7 : Int32 → Int32 → Int32 → xm_S → Prop) : Prop :=
  wp_X12_chooses_84 h x2 x4 (0 : Int32) S g Z7
set_option maxRecDepth 100000 in
set_option maxHeartbeats 4000000 in
theorem kp_X12_chooses_83 {K : xm_K} (h : Nat) (x2 : Int32) (x4 : Int32) (S : xm_S) {g : Int32 → xm_S → Prop} {Z7 : Int32 → Int32 → Int32 → xm_S → Prop} (C : xm_Cx K cX12_chooses RX12 6 (some (FieldType.boolean)) rm_X12_chooses) (N : xm_Nx K) (hg : ∀ v S, g v S → xm_q K (some (xm_i v)) S) (hZ7 : ∀ x2 x3 x4 S, Z7 x2 x3 x4 S → xm_W K 0 0 7 [(0, xm_r (some h)), (2, xm_i x2), (3, xm_i x3), (4, xm_i x4)] [] S) (h1 : wp_X12_chooses_83 h x2 x4 S g Z7) : xm_W K 0 0 83 [(0, xm_r (some h)), (2, xm_i x2), (4, xm_i x4)] [] S := by
  unfold wp_X12_chooses_83 at h1
  refine x_iconst (v := (0 : Int32)) C dX12_chooses_83 (by decide) ?_
  exact kp_X12_chooses_84 h x2 x4 (0 : Int32) S C N hg hZ7 h1
def wp_X12_chooses_62 (h : Nat) (x2 : Int32) (x3 : Int32) (x4 : Int32) (x5 : Int32) (s0 : Int32) (s1 : Int32) (s2 : Option Nat) (S : xm_S) (g : Int32 → xm_S → Prop) (Z7 : Int32 → Int32 → Int32 → xm_S → Prop) : Prop :=
  ∃ n3, s2 = some n3 ∧ ∃ z6, st_t S n3 = some (100, z6) ∧ vp_in s1 z6 ∧ ∀ S8, S8 = st_pi S n3 (s1).toNatClampNeg s0 → (x3 = 0 → wp_X12_chooses_83 h x2 x4 S8 g Z7) ∧ (¬ x3 = 0 → st_t S8 h = some (12, 0) ∧ ∃ n11, (st_r S8 h 2) = some n11 ∧ ∃ z14, st_t S8 n11 = some (100, z14) ∧ vp_in x4 z14 ∧ ((st_i S8 n11 (x4).toNatClampNeg) < x5 → wp_X12_chooses_83 h x2 x4 S8 g Z7) ∧ (¬ (st_i S8 n11 (x4).toNatClampNeg) < x5 → wp_X12_chooses_84 h x2 x4 (1 : Int32) S8 g Z7))
set_option maxRecDepth 100000 in
set_option maxHeartbeats 4000000 in
theorem kp_X12_chooses_62 {K : xm_K} (h : Nat) (x2 : Int32) (x3 : Int32) (x4 : Int32) (x5 : Int32) (s0 : Int32) (s1 : Int32) (s2 : Option Nat) (S : xm_S) {g : Int32 → xm_S → Prop} {Z7 : Int32 → Int32 → Int32 → xm_S → Prop} (C : xm_Cx K cX12_chooses RX12 6 (some (FieldType.boolean)) rm_X12_chooses) (N : xm_Nx K) (hg : ∀ v S, g v S → xm_q K (some (xm_i v)) S) (hZ7 : ∀ x2 x3 x4 S, Z7 x2 x3 x4 S → xm_W K 0 0 7 [(0, xm_r (some h)), (2, xm_i x2), (3, xm_i x3), (4, xm_i x4)] [] S) (h1 : wp_X12_chooses_62 h x2 x3 x4 x5 s0 s1 s2 S g Z7) : xm_W K 0 0 62 [(0, xm_r (some h)), (2, xm_i x2), (3, xm_i x3), (4, xm_i x4), (5, xm_i x5)] [xm_i s0, xm_i s1, xm_r s2] S := by
  unfold wp_X12_chooses_62 at h1
  obtain ⟨n3, hr4, h1⟩ := h1
  obtain ⟨z6, ht5, h1⟩ := h1
  obtain ⟨hi7, h1⟩ := h1
  refine x_iast (n := n3) C hr4 ht5 hi7 dX12_chooses_62 ?_
  refine x_topS (fun S8 e9 => ?_)
  have h1 := h1 S8 e9
  refine x_iload_n C 2 dX12_chooses_63 rfl rfl ?_
  refine x_if_eq (tgt := 83) C dX12_chooses_64 (by decide) (fun z9 => ?_) (fun z9 => ?_)
  · have h1 := h1.1 z9
    refine x_keep (L' := [(0, xm_r (some h)), (2, xm_i x2), (4, xm_i x4)]) C [0, 1, 3] rfl ?_
    exact kp_X12_chooses_83 h x2 x4 S8 C N hg hZ7 h1
  · have h1 := h1.2 z9
    refine x_iload C 4 dX12_chooses_67 rfl ?_
    refine x_aload_n C 0 dX12_chooses_69 rfl rfl ?_
    obtain ⟨ht10, h1⟩ := h1
    refine x_getf_r (n := h) C rfl ht10 fd_167 (by decide) dX12_chooses_70 ?_
    refine x_iload C 3 dX12_chooses_73 rfl ?_
    obtain ⟨n11, hr12, h1⟩ := h1
    obtain ⟨z14, ht13, h1⟩ := h1
    obtain ⟨hi15, h1⟩ := h1
    refine x_iald (n := n11) C hr12 ht13 hi15 dX12_chooses_75 ?_
    refine x_icmp_gt (tgt := 83) C dX12_chooses_76 (by decide) (fun z9 => ?_) (fun z9 => ?_)
    · have h1 := h1.1 z9
      refine x_keep (L' := [(0, xm_r (some h)), (2, xm_i x2), (4, xm_i x4)]) C [0, 1, 3] rfl ?_
      exact kp_X12_chooses_83 h x2 x4 S8 C N hg hZ7 h1
    · have h1 := h1.2 z9
      refine x_iconst (v := (1 : Int32)) C dX12_chooses_79 (by decide) ?_
      refine x_goto (tgt := 84) C dX12_chooses_80 (by decide) ?_
      refine x_keep (L' := [(0, xm_r (some h)), (2, xm_i x2), (4, xm_i x4)]) C [0, 1, 3] rfl ?_
      exact kp_X12_chooses_84 h x2 x4 (1 : Int32) S8 C N hg hZ7 h1
def wp_X12_chooses_44 (h : Nat) (x2 : Int32) (x3 : Int32) (x4 : Int32) (x5 : Int32) (s0 : Int32) (s1 : Option Nat) (S : xm_S) (g : Int32 → xm_S → Prop) (Z7 : Int32 → Int32 → Int32 → xm_S → Prop) : Prop :=
  wp_X12_chooses_62 h x2 x3 x4 x5 (-1 : Int32) s0 s1 S g Z7
set_option maxRecDepth 100000 in
set_option maxHeartbeats 4000000 in
theorem kp_X12_chooses_44 {K : xm_K} (h : Nat) (x2 : Int32) (x3 : Int32) (x4 : Int32) (x5 : Int32) (s0 : Int32) (s1 : Option Nat) (S : xm_S) {g : Int32 → xm_S → Prop} {Z7 : Int32 → Int32 → Int32 → xm_S → Prop} (C : xm_Cx K cX12_chooses RX12 6 (some (FieldType.boolean)) rm_X12_chooses) (N : xm_Nx K) (hg : ∀ v S, g v S → xm_q K (some (xm_i v)) S) (hZ7 : ∀ x2 x3 x4 S, Z7 x2 x3 x4 S → xm_W K 0 0 7 [(0, xm_r (some h)), (2, xm_i x2), (3, xm_i x3), (4, xm_i x4)] [] S) (h1 : wp_X12_chooses_44 h x2 x3 x4 x5 s0 s1 S g Z7) : xm_W K 0 0 44 [(0, xm_r (some h)), (2, xm_i x2), (3, xm_i x3), (4, xm_i x4), (5, xm_i x5)] [xm_i s0, xm_r s1] S := by
  unfold wp_X12_chooses_44 at h1
  refine x_iconst (v := (-1 : Int32)) C dX12_chooses_44 (by decide) ?_
  refine x_goto (tgt := 62) C dX12_chooses_45 (by decide) ?_
  exact kp_X12_chooses_62 h x2 x3 x4 x5 (-1 : Int32) s0 s1 S C N hg hZ7 h1
def wp_X12_chooses_7B (h : Nat) (x2 : Int32) (x3 : Int32) (x4 : Int32) (S : xm_S) (g : Int32 → xm_S → Prop) (Z7 : Int32 → Int32 → Int32 → xm_S → Prop) : Prop :=
  (x4 < 0 → (x3 = 0 ∨ x3 = 1) ∧ g x3 S) ∧ (¬ x4 < 0 → ∀ y16, y16 = (x2 - x2 / (nI 5) * (nI 5)) → ∀ y18, y18 = (x2 / (nI 5)) → st_t S h = some (12, 0) ∧ (y16 = 0 → wp_X12_chooses_44 h y18 x3 x4 y16 x4 (st_r S h 33) S g Z7) ∧ (¬ y16 = 0 → ∃ n21, (st_r S h 2) = some n21 ∧ ∃ z24, st_t S n21 = some (100, z24) ∧ vp_in x4 z24 ∧ (y16 ≤ (st_i S n21 (x4).toNatClampNeg) → ∃ n26, (st_r S h 32) = some n26 ∧ ∃ z29, st_t S n26 = some (100, z29) ∧ vp_in ((((nI 4) * x4) + y16) - (1 : Int32)) z29 ∧ wp_X12_chooses_62 h y18 x3 x4 y16 (st_i S n26 (((((nI 4) * x4) + y16) - (1 : Int32))).toNatClampNeg) x4 (st_r S h 33) S g Z7) ∧ (¬ y16 ≤ (st_i S n21 (x4).toNatClampNeg) → wp_X12_chooses_44 h y18 x3 x4 y16 x4 (st_r S h 33) S g Z7)))
def wp_X12_chooses_7 (h : Nat) (x2 : Int32) (x3 : Int32) (x4 : Int32) (S : xm_S) (g : Int32 → xm_S → Prop) : Prop :=
  ∀ Z7 : Int32 → Int32 → Int32 → xm_S → Prop, (∀ x2 x3 x4 S, wp_X12_chooses_7B h x2 x3 x4 S g Z7 → Z7 x2 x3 x4 S) → Z7 x2 x3 x4 S
set_option maxRecDepth 100000 in
set_option maxHeartbeats 4000000 in
theorem kp_X12_chooses_7B {K : xm_K} (h : Nat) (x2 : Int32) (x3 : Int32) (x4 : Int32) (S : xm_S) {g : Int32 → xm_S → Prop} {Z7 : Int32 → Int32 → Int32 → xm_S → Prop} (C : xm_Cx K cX12_chooses RX12 6 (some (FieldType.boolean)) rm_X12_chooses) (N : xm_Nx K) (hg : ∀ v S, g v S → xm_q K (some (xm_i v)) S) (hZ7 : ∀ x2 x3 x4 S, Z7 x2 x3 x4 S → xm_W K 0 0 7 [(0, xm_r (some h)), (2, xm_i x2), (3, xm_i x3), (4, xm_i x4)] [] S) (h1 : wp_X12_chooses_7B h x2 x3 x4 S g Z7) : xm_W K 0 0 7 [(0, xm_r (some h)), (2, xm_i x2), (3, xm_i x3), (4, xm_i x4)] [] S := by
  unfold wp_X12_chooses_7B at h1
  refine x_iload C 3 dX12_chooses_7 rfl ?_
  refine x_if_lt (tgt := 91) C dX12_chooses_9 (by decide) (fun z9 => ?_) (fun z9 => ?_)
  · have h1 := h1.1 z9
    refine x_iload_n C 2 dX12_chooses_91 rfl rfl ?_
    exact x_zret C (Nat.le_of_ble_eq_true rfl) (Nat.le_of_ble_eq_true rfl) rfl h1.1 dX12_chooses_92 (hg _ _ h1.2)
  · have h1 := h1.2 z9
    refine x_iload_n C 1 dX12_chooses_12 rfl rfl ?_
    refine x_iconst (v := (nI 5)) C dX12_chooses_13 (by decide) ?_
    refine x_irem C dX12_chooses_14 (by decide) ?_
    refine x_topi (fun y16 e17 => ?_)
    have h1 := h1 y16 e17
    refine x_istore (L' := [(5, xm_i y16), (0, xm_r (some h)), (2, xm_i x2), (3, xm_i x3), (4, xm_i x4)]) C dX12_chooses_15 (by decide) rfl ?_
    refine x_iload_n C 2 dX12_chooses_17 rfl rfl ?_
    refine x_iconst (v := (nI 5)) C dX12_chooses_18 (by decide) ?_
    refine x_idiv C dX12_chooses_19 (by decide) ?_
    refine x_topi (fun y18 e19 => ?_)
    have h1 := h1 y18 e19
    refine x_istore_n (L' := [(2, xm_i y18), (5, xm_i y16), (0, xm_r (some h)), (3, xm_i x3), (4, xm_i x4)]) C dX12_chooses_20 rfl (by decide) rfl ?_
    refine x_aload_n C 2 dX12_chooses_21 rfl rfl ?_
    obtain ⟨ht20, h1⟩ := h1
    refine x_getf_r (n := h) C rfl ht20 fd_166 (by decide) dX12_chooses_22 ?_
    refine x_iload C 4 dX12_chooses_25 rfl ?_
    refine x_iload C 1 dX12_chooses_27 rfl ?_
    refine x_if_eq (tgt := 44) C dX12_chooses_29 (by decide) (fun z9 => ?_) (fun z9 => ?_)
    · have h1 := h1.1 z9
      refine x_keep (L' := [(0, xm_r (some h)), (2, xm_i y18), (3, xm_i x3), (4, xm_i x4), (5, xm_i y16)]) C [2, 0, 3, 4, 1] rfl ?_
      exact kp_X12_chooses_44 h y18 x3 x4 y16 x4 (st_r S h 33) S C N hg hZ7 h1
    · have h1 := h1.2 z9
      refine x_iload C 1 dX12_chooses_32 rfl ?_
      refine x_aload_n C 2 dX12_chooses_34 rfl rfl ?_
      refine x_getf_r (n := h) C rfl ht20 fd_167 (by decide) dX12_chooses_35 ?_
      refine x_iload C 4 dX12_chooses_38 rfl ?_
      obtain ⟨n21, hr22, h1⟩ := h1
      obtain ⟨z24, ht23, h1⟩ := h1
      obtain ⟨hi25, h1⟩ := h1
      refine x_iald (n := n21) C hr22 ht23 hi25 dX12_chooses_40 ?_
      refine x_icmp_le (tgt := 48) C dX12_chooses_41 (by decide) (fun z9 => ?_) (fun z9 => ?_)
      · have h1 := h1.1 z9
        refine x_aload_n C 2 dX12_chooses_48 rfl rfl ?_
        refine x_getf_r (n := h) C rfl ht20 fd_168 (by decide) dX12_chooses_49 ?_
        refine x_iconst (v := (nI 4)) C dX12_chooses_52 (by decide) ?_
        refine x_iload C 4 dX12_chooses_53 rfl ?_
        refine x_imul C dX12_chooses_55 ?_
        refine x_iload C 1 dX12_chooses_56 rfl ?_
        refine x_iadd C dX12_chooses_58 ?_
        refine x_iconst (v := (1 : Int32)) C dX12_chooses_59 (by decide) ?_
        refine x_isub C dX12_chooses_60 ?_
        obtain ⟨n26, hr27, h1⟩ := h1
        obtain ⟨z29, ht28, h1⟩ := h1
        obtain ⟨hi30, h1⟩ := h1
        refine x_iald (n := n26) C hr27 ht28 hi30 dX12_chooses_61 ?_
        refine x_keep (L' := [(0, xm_r (some h)), (2, xm_i y18), (3, xm_i x3), (4, xm_i x4), (5, xm_i y16)]) C [2, 0, 3, 4, 1] rfl ?_
        exact kp_X12_chooses_62 h y18 x3 x4 y16 (st_i S n26 (((((nI 4) * x4) + y16) - (1 : Int32))).toNatClampNeg) x4 (st_r S h 33) S C N hg hZ7 h1
      · have h1 := h1.2 z9
        refine x_keep (L' := [(0, xm_r (some h)), (2, xm_i y18), (3, xm_i x3), (4, xm_i x4), (5, xm_i y16)]) C [2, 0, 3, 4, 1] rfl ?_
        exact kp_X12_chooses_44 h y18 x3 x4 y16 x4 (st_r S h 33) S C N hg hZ7 h1
theorem kp_X12_chooses_7 {K : xm_K} (h : Nat) (x2 : Int32) (x3 : Int32) (x4 : Int32) (S : xm_S) {g : Int32 → xm_S → Prop} (C : xm_Cx K cX12_chooses RX12 6 (some (FieldType.boolean)) rm_X12_chooses) (N : xm_Nx K) (hg : ∀ v S, g v S → xm_q K (some (xm_i v)) S)  (h1 : wp_X12_chooses_7 h x2 x3 x4 S g) : xm_W K 0 0 7 [(0, xm_r (some h)), (2, xm_i x2), (3, xm_i x3), (4, xm_i x4)] [] S :=
  h1 (fun x2 x3 x4 S => xm_W K 0 0 7 [(0, xm_r (some h)), (2, xm_i x2), (3, xm_i x3), (4, xm_i x4)] [] S) (fun x2 x3 x4 S hb => kp_X12_chooses_7B h x2 x3 x4 S C N hg (fun x2 x3 x4 S hz => hz) hb)
def wp_X12_chooses (h : Nat) (x1 : Int32) (S : xm_S) (g : Int32 → xm_S → Prop) : Prop :=
  wp_X12_chooses_7 h x1 (1 : Int32) (nI 5) S g
set_option maxRecDepth 100000 in
set_option maxHeartbeats 4000000 in
theorem kp_X12_chooses {K : xm_K} (h : Nat) (x1 : Int32) (S : xm_S) {g : Int32 → xm_S → Prop} (C : xm_Cx K cX12_chooses RX12 6 (some (FieldType.boolean)) rm_X12_chooses) (N : xm_Nx K) (hg : ∀ v S, g v S → xm_q K (some (xm_i v)) S)  (h1 : wp_X12_chooses h x1 S g) : xm_W K 0 0 0 [(0, xm_r (some h)), (1, xm_i x1)] [] S := by
  unfold wp_X12_chooses at h1
  refine x_iload_n C 1 dX12_chooses_0 rfl rfl ?_
  refine x_istore_n (L' := [(2, xm_i x1), (0, xm_r (some h)), (1, xm_i x1)]) C dX12_chooses_1 rfl (by decide) rfl ?_
  refine x_iconst (v := (1 : Int32)) C dX12_chooses_2 (by decide) ?_
  refine x_istore_n (L' := [(3, xm_i (1 : Int32)), (2, xm_i x1), (0, xm_r (some h)), (1, xm_i x1)]) C dX12_chooses_3 rfl (by decide) rfl ?_
  refine x_iconst (v := (nI 5)) C dX12_chooses_4 (by decide) ?_
  refine x_istore (L' := [(4, xm_i (nI 5)), (3, xm_i (1 : Int32)), (2, xm_i x1), (0, xm_r (some h)), (1, xm_i x1)]) C dX12_chooses_5 (by decide) rfl ?_
  refine x_keep (L' := [(0, xm_r (some h)), (2, xm_i x1), (3, xm_i (1 : Int32)), (4, xm_i (nI 5))]) C [3, 2, 1, 0] rfl ?_
  exact kp_X12_chooses_7 h x1 (1 : Int32) (nI 5) S C N hg  h1
theorem kp_X12_chooses_met {h : Nat} {x1 : Int32} {S : xm_S} {g : Int32 → xm_S → Prop}  (h1 : wp_X12_chooses h x1 S g) : xm_Met yX12_chooses cX12_chooses 6 (some (FieldType.boolean)) rm_X12_chooses [xm_r (some h), xm_i x1] S (xm_qi g) xm_nox :=
  xm_ofW RX12 (by decide +kernel) rfl (Nat.le_of_ble_eq_true rfl) (fun K C N hq hx hi => kp_X12_chooses h x1 S C N (fun v S h => by rw [hq]; exact ⟨v, rfl, h⟩)  h1)
def rm_X12_chosenMany : Room := { frames := 1, cells := 0, slots := 0, locals := 20 }
theorem dX12_chosenMany_0 : decode cX12_chosenMany 0 = .ok (.iconst 0, 1) := by decide +kernel
theorem dX12_chosenMany_1 : decode cX12_chosenMany 1 = .ok (.istore_n 1, 1) := by decide +kernel
theorem dX12_chosenMany_2 : decode cX12_chosenMany 2 = .ok (.iconst 0, 1) := by decide +kernel
theorem dX12_chosenMany_3 : decode cX12_chosenMany 3 = .ok (.istore_n 2, 1) := by decide +kernel
theorem dX12_chosenMany_4 : decode cX12_chosenMany 4 = .ok (.iload_n 2, 1) := by decide +kernel
theorem dX12_chosenMany_5 : decode cX12_chosenMany 5 = .ok (.bipush 6, 2) := by decide +kernel
theorem dX12_chosenMany_7 : decode cX12_chosenMany 7 = .ok (.if_icmp .ge 27, 3) := by decide +kernel
theorem dX12_chosenMany_10 : decode cX12_chosenMany 10 = .ok (.iload_n 1, 1) := by decide +kernel
theorem dX12_chosenMany_11 : decode cX12_chosenMany 11 = .ok (.aload_n 0, 1) := by decide +kernel
theorem dX12_chosenMany_12 : decode cX12_chosenMany 12 = .ok (.getfield 103, 3) := by decide +kernel
theorem dX12_chosenMany_15 : decode cX12_chosenMany 15 = .ok (.iload_n 2, 1) := by decide +kernel
theorem dX12_chosenMany_16 : decode cX12_chosenMany 16 = .ok (.iaload, 1) := by decide +kernel
theorem dX12_chosenMany_17 : decode cX12_chosenMany 17 = .ok (.iconst (-1), 1) := by decide +kernel
theorem dX12_chosenMany_18 : decode cX12_chosenMany 18 = .ok (.if_icmp .ne 7, 3) := by decide +kernel
theorem dX12_chosenMany_21 : decode cX12_chosenMany 21 = .ok (.iconst 0, 1) := by decide +kernel
theorem dX12_chosenMany_22 : decode cX12_chosenMany 22 = .ok (.goto 4, 3) := by decide +kernel
theorem dX12_chosenMany_25 : decode cX12_chosenMany 25 = .ok (.iconst 1, 1) := by decide +kernel
theorem dX12_chosenMany_26 : decode cX12_chosenMany 26 = .ok (.iadd, 1) := by decide +kernel
theorem dX12_chosenMany_27 : decode cX12_chosenMany 27 = .ok (.istore_n 1, 1) := by decide +kernel
theorem dX12_chosenMany_28 : decode cX12_chosenMany 28 = .ok (.iinc 2 1, 3) := by decide +kernel
theorem dX12_chosenMany_31 : decode cX12_chosenMany 31 = .ok (.goto (-27), 3) := by decide +kernel
theorem dX12_chosenMany_34 : decode cX12_chosenMany 34 = .ok (.iload_n 1, 1) := by decide +kernel
theorem dX12_chosenMany_35 : decode cX12_chosenMany 35 = .ok (.ireturn, 1) := by decide +kernel
def wp_X12_chosenMany_26 (h : Nat) (x2 : Int32) (s0 : Int32) (s1 : Int32) (S : xm_S) (g : Int32 → xm_S → Prop) (Z4 : Int32 → Int32 → xm_S → Prop) : Prop :=
  ∀ y1, y1 = (s1 + s0) → ∀ y3, y3 = (x2 + (1 : Int32)) → Z4 y1 y3 S
set_option maxRecDepth 100000 in
set_option maxHeartbeats 4000000 in
theorem kp_X12_chosenMany_26 {K : xm_K} (h : Nat) (x2 : Int32) (s0 : Int32) (s1 : Int32) (S : xm_S) {g : Int32 → xm_S → Prop} {Z4 : Int32 → Int32 → xm_S → Prop} (C : xm_Cx K cX12_chosenMany RX12 3 (some (FieldType.int)) rm_X12_chosenMany) (N : xm_Nx K) (hg : ∀ v S, g v S → xm_q K (some (xm_i v)) S) (hZ4 : ∀ x1 x2 S, Z4 x1 x2 S → xm_W K 0 0 4 [(0, xm_r (some h)), (1, xm_i x1), (2, xm_i x2)] [] S) (h1 : wp_X12_chosenMany_26 h x2 s0 s1 S g Z4) : xm_W K 0 0 26 [(0, xm_r (some h)), (2, xm_i x2)] [xm_i s0, xm_i s1] S := by
  unfold wp_X12_chosenMany_26 at h1
  refine x_iadd C dX12_chosenMany_26 ?_
  refine x_topi (fun y1 e2 => ?_)
  have h1 := h1 y1 e2
  refine x_istore_n (L' := [(1, xm_i y1), (0, xm_r (some h)), (2, xm_i x2)]) C dX12_chosenMany_27 rfl (by decide) rfl ?_
  obtain ⟨y3, e4⟩ : ∃ y3, y3 = (x2 + (1 : Int32)) := ⟨_, rfl⟩
  have h1 := h1 y3 e4
  refine x_iinc (v := y3) (L' := [(2, xm_i y3), (1, xm_i y1), (0, xm_r (some h))]) C 2 dX12_chosenMany_28 rfl (by rw [e4]; rfl) (by decide) rfl ?_
  refine x_goto (tgt := 4) C dX12_chosenMany_31 (by decide) ?_
  refine x_keep (L' := [(0, xm_r (some h)), (1, xm_i y1), (2, xm_i y3)]) C [2, 1, 0] rfl ?_
  exact hZ4 y1 y3 S h1
def wp_X12_chosenMany_4B (h : Nat) (x1 : Int32) (x2 : Int32) (S : xm_S) (g : Int32 → xm_S → Prop) (Z4 : Int32 → Int32 → xm_S → Prop) : Prop :=
  ((nI 6) ≤ x2 → g x1 S) ∧ (¬ (nI 6) ≤ x2 → st_t S h = some (12, 0) ∧ ∃ n6, (st_r S h 33) = some n6 ∧ ∃ z9, st_t S n6 = some (100, z9) ∧ vp_in x2 z9 ∧ (¬ (st_i S n6 (x2).toNatClampNeg) = (-1 : Int32) → wp_X12_chosenMany_26 h x2 (1 : Int32) x1 S g Z4) ∧ ((st_i S n6 (x2).toNatClampNeg) = (-1 : Int32) → wp_X12_chosenMany_26 h x2 (0 : Int32) x1 S g Z4))
def wp_X12_chosenMany_4 (h : Nat) (x1 : Int32) (x2 : Int32) (S : xm_S) (g : Int32 → xm_S → Prop) : Prop :=
  ∀ Z4 : Int32 → Int32 → xm_S → Prop, (∀ x1 x2 S, wp_X12_chosenMany_4B h x1 x2 S g Z4 → Z4 x1 x2 S) → Z4 x1 x2 S
set_option maxRecDepth 100000 in
set_option maxHeartbeats 4000000 in
theorem kp_X12_chosenMany_4B {K : xm_K} (h : Nat) (x1 : Int32) (x2 : Int32) (S : xm_S) {g : Int32 → xm_S → Prop} {Z4 : Int32 → Int32 → xm_S → Prop} (C : xm_Cx K cX12_chosenMany RX12 3 (some (FieldType.int)) rm_X12_chosenMany) (N : xm_Nx K) (hg : ∀ v S, g v S → xm_q K (some (xm_i v)) S) (hZ4 : ∀ x1 x2 S, Z4 x1 x2 S → xm_W K 0 0 4 [(0, xm_r (some h)), (1, xm_i x1), (2, xm_i x2)] [] S) (h1 : wp_X12_chosenMany_4B h x1 x2 S g Z4) : xm_W K 0 0 4 [(0, xm_r (some h)), (1, xm_i x1), (2, xm_i x2)] [] S := by
  unfold wp_X12_chosenMany_4B at h1
  refine x_iload_n C 2 dX12_chosenMany_4 rfl rfl ?_
  refine x_bipush (v := (nI 6)) C dX12_chosenMany_5 (by decide) ?_
  refine x_icmp_ge (tgt := 34) C dX12_chosenMany_7 (by decide) (fun z9 => ?_) (fun z9 => ?_)
  · have h1 := h1.1 z9
    refine x_iload_n C 1 dX12_chosenMany_34 rfl rfl ?_
    exact x_iret C (Nat.le_of_ble_eq_true rfl) (Nat.le_of_ble_eq_true rfl) rfl dX12_chosenMany_35 (hg _ _ h1)
  · have h1 := h1.2 z9
    refine x_iload_n C 1 dX12_chosenMany_10 rfl rfl ?_
    refine x_aload_n C 0 dX12_chosenMany_11 rfl rfl ?_
    obtain ⟨ht5, h1⟩ := h1
    refine x_getf_r (n := h) C rfl ht5 fd_166 (by decide) dX12_chosenMany_12 ?_
    refine x_iload_n C 2 dX12_chosenMany_15 rfl rfl ?_
    obtain ⟨n6, hr7, h1⟩ := h1
    obtain ⟨z9, ht8, h1⟩ := h1
    obtain ⟨hi10, h1⟩ := h1
    refine x_iald (n := n6) C hr7 ht8 hi10 dX12_chosenMany_16 ?_
    refine x_iconst (v := (-1 : Int32)) C dX12_chosenMany_17 (by decide) ?_
    refine x_icmp_ne (tgt := 25) C dX12_chosenMany_18 (by decide) (fun z9 => ?_) (fun z9 => ?_)
    · have h1 := h1.1 z9
      refine x_iconst (v := (1 : Int32)) C dX12_chosenMany_25 (by decide) ?_
      refine x_keep (L' := [(0, xm_r (some h)), (2, xm_i x2)]) C [0, 2] rfl ?_
      exact kp_X12_chosenMany_26 h x2 (1 : Int32) x1 S C N hg hZ4 h1
    · have h1 := h1.2 z9
      refine x_iconst (v := (0 : Int32)) C dX12_chosenMany_21 (by decide) ?_
      refine x_goto (tgt := 26) C dX12_chosenMany_22 (by decide) ?_
      refine x_keep (L' := [(0, xm_r (some h)), (2, xm_i x2)]) C [0, 2] rfl ?_
      exact kp_X12_chosenMany_26 h x2 (0 : Int32) x1 S C N hg hZ4 h1
theorem kp_X12_chosenMany_4 {K : xm_K} (h : Nat) (x1 : Int32) (x2 : Int32) (S : xm_S) {g : Int32 → xm_S → Prop} (C : xm_Cx K cX12_chosenMany RX12 3 (some (FieldType.int)) rm_X12_chosenMany) (N : xm_Nx K) (hg : ∀ v S, g v S → xm_q K (some (xm_i v)) S)  (h1 : wp_X12_chosenMany_4 h x1 x2 S g) : xm_W K 0 0 4 [(0, xm_r (some h)), (1, xm_i x1), (2, xm_i x2)] [] S :=
  h1 (fun x1 x2 S => xm_W K 0 0 4 [(0, xm_r (some h)), (1, xm_i x1), (2, xm_i x2)] [] S) (fun x1 x2 S hb => kp_X12_chosenMany_4B h x1 x2 S C N hg (fun x1 x2 S hz => hz) hb)
def wp_X12_chosenMany (h : Nat)  (S : xm_S) (g : Int32 → xm_S → Prop) : Prop :=
  wp_X12_chosenMany_4 h (0 : Int32) (0 : Int32) S g
set_option maxRecDepth 100000 in
set_option maxHeartbeats 4000000 in
theorem kp_X12_chosenMany {K : xm_K} (h : Nat)  (S : xm_S) {g : Int32 → xm_S → Prop} (C : xm_Cx K cX12_chosenMany RX12 3 (some (FieldType.int)) rm_X12_chosenMany) (N : xm_Nx K) (hg : ∀ v S, g v S → xm_q K (some (xm_i v)) S)  (h1 : wp_X12_chosenMany h  S g) : xm_W K 0 0 0 [(0, xm_r (some h))] [] S := by
  unfold wp_X12_chosenMany at h1
  refine x_iconst (v := (0 : Int32)) C dX12_chosenMany_0 (by decide) ?_
  refine x_istore_n (L' := [(1, xm_i (0 : Int32)), (0, xm_r (some h))]) C dX12_chosenMany_1 rfl (by decide) rfl ?_
  refine x_iconst (v := (0 : Int32)) C dX12_chosenMany_2 (by decide) ?_
  refine x_istore_n (L' := [(2, xm_i (0 : Int32)), (1, xm_i (0 : Int32)), (0, xm_r (some h))]) C dX12_chosenMany_3 rfl (by decide) rfl ?_
  refine x_keep (L' := [(0, xm_r (some h)), (1, xm_i (0 : Int32)), (2, xm_i (0 : Int32))]) C [2, 1, 0] rfl ?_
  exact kp_X12_chosenMany_4 h (0 : Int32) (0 : Int32) S C N hg  h1
theorem kp_X12_chosenMany_met {h : Nat}  {S : xm_S} {g : Int32 → xm_S → Prop}  (h1 : wp_X12_chosenMany h  S g) : xm_Met yX12_chosenMany cX12_chosenMany 3 (some (FieldType.int)) rm_X12_chosenMany [xm_r (some h)] S (xm_qi g) xm_nox :=
  xm_ofW RX12 (by decide +kernel) rfl (Nat.le_of_ble_eq_true rfl) (fun K C N hq hx hi => kp_X12_chosenMany h  S C N (fun v S h => by rw [hq]; exact ⟨v, rfl, h⟩)  h1)
def rm_X12_isIn : Room := { frames := 1, cells := 0, slots := 0, locals := 20 }
theorem dX12_isIn_0 : decode cX12_isIn 0 = .ok (.iload_n 0, 1) := by decide +kernel
theorem dX12_isIn_1 : decode cX12_isIn 1 = .ok (.iload_n 1, 1) := by decide +kernel
theorem dX12_isIn_2 : decode cX12_isIn 2 = .ok (.ishr, 1) := by decide +kernel
theorem dX12_isIn_3 : decode cX12_isIn 3 = .ok (.iconst 1, 1) := by decide +kernel
theorem dX12_isIn_4 : decode cX12_isIn 4 = .ok (.iand, 1) := by decide +kernel
theorem dX12_isIn_5 : decode cX12_isIn 5 = .ok (.iconst 1, 1) := by decide +kernel
theorem dX12_isIn_6 : decode cX12_isIn 6 = .ok (.if_icmp .ne 7, 3) := by decide +kernel
theorem dX12_isIn_9 : decode cX12_isIn 9 = .ok (.iconst 1, 1) := by decide +kernel
theorem dX12_isIn_10 : decode cX12_isIn 10 = .ok (.goto 4, 3) := by decide +kernel
theorem dX12_isIn_13 : decode cX12_isIn 13 = .ok (.iconst 0, 1) := by decide +kernel
theorem dX12_isIn_14 : decode cX12_isIn 14 = .ok (.ireturn, 1) := by decide +kernel
def wp_X12_isIn_14 (s0 : Int32) (S : xm_S) (g : Int32 → xm_S → Prop) : Prop :=
  (s0 = 0 ∨ s0 = 1) ∧ g s0 S
set_option maxRecDepth 100000 in
set_option maxHeartbeats 4000000 in
theorem kp_X12_isIn_14 {K : xm_K} (s0 : Int32) (S : xm_S) {g : Int32 → xm_S → Prop} (C : xm_Cx K cX12_isIn RX12 2 (some (FieldType.boolean)) rm_X12_isIn) (N : xm_Nx K) (hg : ∀ v S, g v S → xm_q K (some (xm_i v)) S)  (h1 : wp_X12_isIn_14 s0 S g) : xm_W K 0 0 14 [] [xm_i s0] S := by
  unfold wp_X12_isIn_14 at h1
  exact x_zret C (Nat.le_of_ble_eq_true rfl) (Nat.le_of_ble_eq_true rfl) rfl h1.1 dX12_isIn_14 (hg _ _ h1.2)
def wp_X12_isIn (x0 : Int32) (x1 : Int32) (S : xm_S) (g : Int32 → xm_S → Prop) : Prop :=
  (¬ ((x0 >>> (x1 &&& 31)) &&& (1 : Int32)) = (1 : Int32) → wp_X12_isIn_14 (0 : Int32) S g) ∧ (((x0 >>> (x1 &&& 31)) &&& (1 : Int32)) = (1 : Int32) → wp_X12_isIn_14 (1 : Int32) S g)
set_option maxRecDepth 100000 in
set_option maxHeartbeats 4000000 in
theorem kp_X12_isIn {K : xm_K} (x0 : Int32) (x1 : Int32) (S : xm_S) {g : Int32 → xm_S → Prop} (C : xm_Cx K cX12_isIn RX12 2 (some (FieldType.boolean)) rm_X12_isIn) (N : xm_Nx K) (hg : ∀ v S, g v S → xm_q K (some (xm_i v)) S)  (h1 : wp_X12_isIn x0 x1 S g) : xm_W K 0 0 0 [(0, xm_i x0), (1, xm_i x1)] [] S := by
  unfold wp_X12_isIn at h1
  refine x_iload_n C 0 dX12_isIn_0 rfl rfl ?_
  refine x_iload_n C 1 dX12_isIn_1 rfl rfl ?_
  refine x_ishr C dX12_isIn_2 ?_
  refine x_iconst (v := (1 : Int32)) C dX12_isIn_3 (by decide) ?_
  refine x_iand C dX12_isIn_4 ?_
  refine x_iconst (v := (1 : Int32)) C dX12_isIn_5 (by decide) ?_
  refine x_icmp_ne (tgt := 13) C dX12_isIn_6 (by decide) (fun z9 => ?_) (fun z9 => ?_)
  · have h1 := h1.1 z9
    refine x_iconst (v := (0 : Int32)) C dX12_isIn_13 (by decide) ?_
    refine x_keep (L' := []) C [] rfl ?_
    exact kp_X12_isIn_14 (0 : Int32) S C N hg  h1
  · have h1 := h1.2 z9
    refine x_iconst (v := (1 : Int32)) C dX12_isIn_9 (by decide) ?_
    refine x_goto (tgt := 14) C dX12_isIn_10 (by decide) ?_
    refine x_keep (L' := []) C [] rfl ?_
    exact kp_X12_isIn_14 (1 : Int32) S C N hg  h1
theorem kp_X12_isIn_met {x0 : Int32} {x1 : Int32} {S : xm_S} {g : Int32 → xm_S → Prop}  (h1 : wp_X12_isIn x0 x1 S g) : xm_Met yX12_isIn cX12_isIn 2 (some (FieldType.boolean)) rm_X12_isIn [xm_i x0, xm_i x1] S (xm_qi g) xm_nox :=
  xm_ofW RX12 (by decide +kernel) rfl (Nat.le_of_ble_eq_true rfl) (fun K C N hq hx hi => kp_X12_isIn x0 x1 S C N (fun v S h => by rw [hq]; exact ⟨v, rfl, h⟩)  h1)
def rm_X12_hasConflict : Room := { frames := 2, cells := 0, slots := 0, locals := 41 }
theorem dX12_hasConflict_0 : decode cX12_hasConflict 0 = .ok (.iconst 4, 1) := by decide +kernel
theorem dX12_hasConflict_1 : decode cX12_hasConflict 1 = .ok (.iload_n 1, 1) := by decide +kernel
theorem dX12_hasConflict_2 : decode cX12_hasConflict 2 = .ok (.imul, 1) := by decide +kernel
theorem dX12_hasConflict_3 : decode cX12_hasConflict 3 = .ok (.aload_n 0, 1) := by decide +kernel
theorem dX12_hasConflict_4 : decode cX12_hasConflict 4 = .ok (.getfield 103, 3) := by decide +kernel
theorem dX12_hasConflict_7 : decode cX12_hasConflict 7 = .ok (.iload_n 1, 1) := by decide +kernel
theorem dX12_hasConflict_8 : decode cX12_hasConflict 8 = .ok (.iaload, 1) := by decide +kernel
theorem dX12_hasConflict_9 : decode cX12_hasConflict 9 = .ok (.iadd, 1) := by decide +kernel
theorem dX12_hasConflict_10 : decode cX12_hasConflict 10 = .ok (.istore_n 2, 1) := by decide +kernel
theorem dX12_hasConflict_11 : decode cX12_hasConflict 11 = .ok (.iconst 0, 1) := by decide +kernel
theorem dX12_hasConflict_12 : decode cX12_hasConflict 12 = .ok (.istore_n 3, 1) := by decide +kernel
theorem dX12_hasConflict_13 : decode cX12_hasConflict 13 = .ok (.iconst 2, 1) := by decide +kernel
theorem dX12_hasConflict_14 : decode cX12_hasConflict 14 = .ok (.iload_n 2, 1) := by decide +kernel
theorem dX12_hasConflict_15 : decode cX12_hasConflict 15 = .ok (.imul, 1) := by decide +kernel
theorem dX12_hasConflict_16 : decode cX12_hasConflict 16 = .ok (.istore 4, 2) := by decide +kernel
theorem dX12_hasConflict_18 : decode cX12_hasConflict 18 = .ok (.iload 4, 2) := by decide +kernel
theorem dX12_hasConflict_20 : decode cX12_hasConflict 20 = .ok (.iconst 2, 1) := by decide +kernel
theorem dX12_hasConflict_21 : decode cX12_hasConflict 21 = .ok (.iload_n 2, 1) := by decide +kernel
theorem dX12_hasConflict_22 : decode cX12_hasConflict 22 = .ok (.imul, 1) := by decide +kernel
theorem dX12_hasConflict_23 : decode cX12_hasConflict 23 = .ok (.aload_n 0, 1) := by decide +kernel
theorem dX12_hasConflict_24 : decode cX12_hasConflict 24 = .ok (.getfield 47, 3) := by decide +kernel
theorem dX12_hasConflict_27 : decode cX12_hasConflict 27 = .ok (.iload_n 2, 1) := by decide +kernel
theorem dX12_hasConflict_28 : decode cX12_hasConflict 28 = .ok (.iaload, 1) := by decide +kernel
theorem dX12_hasConflict_29 : decode cX12_hasConflict 29 = .ok (.iadd, 1) := by decide +kernel
theorem dX12_hasConflict_30 : decode cX12_hasConflict 30 = .ok (.if_icmp .ge 158, 3) := by decide +kernel
theorem dX12_hasConflict_33 : decode cX12_hasConflict 33 = .ok (.aload_n 0, 1) := by decide +kernel
theorem dX12_hasConflict_34 : decode cX12_hasConflict 34 = .ok (.getfield 50, 3) := by decide +kernel
theorem dX12_hasConflict_37 : decode cX12_hasConflict 37 = .ok (.iload 4, 2) := by decide +kernel
theorem dX12_hasConflict_39 : decode cX12_hasConflict 39 = .ok (.iaload, 1) := by decide +kernel
theorem dX12_hasConflict_40 : decode cX12_hasConflict 40 = .ok (.istore 5, 2) := by decide +kernel
theorem dX12_hasConflict_42 : decode cX12_hasConflict 42 = .ok (.iload_n 3, 1) := by decide +kernel
theorem dX12_hasConflict_43 : decode cX12_hasConflict 43 = .ok (.ifCond .ne 37, 3) := by decide +kernel
theorem dX12_hasConflict_46 : decode cX12_hasConflict 46 = .ok (.aload_n 0, 1) := by decide +kernel
theorem dX12_hasConflict_47 : decode cX12_hasConflict 47 = .ok (.getfield 103, 3) := by decide +kernel
theorem dX12_hasConflict_50 : decode cX12_hasConflict 50 = .ok (.iload 5, 2) := by decide +kernel
theorem dX12_hasConflict_52 : decode cX12_hasConflict 52 = .ok (.iaload, 1) := by decide +kernel
theorem dX12_hasConflict_53 : decode cX12_hasConflict 53 = .ok (.iconst (-1), 1) := by decide +kernel
theorem dX12_hasConflict_54 : decode cX12_hasConflict 54 = .ok (.if_icmp .eq 30, 3) := by decide +kernel
theorem dX12_hasConflict_57 : decode cX12_hasConflict 57 = .ok (.aload_n 0, 1) := by decide +kernel
theorem dX12_hasConflict_58 : decode cX12_hasConflict 58 = .ok (.getfield 93, 3) := by decide +kernel
theorem dX12_hasConflict_61 : decode cX12_hasConflict 61 = .ok (.bipush 96, 2) := by decide +kernel
theorem dX12_hasConflict_63 : decode cX12_hasConflict 63 = .ok (.iload 4, 2) := by decide +kernel
theorem dX12_hasConflict_65 : decode cX12_hasConflict 65 = .ok (.iadd, 1) := by decide +kernel
theorem dX12_hasConflict_66 : decode cX12_hasConflict 66 = .ok (.iaload, 1) := by decide +kernel
theorem dX12_hasConflict_67 : decode cX12_hasConflict 67 = .ok (.aload_n 0, 1) := by decide +kernel
theorem dX12_hasConflict_68 : decode cX12_hasConflict 68 = .ok (.getfield 103, 3) := by decide +kernel
theorem dX12_hasConflict_71 : decode cX12_hasConflict 71 = .ok (.iload 5, 2) := by decide +kernel
theorem dX12_hasConflict_73 : decode cX12_hasConflict 73 = .ok (.iaload, 1) := by decide +kernel
theorem dX12_hasConflict_74 : decode cX12_hasConflict 74 = .ok (.invokestatic 264, 3) := by decide +kernel
theorem dX12_hasConflict_77 : decode cX12_hasConflict 77 = .ok (.ifCond .eq 7, 3) := by decide +kernel
theorem dX12_hasConflict_80 : decode cX12_hasConflict 80 = .ok (.iconst 1, 1) := by decide +kernel
theorem dX12_hasConflict_81 : decode cX12_hasConflict 81 = .ok (.goto 4, 3) := by decide +kernel
theorem dX12_hasConflict_84 : decode cX12_hasConflict 84 = .ok (.iconst 0, 1) := by decide +kernel
theorem dX12_hasConflict_85 : decode cX12_hasConflict 85 = .ok (.istore_n 3, 1) := by decide +kernel
theorem dX12_hasConflict_86 : decode cX12_hasConflict 86 = .ok (.iconst 0, 1) := by decide +kernel
theorem dX12_hasConflict_87 : decode cX12_hasConflict 87 = .ok (.istore 6, 2) := by decide +kernel
theorem dX12_hasConflict_89 : decode cX12_hasConflict 89 = .ok (.iload 6, 2) := by decide +kernel
theorem dX12_hasConflict_91 : decode cX12_hasConflict 91 = .ok (.bipush 6, 2) := by decide +kernel
theorem dX12_hasConflict_93 : decode cX12_hasConflict 93 = .ok (.if_icmp .ge 89, 3) := by decide +kernel
theorem dX12_hasConflict_96 : decode cX12_hasConflict 96 = .ok (.aload_n 0, 1) := by decide +kernel
theorem dX12_hasConflict_97 : decode cX12_hasConflict 97 = .ok (.getfield 103, 3) := by decide +kernel
theorem dX12_hasConflict_100 : decode cX12_hasConflict 100 = .ok (.iload 6, 2) := by decide +kernel
theorem dX12_hasConflict_102 : decode cX12_hasConflict 102 = .ok (.iaload, 1) := by decide +kernel
theorem dX12_hasConflict_103 : decode cX12_hasConflict 103 = .ok (.iconst (-1), 1) := by decide +kernel
theorem dX12_hasConflict_104 : decode cX12_hasConflict 104 = .ok (.if_icmp .ne 7, 3) := by decide +kernel
theorem dX12_hasConflict_107 : decode cX12_hasConflict 107 = .ok (.iconst 0, 1) := by decide +kernel
theorem dX12_hasConflict_108 : decode cX12_hasConflict 108 = .ok (.goto 15, 3) := by decide +kernel
theorem dX12_hasConflict_111 : decode cX12_hasConflict 111 = .ok (.iconst 4, 1) := by decide +kernel
theorem dX12_hasConflict_112 : decode cX12_hasConflict 112 = .ok (.iload 6, 2) := by decide +kernel
theorem dX12_hasConflict_114 : decode cX12_hasConflict 114 = .ok (.imul, 1) := by decide +kernel
theorem dX12_hasConflict_115 : decode cX12_hasConflict 115 = .ok (.aload_n 0, 1) := by decide +kernel
theorem dX12_hasConflict_116 : decode cX12_hasConflict 116 = .ok (.getfield 103, 3) := by decide +kernel
theorem dX12_hasConflict_119 : decode cX12_hasConflict 119 = .ok (.iload 6, 2) := by decide +kernel
theorem dX12_hasConflict_121 : decode cX12_hasConflict 121 = .ok (.iaload, 1) := by decide +kernel
theorem dX12_hasConflict_122 : decode cX12_hasConflict 122 = .ok (.iadd, 1) := by decide +kernel
theorem dX12_hasConflict_123 : decode cX12_hasConflict 123 = .ok (.istore 7, 2) := by decide +kernel
theorem dX12_hasConflict_125 : decode cX12_hasConflict 125 = .ok (.iload_n 3, 1) := by decide +kernel
theorem dX12_hasConflict_126 : decode cX12_hasConflict 126 = .ok (.ifCond .ne 44, 3) := by decide +kernel
theorem dX12_hasConflict_129 : decode cX12_hasConflict 129 = .ok (.iload 6, 2) := by decide +kernel
theorem dX12_hasConflict_131 : decode cX12_hasConflict 131 = .ok (.iload_n 1, 1) := by decide +kernel
theorem dX12_hasConflict_132 : decode cX12_hasConflict 132 = .ok (.if_icmp .eq 42, 3) := by decide +kernel
theorem dX12_hasConflict_135 : decode cX12_hasConflict 135 = .ok (.aload_n 0, 1) := by decide +kernel
theorem dX12_hasConflict_136 : decode cX12_hasConflict 136 = .ok (.getfield 103, 3) := by decide +kernel
theorem dX12_hasConflict_139 : decode cX12_hasConflict 139 = .ok (.iload 6, 2) := by decide +kernel
theorem dX12_hasConflict_141 : decode cX12_hasConflict 141 = .ok (.iaload, 1) := by decide +kernel
theorem dX12_hasConflict_142 : decode cX12_hasConflict 142 = .ok (.iconst (-1), 1) := by decide +kernel
theorem dX12_hasConflict_143 : decode cX12_hasConflict 143 = .ok (.if_icmp .eq 31, 3) := by decide +kernel
theorem dX12_hasConflict_146 : decode cX12_hasConflict 146 = .ok (.aload_n 0, 1) := by decide +kernel
theorem dX12_hasConflict_147 : decode cX12_hasConflict 147 = .ok (.getfield 96, 3) := by decide +kernel
theorem dX12_hasConflict_150 : decode cX12_hasConflict 150 = .ok (.bipush 96, 2) := by decide +kernel
theorem dX12_hasConflict_152 : decode cX12_hasConflict 152 = .ok (.iload 4, 2) := by decide +kernel
theorem dX12_hasConflict_154 : decode cX12_hasConflict 154 = .ok (.iadd, 1) := by decide +kernel
theorem dX12_hasConflict_155 : decode cX12_hasConflict 155 = .ok (.laload, 1) := by decide +kernel
theorem dX12_hasConflict_156 : decode cX12_hasConflict 156 = .ok (.iconst 2, 1) := by decide +kernel
theorem dX12_hasConflict_157 : decode cX12_hasConflict 157 = .ok (.iload 7, 2) := by decide +kernel
theorem dX12_hasConflict_159 : decode cX12_hasConflict 159 = .ok (.imul, 1) := by decide +kernel
theorem dX12_hasConflict_160 : decode cX12_hasConflict 160 = .ok (.lshr, 1) := by decide +kernel
theorem dX12_hasConflict_161 : decode cX12_hasConflict 161 = .ok (.ldc2_w 267, 3) := by decide +kernel
theorem dX12_hasConflict_164 : decode cX12_hasConflict 164 = .ok (.land, 1) := by decide +kernel
theorem dX12_hasConflict_165 : decode cX12_hasConflict 165 = .ok (.lconst 0, 1) := by decide +kernel
theorem dX12_hasConflict_166 : decode cX12_hasConflict 166 = .ok (.lcmp, 1) := by decide +kernel
theorem dX12_hasConflict_167 : decode cX12_hasConflict 167 = .ok (.ifCond .eq 7, 3) := by decide +kernel
theorem dX12_hasConflict_170 : decode cX12_hasConflict 170 = .ok (.iconst 1, 1) := by decide +kernel
theorem dX12_hasConflict_171 : decode cX12_hasConflict 171 = .ok (.goto 4, 3) := by decide +kernel
theorem dX12_hasConflict_174 : decode cX12_hasConflict 174 = .ok (.iconst 0, 1) := by decide +kernel
theorem dX12_hasConflict_175 : decode cX12_hasConflict 175 = .ok (.istore_n 3, 1) := by decide +kernel
theorem dX12_hasConflict_176 : decode cX12_hasConflict 176 = .ok (.iinc 6 1, 3) := by decide +kernel
theorem dX12_hasConflict_179 : decode cX12_hasConflict 179 = .ok (.goto (-90), 3) := by decide +kernel
theorem dX12_hasConflict_182 : decode cX12_hasConflict 182 = .ok (.iinc 4 1, 3) := by decide +kernel
theorem dX12_hasConflict_185 : decode cX12_hasConflict 185 = .ok (.goto (-167), 3) := by decide +kernel
theorem dX12_hasConflict_188 : decode cX12_hasConflict 188 = .ok (.iload_n 3, 1) := by decide +kernel
theorem dX12_hasConflict_189 : decode cX12_hasConflict 189 = .ok (.ireturn, 1) := by decide +kernel
def wp_X12_hasConflict_175 (h : Nat) (x1 : Int32) (x2 : Int32) (x4 : Int32) (x6 : Int32) (s0 : Int32) (S : xm_S) (g : Int32 → xm_S → Prop) (Z18 : Int32 → Int32 → Int32 → Int32 → xm_S → Prop) (Z89 : Int32 → Int32 → Int32 → Int32 → Int32 → xm_S → Prop) : Prop :=
  ∀ y1, y1 = (x6 + (1 : Int32)) → Z89 x1 x2 s0 x4 y1 S
set_option maxRecDepth 100000 in
set_option maxHeartbeats 4000000 in
theorem kp_X12_hasConflict_175 {K : xm_K} (h : Nat) (x1 : Int32) (x2 : Int32) (x4 : Int32) (x6 : Int32) (s0 : Int32) (S : xm_S) {g : Int32 → xm_S → Prop} {Z18 : Int32 → Int32 → Int32 → Int32 → xm_S → Prop} {Z89 : Int32 → Int32 → Int32 → Int32 → Int32 → xm_S → Prop} (C : xm_Cx K cX12_hasConflict RX12 8 (some (FieldType.boolean)) rm_X12_hasConflict) (N : xm_Nx K) (hg : ∀ v S, g v S → xm_q K (some (xm_i v)) S) (hZ18 : ∀ x1 x2 x3 x4 S, Z18 x1 x2 x3 x4 S → xm_W K 0 0 18 [(0, xm_r (some h)), (1, xm_i x1), (2, xm_i x2), (3, xm_i x3), (4, xm_i x4)] [] S) (hZ89 : ∀ x1 x2 x3 x4 x6 S, Z89 x1 x2 x3 x4 x6 S → xm_W K 0 0 89 [(0, xm_r (some h)), (1, xm_i x1), (2, xm_i x2), (3, xm_i x3), (4, xm_i x4), (6, xm_i x6)] [] S) (h1 : wp_X12_hasConflict_175 h x1 x2 x4 x6 s0 S g Z18 Z89) : xm_W K 0 0 175 [(0, xm_r (some h)), (1, xm_i x1), (2, xm_i x2), (4, xm_i x4), (6, xm_i x6)] [xm_i s0] S := by
  unfold wp_X12_hasConflict_175 at h1
  refine x_istore_n (L' := [(3, xm_i s0), (0, xm_r (some h)), (1, xm_i x1), (2, xm_i x2), (4, xm_i x4), (6, xm_i x6)]) C dX12_hasConflict_175 rfl (by decide) rfl ?_
  obtain ⟨y1, e2⟩ : ∃ y1, y1 = (x6 + (1 : Int32)) := ⟨_, rfl⟩
  have h1 := h1 y1 e2
  refine x_iinc (v := y1) (L' := [(6, xm_i y1), (3, xm_i s0), (0, xm_r (some h)), (1, xm_i x1), (2, xm_i x2), (4, xm_i x4)]) C 5 dX12_hasConflict_176 rfl (by rw [e2]; rfl) (by decide) rfl ?_
  refine x_goto (tgt := 89) C dX12_hasConflict_179 (by decide) ?_
  refine x_keep (L' := [(0, xm_r (some h)), (1, xm_i x1), (2, xm_i x2), (3, xm_i s0), (4, xm_i x4), (6, xm_i y1)]) C [2, 3, 4, 1, 5, 0] rfl ?_
  exact hZ89 x1 x2 s0 x4 y1 S h1
def wp_X12_hasConflict_170 (h : Nat) (x1 : Int32) (x2 : Int32) (x4 : Int32) (x6 : Int32) (S : xm_S) (g : Int32 → xm_S → Prop) (Z18 : Int32 → Int32 → Int32 → Int32 → xm_S → Prop) (Z89 : Int32 → Int32 → Int32 → Int32 → Int32 → xm_S → Prop) : Prop :=
  wp_X12_hasConflict_175 h x1 x2 x4 x6 (1 : Int32) S g Z18 Z89
set_option maxRecDepth 100000 in
set_option maxHeartbeats 4000000 in
theorem kp_X12_hasConflict_170 {K : xm_K} (h : Nat) (x1 : Int32) (x2 : Int32) (x4 : Int32) (x6 : Int32) (S : xm_S) {g : Int32 → xm_S → Prop} {Z18 : Int32 → Int32 → Int32 → Int32 → xm_S → Prop} {Z89 : Int32 → Int32 → Int32 → Int32 → Int32 → xm_S → Prop} (C : xm_Cx K cX12_hasConflict RX12 8 (some (FieldType.boolean)) rm_X12_hasConflict) (N : xm_Nx K) (hg : ∀ v S, g v S → xm_q K (some (xm_i v)) S) (hZ18 : ∀ x1 x2 x3 x4 S, Z18 x1 x2 x3 x4 S → xm_W K 0 0 18 [(0, xm_r (some h)), (1, xm_i x1), (2, xm_i x2), (3, xm_i x3), (4, xm_i x4)] [] S) (hZ89 : ∀ x1 x2 x3 x4 x6 S, Z89 x1 x2 x3 x4 x6 S → xm_W K 0 0 89 [(0, xm_r (some h)), (1, xm_i x1), (2, xm_i x2), (3, xm_i x3), (4, xm_i x4), (6, xm_i x6)] [] S) (h1 : wp_X12_hasConflict_170 h x1 x2 x4 x6 S g Z18 Z89) : xm_W K 0 0 170 [(0, xm_r (some h)), (1, xm_i x1), (2, xm_i x2), (4, xm_i x4), (6, xm_i x6)] [] S := by
  unfold wp_X12_hasConflict_170 at h1
  refine x_iconst (v := (1 : Int32)) C dX12_hasConflict_170 (by decide) ?_
  refine x_goto (tgt := 175) C dX12_hasConflict_171 (by decide) ?_
  exact kp_X12_hasConflict_175 h x1 x2 x4 x6 (1 : Int32) S C N hg hZ18 hZ89 h1
def wp_X12_hasConflict_174 (h : Nat) (x1 : Int32) (x2 : Int32) (x4 : Int32) (x6 : Int32) (S : xm_S) (g : Int32 → xm_S → Prop) (Z18 : Int32 → Int32 → Int32 → Int32 → xm_S → Prop) (Z89 : Int32 → Int32 → Int32 → Int32 → Int32 → xm_S → Prop) : Prop :=
  wp_X12_hasConflict_175 h x1 x2 x4 x6 (0 : Int32) S g Z18 Z89
set_option maxRecDepth 100000 in
set_option maxHeartbeats 4000000 in
theorem kp_X12_hasConflict_174 {K : xm_K} (h : Nat) (x1 : Int32) (x2 : Int32) (x4 : Int32) (x6 : Int32) (S : xm_S) {g : Int32 → xm_S → Prop} {Z18 : Int32 → Int32 → Int32 → Int32 → xm_S → Prop} {Z89 : Int32 → Int32 → Int32 → Int32 → Int32 → xm_S → Prop} (C : xm_Cx K cX12_hasConflict RX12 8 (some (FieldType.boolean)) rm_X12_hasConflict) (N : xm_Nx K) (hg : ∀ v S, g v S → xm_q K (some (xm_i v)) S) (hZ18 : ∀ x1 x2 x3 x4 S, Z18 x1 x2 x3 x4 S → xm_W K 0 0 18 [(0, xm_r (some h)), (1, xm_i x1), (2, xm_i x2), (3, xm_i x3), (4, xm_i x4)] [] S) (hZ89 : ∀ x1 x2 x3 x4 x6 S, Z89 x1 x2 x3 x4 x6 S → xm_W K 0 0 89 [(0, xm_r (some h)), (1, xm_i x1), (2, xm_i x2), (3, xm_i x3), (4, xm_i x4), (6, xm_i x6)] [] S) (h1 : wp_X12_hasConflict_174 h x1 x2 x4 x6 S g Z18 Z89) : xm_W K 0 0 174 [(0, xm_r (some h)), (1, xm_i x1), (2, xm_i x2), (4, xm_i x4), (6, xm_i x6)] [] S := by
  unfold wp_X12_hasConflict_174 at h1
  refine x_iconst (v := (0 : Int32)) C dX12_hasConflict_174 (by decide) ?_
  exact kp_X12_hasConflict_175 h x1 x2 x4 x6 (0 : Int32) S C N hg hZ18 hZ89 h1
def wp_X12_hasConflict_123 (h : Nat) (x1 : Int32) (x2 : Int32) (x3 : Int32) (x4 : Int32) (x6 : Int32) (s0 : Int32) (S : xm_S) (g : Int32 → xm_S → Prop) (Z18 : Int32 → Int32 → Int32 → Int32 → xm_S → Prop) (Z89 : Int32 → Int32 → Int32 → Int32 → Int32 → xm_S → Prop) : Prop :=
  (¬ x3 = 0 → wp_X12_hasConflict_170 h x1 x2 x4 x6 S g Z18 Z89) ∧ (x3 = 0 → (x6 = x1 → wp_X12_hasConflict_174 h x1 x2 x4 x6 S g Z18 Z89) ∧ (¬ x6 = x1 → st_t S h = some (12, 0) ∧ ∃ n4, (st_r S h 33) = some n4 ∧ ∃ z7, st_t S n4 = some (100, z7) ∧ vp_in x6 z7 ∧ ((st_i S n4 (x6).toNatClampNeg) = (-1 : Int32) → wp_X12_hasConflict_174 h x1 x2 x4 x6 S g Z18 Z89) ∧ (¬ (st_i S n4 (x6).toNatClampNeg) = (-1 : Int32) → ∃ n9, (st_r S h 31) = some n9 ∧ ∃ z12, st_t S n9 = some (103, z12) ∧ vp_in ((nI 96) + x4) z12 ∧ ((lg_cmp (((st_l S n9 (((nI 96) + x4)).toNatClampNeg) >>> (((nI 2) * s0).toInt64 &&& 63)) &&& (3 : Int64)) (0 : Int64)) = 0 → wp_X12_hasConflict_174 h x1 x2 x4 x6 S g Z18 Z89) ∧ (¬ (lg_cmp (((st_l S n9 (((nI 96) + x4)).toNatClampNeg) >>> (((nI 2) * s0).toInt64 &&& 63)) &&& (3 : Int64)) (0 : Int64)) = 0 → wp_X12_hasConflict_170 h x1 x2 x4 x6 S g Z18 Z89))))
set_option maxRecDepth 100000 in
set_option maxHeartbeats 4000000 in
theorem kp_X12_hasConflict_123 {K : xm_K} (h : Nat) (x1 : Int32) (x2 : Int32) (x3 : Int32) (x4 : Int32) (x6 : Int32) (s0 : Int32) (S : xm_S) {g : Int32 → xm_S → Prop} {Z18 : Int32 → Int32 → Int32 → Int32 → xm_S → Prop} {Z89 : Int32 → Int32 → Int32 → Int32 → Int32 → xm_S → Prop} (C : xm_Cx K cX12_hasConflict RX12 8 (some (FieldType.boolean)) rm_X12_hasConflict) (N : xm_Nx K) (hg : ∀ v S, g v S → xm_q K (some (xm_i v)) S) (hZ18 : ∀ x1 x2 x3 x4 S, Z18 x1 x2 x3 x4 S → xm_W K 0 0 18 [(0, xm_r (some h)), (1, xm_i x1), (2, xm_i x2), (3, xm_i x3), (4, xm_i x4)] [] S) (hZ89 : ∀ x1 x2 x3 x4 x6 S, Z89 x1 x2 x3 x4 x6 S → xm_W K 0 0 89 [(0, xm_r (some h)), (1, xm_i x1), (2, xm_i x2), (3, xm_i x3), (4, xm_i x4), (6, xm_i x6)] [] S) (h1 : wp_X12_hasConflict_123 h x1 x2 x3 x4 x6 s0 S g Z18 Z89) : xm_W K 0 0 123 [(0, xm_r (some h)), (1, xm_i x1), (2, xm_i x2), (3, xm_i x3), (4, xm_i x4), (6, xm_i x6)] [xm_i s0] S := by
  unfold wp_X12_hasConflict_123 at h1
  refine x_istore (L' := [(7, xm_i s0), (0, xm_r (some h)), (1, xm_i x1), (2, xm_i x2), (3, xm_i x3), (4, xm_i x4), (6, xm_i x6)]) C dX12_hasConflict_123 (by decide) rfl ?_
  refine x_iload_n C 4 dX12_hasConflict_125 rfl rfl ?_
  refine x_if_ne (tgt := 170) C dX12_hasConflict_126 (by decide) (fun z9 => ?_) (fun z9 => ?_)
  · have h1 := h1.1 z9
    refine x_keep (L' := [(0, xm_r (some h)), (1, xm_i x1), (2, xm_i x2), (4, xm_i x4), (6, xm_i x6)]) C [1, 2, 3, 5, 6] rfl ?_
    exact kp_X12_hasConflict_170 h x1 x2 x4 x6 S C N hg hZ18 hZ89 h1
  · have h1 := h1.2 z9
    refine x_iload C 6 dX12_hasConflict_129 rfl ?_
    refine x_iload_n C 2 dX12_hasConflict_131 rfl rfl ?_
    refine x_icmp_eq (tgt := 174) C dX12_hasConflict_132 (by decide) (fun z9 => ?_) (fun z9 => ?_)
    · have h1 := h1.1 z9
      refine x_keep (L' := [(0, xm_r (some h)), (1, xm_i x1), (2, xm_i x2), (4, xm_i x4), (6, xm_i x6)]) C [1, 2, 3, 5, 6] rfl ?_
      exact kp_X12_hasConflict_174 h x1 x2 x4 x6 S C N hg hZ18 hZ89 h1
    · have h1 := h1.2 z9
      refine x_aload_n C 1 dX12_hasConflict_135 rfl rfl ?_
      obtain ⟨ht3, h1⟩ := h1
      refine x_getf_r (n := h) C rfl ht3 fd_166 (by decide) dX12_hasConflict_136 ?_
      refine x_iload C 6 dX12_hasConflict_139 rfl ?_
      obtain ⟨n4, hr5, h1⟩ := h1
      obtain ⟨z7, ht6, h1⟩ := h1
      obtain ⟨hi8, h1⟩ := h1
      refine x_iald (n := n4) C hr5 ht6 hi8 dX12_hasConflict_141 ?_
      refine x_iconst (v := (-1 : Int32)) C dX12_hasConflict_142 (by decide) ?_
      refine x_icmp_eq (tgt := 174) C dX12_hasConflict_143 (by decide) (fun z9 => ?_) (fun z9 => ?_)
      · have h1 := h1.1 z9
        refine x_keep (L' := [(0, xm_r (some h)), (1, xm_i x1), (2, xm_i x2), (4, xm_i x4), (6, xm_i x6)]) C [1, 2, 3, 5, 6] rfl ?_
        exact kp_X12_hasConflict_174 h x1 x2 x4 x6 S C N hg hZ18 hZ89 h1
      · have h1 := h1.2 z9
        refine x_aload_n C 1 dX12_hasConflict_146 rfl rfl ?_
        refine x_getf_r (n := h) C rfl ht3 fd_169 (by decide) dX12_hasConflict_147 ?_
        refine x_bipush (v := (nI 96)) C dX12_hasConflict_150 (by decide) ?_
        refine x_iload C 5 dX12_hasConflict_152 rfl ?_
        refine x_iadd C dX12_hasConflict_154 ?_
        obtain ⟨n9, hr10, h1⟩ := h1
        obtain ⟨z12, ht11, h1⟩ := h1
        obtain ⟨hi13, h1⟩ := h1
        refine x_lald (n := n9) C hr10 ht11 hi13 dX12_hasConflict_155 ?_
        refine x_iconst (v := (nI 2)) C dX12_hasConflict_156 (by decide) ?_
        refine x_iload C 0 dX12_hasConflict_157 rfl ?_
        refine x_imul C dX12_hasConflict_159 ?_
        refine x_lshr C dX12_hasConflict_160 ?_
        refine x_ldc2 (v := (3 : Int64)) C gw_495 dX12_hasConflict_161 ?_
        refine x_land C dX12_hasConflict_164 ?_
        refine x_lconst (v := (0 : Int64)) C dX12_hasConflict_165 (by decide) ?_
        refine x_lcmp C dX12_hasConflict_166 ?_
        refine x_if_eq (tgt := 174) C dX12_hasConflict_167 (by decide) (fun z9 => ?_) (fun z9 => ?_)
        · have h1 := h1.1 z9
          refine x_keep (L' := [(0, xm_r (some h)), (1, xm_i x1), (2, xm_i x2), (4, xm_i x4), (6, xm_i x6)]) C [1, 2, 3, 5, 6] rfl ?_
          exact kp_X12_hasConflict_174 h x1 x2 x4 x6 S C N hg hZ18 hZ89 h1
        · have h1 := h1.2 z9
          refine x_keep (L' := [(0, xm_r (some h)), (1, xm_i x1), (2, xm_i x2), (4, xm_i x4), (6, xm_i x6)]) C [1, 2, 3, 5, 6] rfl ?_
          exact kp_X12_hasConflict_170 h x1 x2 x4 x6 S C N hg hZ18 hZ89 h1
def wp_X12_hasConflict_89B (h : Nat) (x1 : Int32) (x2 : Int32) (x3 : Int32) (x4 : Int32) (x6 : Int32) (S : xm_S) (g : Int32 → xm_S → Prop) (Z18 : Int32 → Int32 → Int32 → Int32 → xm_S → Prop) (Z89 : Int32 → Int32 → Int32 → Int32 → Int32 → xm_S → Prop) : Prop :=
  ((nI 6) ≤ x6 → ∀ y14, y14 = (x4 + (1 : Int32)) → Z18 x1 x2 x3 y14 S) ∧ (¬ (nI 6) ≤ x6 → st_t S h = some (12, 0) ∧ ∃ n17, (st_r S h 33) = some n17 ∧ ∃ z20, st_t S n17 = some (100, z20) ∧ vp_in x6 z20 ∧ (¬ (st_i S n17 (x6).toNatClampNeg) = (-1 : Int32) → ∃ n22, (st_r S h 33) = some n22 ∧ ∃ z25, st_t S n22 = some (100, z25) ∧ vp_in x6 z25 ∧ wp_X12_hasConflict_123 h x1 x2 x3 x4 x6 (((nI 4) * x6) + (st_i S n22 (x6).toNatClampNeg)) S g Z18 Z89) ∧ ((st_i S n17 (x6).toNatClampNeg) = (-1 : Int32) → wp_X12_hasConflict_123 h x1 x2 x3 x4 x6 (0 : Int32) S g Z18 Z89))
def wp_X12_hasConflict_89 (h : Nat) (x1 : Int32) (x2 : Int32) (x3 : Int32) (x4 : Int32) (x6 : Int32) (S : xm_S) (g : Int32 → xm_S → Prop) (Z18 : Int32 → Int32 → Int32 → Int32 → xm_S → Prop) : Prop :=
  ∀ Z89 : Int32 → Int32 → Int32 → Int32 → Int32 → xm_S → Prop, (∀ x1 x2 x3 x4 x6 S, wp_X12_hasConflict_89B h x1 x2 x3 x4 x6 S g Z18 Z89 → Z89 x1 x2 x3 x4 x6 S) → Z89 x1 x2 x3 x4 x6 S
set_option maxRecDepth 100000 in
set_option maxHeartbeats 4000000 in
theorem kp_X12_hasConflict_89B {K : xm_K} (h : Nat) (x1 : Int32) (x2 : Int32) (x3 : Int32) (x4 : Int32) (x6 : Int32) (S : xm_S) {g : Int32 → xm_S → Prop} {Z18 : Int32 → Int32 → Int32 → Int32 → xm_S → Prop} {Z89 : Int32 → Int32 → Int32 → Int32 → Int32 → xm_S → Prop} (C : xm_Cx K cX12_hasConflict RX12 8 (some (FieldType.boolean)) rm_X12_hasConflict) (N : xm_Nx K) (hg : ∀ v S, g v S → xm_q K (some (xm_i v)) S) (hZ18 : ∀ x1 x2 x3 x4 S, Z18 x1 x2 x3 x4 S → xm_W K 0 0 18 [(0, xm_r (some h)), (1, xm_i x1), (2, xm_i x2), (3, xm_i x3), (4, xm_i x4)] [] S) (hZ89 : ∀ x1 x2 x3 x4 x6 S, Z89 x1 x2 x3 x4 x6 S → xm_W K 0 0 89 [(0, xm_r (some h)), (1, xm_i x1), (2, xm_i x2), (3, xm_i x3), (4, xm_i x4), (6, xm_i x6)] [] S) (h1 : wp_X12_hasConflict_89B h x1 x2 x3 x4 x6 S g Z18 Z89) : xm_W K 0 0 89 [(0, xm_r (some h)), (1, xm_i x1), (2, xm_i x2), (3, xm_i x3), (4, xm_i x4), (6, xm_i x6)] [] S := by
  unfold wp_X12_hasConflict_89B at h1
  refine x_iload C 5 dX12_hasConflict_89 rfl ?_
  refine x_bipush (v := (nI 6)) C dX12_hasConflict_91 (by decide) ?_
  refine x_icmp_ge (tgt := 182) C dX12_hasConflict_93 (by decide) (fun z9 => ?_) (fun z9 => ?_)
  · have h1 := h1.1 z9
    obtain ⟨y14, e15⟩ : ∃ y14, y14 = (x4 + (1 : Int32)) := ⟨_, rfl⟩
    have h1 := h1 y14 e15
    refine x_iinc (v := y14) (L' := [(4, xm_i y14), (0, xm_r (some h)), (1, xm_i x1), (2, xm_i x2), (3, xm_i x3), (6, xm_i x6)]) C 4 dX12_hasConflict_182 rfl (by rw [e15]; rfl) (by decide) rfl ?_
    refine x_goto (tgt := 18) C dX12_hasConflict_185 (by decide) ?_
    refine x_keep (L' := [(0, xm_r (some h)), (1, xm_i x1), (2, xm_i x2), (3, xm_i x3), (4, xm_i y14)]) C [1, 2, 3, 4, 0] rfl ?_
    exact hZ18 x1 x2 x3 y14 S h1
  · have h1 := h1.2 z9
    refine x_aload_n C 0 dX12_hasConflict_96 rfl rfl ?_
    obtain ⟨ht16, h1⟩ := h1
    refine x_getf_r (n := h) C rfl ht16 fd_166 (by decide) dX12_hasConflict_97 ?_
    refine x_iload C 5 dX12_hasConflict_100 rfl ?_
    obtain ⟨n17, hr18, h1⟩ := h1
    obtain ⟨z20, ht19, h1⟩ := h1
    obtain ⟨hi21, h1⟩ := h1
    refine x_iald (n := n17) C hr18 ht19 hi21 dX12_hasConflict_102 ?_
    refine x_iconst (v := (-1 : Int32)) C dX12_hasConflict_103 (by decide) ?_
    refine x_icmp_ne (tgt := 111) C dX12_hasConflict_104 (by decide) (fun z9 => ?_) (fun z9 => ?_)
    · have h1 := h1.1 z9
      refine x_iconst (v := (nI 4)) C dX12_hasConflict_111 (by decide) ?_
      refine x_iload C 5 dX12_hasConflict_112 rfl ?_
      refine x_imul C dX12_hasConflict_114 ?_
      refine x_aload_n C 0 dX12_hasConflict_115 rfl rfl ?_
      refine x_getf_r (n := h) C rfl ht16 fd_166 (by decide) dX12_hasConflict_116 ?_
      refine x_iload C 5 dX12_hasConflict_119 rfl ?_
      obtain ⟨n22, hr23, h1⟩ := h1
      obtain ⟨z25, ht24, h1⟩ := h1
      obtain ⟨hi26, h1⟩ := h1
      refine x_iald (n := n22) C hr23 ht24 hi26 dX12_hasConflict_121 ?_
      refine x_iadd C dX12_hasConflict_122 ?_
      exact kp_X12_hasConflict_123 h x1 x2 x3 x4 x6 (((nI 4) * x6) + (st_i S n22 (x6).toNatClampNeg)) S C N hg hZ18 hZ89 h1
    · have h1 := h1.2 z9
      refine x_iconst (v := (0 : Int32)) C dX12_hasConflict_107 (by decide) ?_
      refine x_goto (tgt := 123) C dX12_hasConflict_108 (by decide) ?_
      exact kp_X12_hasConflict_123 h x1 x2 x3 x4 x6 (0 : Int32) S C N hg hZ18 hZ89 h1
theorem kp_X12_hasConflict_89 {K : xm_K} (h : Nat) (x1 : Int32) (x2 : Int32) (x3 : Int32) (x4 : Int32) (x6 : Int32) (S : xm_S) {g : Int32 → xm_S → Prop} {Z18 : Int32 → Int32 → Int32 → Int32 → xm_S → Prop} (C : xm_Cx K cX12_hasConflict RX12 8 (some (FieldType.boolean)) rm_X12_hasConflict) (N : xm_Nx K) (hg : ∀ v S, g v S → xm_q K (some (xm_i v)) S) (hZ18 : ∀ x1 x2 x3 x4 S, Z18 x1 x2 x3 x4 S → xm_W K 0 0 18 [(0, xm_r (some h)), (1, xm_i x1), (2, xm_i x2), (3, xm_i x3), (4, xm_i x4)] [] S) (h1 : wp_X12_hasConflict_89 h x1 x2 x3 x4 x6 S g Z18) : xm_W K 0 0 89 [(0, xm_r (some h)), (1, xm_i x1), (2, xm_i x2), (3, xm_i x3), (4, xm_i x4), (6, xm_i x6)] [] S :=
  h1 (fun x1 x2 x3 x4 x6 S => xm_W K 0 0 89 [(0, xm_r (some h)), (1, xm_i x1), (2, xm_i x2), (3, xm_i x3), (4, xm_i x4), (6, xm_i x6)] [] S) (fun x1 x2 x3 x4 x6 S hb => kp_X12_hasConflict_89B h x1 x2 x3 x4 x6 S C N hg hZ18 (fun x1 x2 x3 x4 x6 S hz => hz) hb)
def wp_X12_hasConflict_85 (h : Nat) (x1 : Int32) (x2 : Int32) (x4 : Int32) (s0 : Int32) (S : xm_S) (g : Int32 → xm_S → Prop) (Z18 : Int32 → Int32 → Int32 → Int32 → xm_S → Prop) : Prop :=
  wp_X12_hasConflict_89 h x1 x2 s0 x4 (0 : Int32) S g Z18
set_option maxRecDepth 100000 in
set_option maxHeartbeats 4000000 in
theorem kp_X12_hasConflict_85 {K : xm_K} (h : Nat) (x1 : Int32) (x2 : Int32) (x4 : Int32) (s0 : Int32) (S : xm_S) {g : Int32 → xm_S → Prop} {Z18 : Int32 → Int32 → Int32 → Int32 → xm_S → Prop} (C : xm_Cx K cX12_hasConflict RX12 8 (some (FieldType.boolean)) rm_X12_hasConflict) (N : xm_Nx K) (hg : ∀ v S, g v S → xm_q K (some (xm_i v)) S) (hZ18 : ∀ x1 x2 x3 x4 S, Z18 x1 x2 x3 x4 S → xm_W K 0 0 18 [(0, xm_r (some h)), (1, xm_i x1), (2, xm_i x2), (3, xm_i x3), (4, xm_i x4)] [] S) (h1 : wp_X12_hasConflict_85 h x1 x2 x4 s0 S g Z18) : xm_W K 0 0 85 [(0, xm_r (some h)), (1, xm_i x1), (2, xm_i x2), (4, xm_i x4)] [xm_i s0] S := by
  unfold wp_X12_hasConflict_85 at h1
  refine x_istore_n (L' := [(3, xm_i s0), (0, xm_r (some h)), (1, xm_i x1), (2, xm_i x2), (4, xm_i x4)]) C dX12_hasConflict_85 rfl (by decide) rfl ?_
  refine x_iconst (v := (0 : Int32)) C dX12_hasConflict_86 (by decide) ?_
  refine x_istore (L' := [(6, xm_i (0 : Int32)), (3, xm_i s0), (0, xm_r (some h)), (1, xm_i x1), (2, xm_i x2), (4, xm_i x4)]) C dX12_hasConflict_87 (by decide) rfl ?_
  refine x_keep (L' := [(0, xm_r (some h)), (1, xm_i x1), (2, xm_i x2), (3, xm_i s0), (4, xm_i x4), (6, xm_i (0 : Int32))]) C [2, 3, 4, 1, 5, 0] rfl ?_
  exact kp_X12_hasConflict_89 h x1 x2 s0 x4 (0 : Int32) S C N hg hZ18 h1
def wp_X12_hasConflict_80 (h : Nat) (x1 : Int32) (x2 : Int32) (x4 : Int32) (S : xm_S) (g : Int32 → xm_S → Prop) (Z18 : Int32 → Int32 → Int32 → Int32 → xm_S → Prop) : Prop :=
  wp_X12_hasConflict_85 h x1 x2 x4 (1 : Int32) S g Z18
set_option maxRecDepth 100000 in
set_option maxHeartbeats 4000000 in
theorem kp_X12_hasConflict_80 {K : xm_K} (h : Nat) (x1 : Int32) (x2 : Int32) (x4 : Int32) (S : xm_S) {g : Int32 → xm_S → Prop} {Z18 : Int32 → Int32 → Int32 → Int32 → xm_S → Prop} (C : xm_Cx K cX12_hasConflict RX12 8 (some (FieldType.boolean)) rm_X12_hasConflict) (N : xm_Nx K) (hg : ∀ v S, g v S → xm_q K (some (xm_i v)) S) (hZ18 : ∀ x1 x2 x3 x4 S, Z18 x1 x2 x3 x4 S → xm_W K 0 0 18 [(0, xm_r (some h)), (1, xm_i x1), (2, xm_i x2), (3, xm_i x3), (4, xm_i x4)] [] S) (h1 : wp_X12_hasConflict_80 h x1 x2 x4 S g Z18) : xm_W K 0 0 80 [(0, xm_r (some h)), (1, xm_i x1), (2, xm_i x2), (4, xm_i x4)] [] S := by
  unfold wp_X12_hasConflict_80 at h1
  refine x_iconst (v := (1 : Int32)) C dX12_hasConflict_80 (by decide) ?_
  refine x_goto (tgt := 85) C dX12_hasConflict_81 (by decide) ?_
  exact kp_X12_hasConflict_85 h x1 x2 x4 (1 : Int32) S C N hg hZ18 h1
def wp_X12_hasConflict_84 (h : Nat) (x1 : Int32) (x2 : Int32) (x4 : Int32) (S : xm_S) (g : Int32 → xm_S → Prop) (Z18 : Int32 → Int32 → Int32 → Int32 → xm_S → Prop) : Prop :=
  wp_X12_hasConflict_85 h x1 x2 x4 (0 : Int32) S g Z18
set_option maxRecDepth 100000 in
set_option maxHeartbeats 4000000 in
theorem kp_X12_hasConflict_84 {K : xm_K} (h : Nat) (x1 : Int32) (x2 : Int32) (x4 : Int32) (S : xm_S) {g : Int32 → xm_S → Prop} {Z18 : Int32 → Int32 → Int32 → Int32 → xm_S → Prop} (C : xm_Cx K cX12_hasConflict RX12 8 (some (FieldType.boolean)) rm_X12_hasConflict) (N : xm_Nx K) (hg : ∀ v S, g v S → xm_q K (some (xm_i v)) S) (hZ18 : ∀ x1 x2 x3 x4 S, Z18 x1 x2 x3 x4 S → xm_W K 0 0 18 [(0, xm_r (some h)), (1, xm_i x1), (2, xm_i x2), (3, xm_i x3), (4, xm_i x4)] [] S) (h1 : wp_X12_hasConflict_84 h x1 x2 x4 S g Z18) : xm_W K 0 0 84 [(0, xm_r (some h)), (1, xm_i x1), (2, xm_i x2), (4, xm_i x4)] [] S := by
  unfold wp_X12_hasConflict_84 at h1
  refine x_iconst (v := (0 : Int32)) C dX12_hasConflict_84 (by decide) ?_
  exact kp_X12_hasConflict_85 h x1 x2 x4 (0 : Int32) S C N hg hZ18 h1
def wp_X12_hasConflict_18B (h : Nat) (x1 : Int32) (x2 : Int32) (x3 : Int32) (x4 : Int32) (S : xm_S) (g : Int32 → xm_S → Prop) (Z18 : Int32 → Int32 → Int32 → Int32 → xm_S → Prop) : Prop :=
  st_t S h = some (12, 0) ∧ ∃ n28, (st_r S h 13) = some n28 ∧ ∃ z31, st_t S n28 = some (100, z31) ∧ vp_in x2 z31 ∧ ((((nI 2) * x2) + (st_i S n28 (x2).toNatClampNeg)) ≤ x4 → (x3 = 0 ∨ x3 = 1) ∧ g x3 S) ∧ (¬ (((nI 2) * x2) + (st_i S n28 (x2).toNatClampNeg)) ≤ x4 → ∃ n33, (st_r S h 14) = some n33 ∧ ∃ z36, st_t S n33 = some (100, z36) ∧ vp_in x4 z36 ∧ ∀ y38, y38 = (st_i S n33 (x4).toNatClampNeg) → (¬ x3 = 0 → wp_X12_hasConflict_80 h x1 x2 x4 S g Z18) ∧ (x3 = 0 → ∃ n40, (st_r S h 33) = some n40 ∧ ∃ z43, st_t S n40 = some (100, z43) ∧ vp_in y38 z43 ∧ ((st_i S n40 (y38).toNatClampNeg) = (-1 : Int32) → wp_X12_hasConflict_84 h x1 x2 x4 S g Z18) ∧ (¬ (st_i S n40 (y38).toNatClampNeg) = (-1 : Int32) → ∃ n45, (st_r S h 30) = some n45 ∧ ∃ z48, st_t S n45 = some (100, z48) ∧ vp_in ((nI 96) + x4) z48 ∧ ∃ n50, (st_r S h 33) = some n50 ∧ ∃ z53, st_t S n50 = some (100, z53) ∧ vp_in y38 z53 ∧ wp_X12_isIn (st_i S n45 (((nI 96) + x4)).toNatClampNeg) (st_i S n50 (y38).toNatClampNeg) S (fun r56 S55 => (r56 = 0 → wp_X12_hasConflict_84 h x1 x2 x4 S55 g Z18) ∧ (¬ r56 = 0 → wp_X12_hasConflict_80 h x1 x2 x4 S55 g Z18)))))
def wp_X12_hasConflict_18 (h : Nat) (x1 : Int32) (x2 : Int32) (x3 : Int32) (x4 : Int32) (S : xm_S) (g : Int32 → xm_S → Prop) : Prop :=
  ∀ Z18 : Int32 → Int32 → Int32 → Int32 → xm_S → Prop, (∀ x1 x2 x3 x4 S, wp_X12_hasConflict_18B h x1 x2 x3 x4 S g Z18 → Z18 x1 x2 x3 x4 S) → Z18 x1 x2 x3 x4 S
set_option maxRecDepth 100000 in
set_option maxHeartbeats 4000000 in
theorem kp_X12_hasConflict_18B {K : xm_K} (h : Nat) (x1 : Int32) (x2 : Int32) (x3 : Int32) (x4 : Int32) (S : xm_S) {g : Int32 → xm_S → Prop} {Z18 : Int32 → Int32 → Int32 → Int32 → xm_S → Prop} (C : xm_Cx K cX12_hasConflict RX12 8 (some (FieldType.boolean)) rm_X12_hasConflict) (N : xm_Nx K) (hg : ∀ v S, g v S → xm_q K (some (xm_i v)) S) (hZ18 : ∀ x1 x2 x3 x4 S, Z18 x1 x2 x3 x4 S → xm_W K 0 0 18 [(0, xm_r (some h)), (1, xm_i x1), (2, xm_i x2), (3, xm_i x3), (4, xm_i x4)] [] S) (h1 : wp_X12_hasConflict_18B h x1 x2 x3 x4 S g Z18) : xm_W K 0 0 18 [(0, xm_r (some h)), (1, xm_i x1), (2, xm_i x2), (3, xm_i x3), (4, xm_i x4)] [] S := by
  unfold wp_X12_hasConflict_18B at h1
  refine x_iload C 4 dX12_hasConflict_18 rfl ?_
  refine x_iconst (v := (nI 2)) C dX12_hasConflict_20 (by decide) ?_
  refine x_iload_n C 2 dX12_hasConflict_21 rfl rfl ?_
  refine x_imul C dX12_hasConflict_22 ?_
  refine x_aload_n C 0 dX12_hasConflict_23 rfl rfl ?_
  obtain ⟨ht27, h1⟩ := h1
  refine x_getf_r (n := h) C rfl ht27 fd_170 (by decide) dX12_hasConflict_24 ?_
  refine x_iload_n C 2 dX12_hasConflict_27 rfl rfl ?_
  obtain ⟨n28, hr29, h1⟩ := h1
  obtain ⟨z31, ht30, h1⟩ := h1
  obtain ⟨hi32, h1⟩ := h1
  refine x_iald (n := n28) C hr29 ht30 hi32 dX12_hasConflict_28 ?_
  refine x_iadd C dX12_hasConflict_29 ?_
  refine x_icmp_ge (tgt := 188) C dX12_hasConflict_30 (by decide) (fun z9 => ?_) (fun z9 => ?_)
  · have h1 := h1.1 z9
    refine x_iload_n C 3 dX12_hasConflict_188 rfl rfl ?_
    exact x_zret C (Nat.le_of_ble_eq_true rfl) (Nat.le_of_ble_eq_true rfl) rfl h1.1 dX12_hasConflict_189 (hg _ _ h1.2)
  · have h1 := h1.2 z9
    refine x_aload_n C 0 dX12_hasConflict_33 rfl rfl ?_
    refine x_getf_r (n := h) C rfl ht27 fd_171 (by decide) dX12_hasConflict_34 ?_
    refine x_iload C 4 dX12_hasConflict_37 rfl ?_
    obtain ⟨n33, hr34, h1⟩ := h1
    obtain ⟨z36, ht35, h1⟩ := h1
    obtain ⟨hi37, h1⟩ := h1
    refine x_iald (n := n33) C hr34 ht35 hi37 dX12_hasConflict_39 ?_
    refine x_topi (fun y38 e39 => ?_)
    have h1 := h1 y38 e39
    refine x_istore (L' := [(5, xm_i y38), (0, xm_r (some h)), (1, xm_i x1), (2, xm_i x2), (3, xm_i x3), (4, xm_i x4)]) C dX12_hasConflict_40 (by decide) rfl ?_
    refine x_iload_n C 4 dX12_hasConflict_42 rfl rfl ?_
    refine x_if_ne (tgt := 80) C dX12_hasConflict_43 (by decide) (fun z9 => ?_) (fun z9 => ?_)
    · have h1 := h1.1 z9
      refine x_keep (L' := [(0, xm_r (some h)), (1, xm_i x1), (2, xm_i x2), (4, xm_i x4)]) C [1, 2, 3, 5] rfl ?_
      exact kp_X12_hasConflict_80 h x1 x2 x4 S C N hg hZ18 h1
    · have h1 := h1.2 z9
      refine x_aload_n C 1 dX12_hasConflict_46 rfl rfl ?_
      refine x_getf_r (n := h) C rfl ht27 fd_166 (by decide) dX12_hasConflict_47 ?_
      refine x_iload C 0 dX12_hasConflict_50 rfl ?_
      obtain ⟨n40, hr41, h1⟩ := h1
      obtain ⟨z43, ht42, h1⟩ := h1
      obtain ⟨hi44, h1⟩ := h1
      refine x_iald (n := n40) C hr41 ht42 hi44 dX12_hasConflict_52 ?_
      refine x_iconst (v := (-1 : Int32)) C dX12_hasConflict_53 (by decide) ?_
      refine x_icmp_eq (tgt := 84) C dX12_hasConflict_54 (by decide) (fun z9 => ?_) (fun z9 => ?_)
      · have h1 := h1.1 z9
        refine x_keep (L' := [(0, xm_r (some h)), (1, xm_i x1), (2, xm_i x2), (4, xm_i x4)]) C [1, 2, 3, 5] rfl ?_
        exact kp_X12_hasConflict_84 h x1 x2 x4 S C N hg hZ18 h1
      · have h1 := h1.2 z9
        refine x_aload_n C 1 dX12_hasConflict_57 rfl rfl ?_
        refine x_getf_r (n := h) C rfl ht27 fd_172 (by decide) dX12_hasConflict_58 ?_
        refine x_bipush (v := (nI 96)) C dX12_hasConflict_61 (by decide) ?_
        refine x_iload C 5 dX12_hasConflict_63 rfl ?_
        refine x_iadd C dX12_hasConflict_65 ?_
        obtain ⟨n45, hr46, h1⟩ := h1
        obtain ⟨z48, ht47, h1⟩ := h1
        obtain ⟨hi49, h1⟩ := h1
        refine x_iald (n := n45) C hr46 ht47 hi49 dX12_hasConflict_66 ?_
        refine x_aload_n C 1 dX12_hasConflict_67 rfl rfl ?_
        refine x_getf_r (n := h) C rfl ht27 fd_166 (by decide) dX12_hasConflict_68 ?_
        refine x_iload C 0 dX12_hasConflict_71 rfl ?_
        obtain ⟨n50, hr51, h1⟩ := h1
        obtain ⟨z53, ht52, h1⟩ := h1
        obtain ⟨hi54, h1⟩ := h1
        refine x_iald (n := n50) C hr51 ht52 hi54 dX12_hasConflict_73 ?_
        refine x_callS (rm' := rm_X12_isIn) C (kp_X12_isIn_met h1) lk_81 gw_501 rfl (Nat.le_of_ble_eq_true rfl) ⟨Nat.le_of_ble_eq_true rfl, Nat.le_of_ble_eq_true rfl, (Nat.le_of_ble_eq_true rfl), (Nat.le_of_ble_eq_true rfl)⟩ dX12_hasConflict_74 xm_kx (xm_ki (fun r56 S55 h1 => ?_))
        refine x_if_eq (tgt := 84) C dX12_hasConflict_77 (by decide) (fun z9 => ?_) (fun z9 => ?_)
        · have h1 := h1.1 z9
          refine x_keep (L' := [(0, xm_r (some h)), (1, xm_i x1), (2, xm_i x2), (4, xm_i x4)]) C [1, 2, 3, 5] rfl ?_
          exact kp_X12_hasConflict_84 h x1 x2 x4 S55 C N hg hZ18 h1
        · have h1 := h1.2 z9
          refine x_keep (L' := [(0, xm_r (some h)), (1, xm_i x1), (2, xm_i x2), (4, xm_i x4)]) C [1, 2, 3, 5] rfl ?_
          exact kp_X12_hasConflict_80 h x1 x2 x4 S55 C N hg hZ18 h1
theorem kp_X12_hasConflict_18 {K : xm_K} (h : Nat) (x1 : Int32) (x2 : Int32) (x3 : Int32) (x4 : Int32) (S : xm_S) {g : Int32 → xm_S → Prop} (C : xm_Cx K cX12_hasConflict RX12 8 (some (FieldType.boolean)) rm_X12_hasConflict) (N : xm_Nx K) (hg : ∀ v S, g v S → xm_q K (some (xm_i v)) S)  (h1 : wp_X12_hasConflict_18 h x1 x2 x3 x4 S g) : xm_W K 0 0 18 [(0, xm_r (some h)), (1, xm_i x1), (2, xm_i x2), (3, xm_i x3), (4, xm_i x4)] [] S :=
  h1 (fun x1 x2 x3 x4 S => xm_W K 0 0 18 [(0, xm_r (some h)), (1, xm_i x1), (2, xm_i x2), (3, xm_i x3), (4, xm_i x4)] [] S) (fun x1 x2 x3 x4 S hb => kp_X12_hasConflict_18B h x1 x2 x3 x4 S C N hg (fun x1 x2 x3 x4 S hz => hz) hb)
def wp_X12_hasConflict (h : Nat) (x1 : Int32) (S : xm_S) (g : Int32 → xm_S → Prop) : Prop :=
  st_t S h = some (12, 0) ∧ ∃ n58, (st_r S h 33) = some n58 ∧ ∃ z61, st_t S n58 = some (100, z61) ∧ vp_in x1 z61 ∧ ∀ y63, y63 = (((nI 4) * x1) + (st_i S n58 (x1).toNatClampNeg)) → ∀ y65, y65 = ((nI 2) * y63) → wp_X12_hasConflict_18 h x1 y63 (0 : Int32) y65 S g
set_option maxRecDepth 100000 in
set_option maxHeartbeats 4000000 in
theorem kp_X12_hasConflict {K : xm_K} (h : Nat) (x1 : Int32) (S : xm_S) {g : Int32 → xm_S → Prop} (C : xm_Cx K cX12_hasConflict RX12 8 (some (FieldType.boolean)) rm_X12_hasConflict) (N : xm_Nx K) (hg : ∀ v S, g v S → xm_q K (some (xm_i v)) S)  (h1 : wp_X12_hasConflict h x1 S g) : xm_W K 0 0 0 [(0, xm_r (some h)), (1, xm_i x1)] [] S := by
  unfold wp_X12_hasConflict at h1
  refine x_iconst (v := (nI 4)) C dX12_hasConflict_0 (by decide) ?_
  refine x_iload_n C 1 dX12_hasConflict_1 rfl rfl ?_
  refine x_imul C dX12_hasConflict_2 ?_
  refine x_aload_n C 0 dX12_hasConflict_3 rfl rfl ?_
  obtain ⟨ht57, h1⟩ := h1
  refine x_getf_r (n := h) C rfl ht57 fd_166 (by decide) dX12_hasConflict_4 ?_
  refine x_iload_n C 1 dX12_hasConflict_7 rfl rfl ?_
  obtain ⟨n58, hr59, h1⟩ := h1
  obtain ⟨z61, ht60, h1⟩ := h1
  obtain ⟨hi62, h1⟩ := h1
  refine x_iald (n := n58) C hr59 ht60 hi62 dX12_hasConflict_8 ?_
  refine x_iadd C dX12_hasConflict_9 ?_
  refine x_topi (fun y63 e64 => ?_)
  have h1 := h1 y63 e64
  refine x_istore_n (L' := [(2, xm_i y63), (0, xm_r (some h)), (1, xm_i x1)]) C dX12_hasConflict_10 rfl (by decide) rfl ?_
  refine x_iconst (v := (0 : Int32)) C dX12_hasConflict_11 (by decide) ?_
  refine x_istore_n (L' := [(3, xm_i (0 : Int32)), (2, xm_i y63), (0, xm_r (some h)), (1, xm_i x1)]) C dX12_hasConflict_12 rfl (by decide) rfl ?_
  refine x_iconst (v := (nI 2)) C dX12_hasConflict_13 (by decide) ?_
  refine x_iload_n C 1 dX12_hasConflict_14 rfl rfl ?_
  refine x_imul C dX12_hasConflict_15 ?_
  refine x_topi (fun y65 e66 => ?_)
  have h1 := h1 y65 e66
  refine x_istore (L' := [(4, xm_i y65), (3, xm_i (0 : Int32)), (2, xm_i y63), (0, xm_r (some h)), (1, xm_i x1)]) C dX12_hasConflict_16 (by decide) rfl ?_
  refine x_keep (L' := [(0, xm_r (some h)), (1, xm_i x1), (2, xm_i y63), (3, xm_i (0 : Int32)), (4, xm_i y65)]) C [3, 4, 2, 1, 0] rfl ?_
  exact kp_X12_hasConflict_18 h x1 y63 (0 : Int32) y65 S C N hg  h1
theorem kp_X12_hasConflict_met {h : Nat} {x1 : Int32} {S : xm_S} {g : Int32 → xm_S → Prop}  (h1 : wp_X12_hasConflict h x1 S g) : xm_Met yX12_hasConflict cX12_hasConflict 8 (some (FieldType.boolean)) rm_X12_hasConflict [xm_r (some h), xm_i x1] S (xm_qi g) xm_nox :=
  xm_ofW RX12 (by decide +kernel) rfl (Nat.le_of_ble_eq_true rfl) (fun K C N hq hx hi => kp_X12_hasConflict h x1 S C N (fun v S h => by rw [hq]; exact ⟨v, rfl, h⟩)  h1)
