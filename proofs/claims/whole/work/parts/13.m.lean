def rm_X8_readKind : Room := { frames := 2, cells := 0, slots := 0, locals := 41 }
theorem dX8_readKind_0 : decode cX8_readKind 0 = .ok (.aload_n 0, 1) := by decide +kernel
theorem dX8_readKind_1 : decode cX8_readKind 1 = .ok (.bipush 61, 2) := by decide +kernel
theorem dX8_readKind_3 : decode cX8_readKind 3 = .ok (.invokevirtual 33, 3) := by decide +kernel
theorem dX8_readKind_6 : decode cX8_readKind 6 = .ok (.ifCond .eq 5, 3) := by decide +kernel
theorem dX8_readKind_9 : decode cX8_readKind 9 = .ok (.iconst 1, 1) := by decide +kernel
theorem dX8_readKind_10 : decode cX8_readKind 10 = .ok (.ireturn, 1) := by decide +kernel
theorem dX8_readKind_11 : decode cX8_readKind 11 = .ok (.aload_n 0, 1) := by decide +kernel
theorem dX8_readKind_12 : decode cX8_readKind 12 = .ok (.bipush 62, 2) := by decide +kernel
theorem dX8_readKind_14 : decode cX8_readKind 14 = .ok (.invokevirtual 33, 3) := by decide +kernel
theorem dX8_readKind_17 : decode cX8_readKind 17 = .ok (.ifCond .eq 18, 3) := by decide +kernel
theorem dX8_readKind_20 : decode cX8_readKind 20 = .ok (.aload_n 0, 1) := by decide +kernel
theorem dX8_readKind_21 : decode cX8_readKind 21 = .ok (.bipush 61, 2) := by decide +kernel
theorem dX8_readKind_23 : decode cX8_readKind 23 = .ok (.invokevirtual 33, 3) := by decide +kernel
theorem dX8_readKind_26 : decode cX8_readKind 26 = .ok (.ifCond .eq 7, 3) := by decide +kernel
theorem dX8_readKind_29 : decode cX8_readKind 29 = .ok (.iconst 4, 1) := by decide +kernel
theorem dX8_readKind_30 : decode cX8_readKind 30 = .ok (.goto 4, 3) := by decide +kernel
theorem dX8_readKind_33 : decode cX8_readKind 33 = .ok (.iconst 2, 1) := by decide +kernel
theorem dX8_readKind_34 : decode cX8_readKind 34 = .ok (.ireturn, 1) := by decide +kernel
theorem dX8_readKind_35 : decode cX8_readKind 35 = .ok (.aload_n 0, 1) := by decide +kernel
theorem dX8_readKind_36 : decode cX8_readKind 36 = .ok (.bipush 60, 2) := by decide +kernel
theorem dX8_readKind_38 : decode cX8_readKind 38 = .ok (.invokevirtual 33, 3) := by decide +kernel
theorem dX8_readKind_41 : decode cX8_readKind 41 = .ok (.ifCond .eq 18, 3) := by decide +kernel
theorem dX8_readKind_44 : decode cX8_readKind 44 = .ok (.aload_n 0, 1) := by decide +kernel
theorem dX8_readKind_45 : decode cX8_readKind 45 = .ok (.bipush 61, 2) := by decide +kernel
theorem dX8_readKind_47 : decode cX8_readKind 47 = .ok (.invokevirtual 33, 3) := by decide +kernel
theorem dX8_readKind_50 : decode cX8_readKind 50 = .ok (.ifCond .eq 7, 3) := by decide +kernel
theorem dX8_readKind_53 : decode cX8_readKind 53 = .ok (.iconst 5, 1) := by decide +kernel
theorem dX8_readKind_54 : decode cX8_readKind 54 = .ok (.goto 4, 3) := by decide +kernel
theorem dX8_readKind_57 : decode cX8_readKind 57 = .ok (.iconst 3, 1) := by decide +kernel
theorem dX8_readKind_58 : decode cX8_readKind 58 = .ok (.ireturn, 1) := by decide +kernel
theorem dX8_readKind_59 : decode cX8_readKind 59 = .ok (.aload_n 0, 1) := by decide +kernel
theorem dX8_readKind_60 : decode cX8_readKind 60 = .ok (.bipush 94, 2) := by decide +kernel
theorem dX8_readKind_62 : decode cX8_readKind 62 = .ok (.invokevirtual 33, 3) := by decide +kernel
theorem dX8_readKind_65 : decode cX8_readKind 65 = .ok (.ifCond .eq 6, 3) := by decide +kernel
theorem dX8_readKind_68 : decode cX8_readKind 68 = .ok (.bipush 6, 2) := by decide +kernel
theorem dX8_readKind_70 : decode cX8_readKind 70 = .ok (.ireturn, 1) := by decide +kernel
theorem dX8_readKind_71 : decode cX8_readKind 71 = .ok (.aload_n 0, 1) := by decide +kernel
theorem dX8_readKind_72 : decode cX8_readKind 72 = .ok (.bipush 126, 2) := by decide +kernel
theorem dX8_readKind_74 : decode cX8_readKind 74 = .ok (.invokevirtual 33, 3) := by decide +kernel
theorem dX8_readKind_77 : decode cX8_readKind 77 = .ok (.ifCond .eq 6, 3) := by decide +kernel
theorem dX8_readKind_80 : decode cX8_readKind 80 = .ok (.bipush 7, 2) := by decide +kernel
theorem dX8_readKind_82 : decode cX8_readKind 82 = .ok (.ireturn, 1) := by decide +kernel
theorem dX8_readKind_83 : decode cX8_readKind 83 = .ok (.aload_n 0, 1) := by decide +kernel
theorem dX8_readKind_84 : decode cX8_readKind 84 = .ok (.iconst 1, 1) := by decide +kernel
theorem dX8_readKind_85 : decode cX8_readKind 85 = .ok (.putfield 22, 3) := by decide +kernel
theorem dX8_readKind_88 : decode cX8_readKind 88 = .ok (.iconst 1, 1) := by decide +kernel
theorem dX8_readKind_89 : decode cX8_readKind 89 = .ok (.ireturn, 1) := by decide +kernel
def wp_X8_readKind_34 (h : Nat) (s0 : Int32) (S : xm_S) (g : Int32 → xm_S → Prop) : Prop :=
  g s0 S
set_option maxRecDepth 100000 in
set_option maxHeartbeats 4000000 in
theorem kp_X8_readKind_34 {K : xm_K} (h : Nat) (s0 : Int32) (S : xm_S) {g : Int32 → xm_S → Prop} (C : xm_Cx K cX8_readKind RX8 1 (some (FieldType.int)) rm_X8_readKind) (N : xm_Nx K) (hg : ∀ v S, g v S → xm_q K (some (xm_i v)) S)  (h1 : wp_X8_readKind_34 h s0 S g) : xm_W K 0 0 34 [] [xm_i s0] S := by
  unfold wp_X8_readKind_34 at h1
  exact x_iret C (Nat.le_of_ble_eq_true rfl) (Nat.le_of_ble_eq_true rfl) rfl dX8_readKind_34 (hg _ _ h1)
def wp_X8_readKind_58 (h : Nat) (s0 : Int32) (S : xm_S) (g : Int32 → xm_S → Prop) : Prop :=
  g s0 S
set_option maxRecDepth 100000 in
set_option maxHeartbeats 4000000 in
theorem kp_X8_readKind_58 {K : xm_K} (h : Nat) (s0 : Int32) (S : xm_S) {g : Int32 → xm_S → Prop} (C : xm_Cx K cX8_readKind RX8 1 (some (FieldType.int)) rm_X8_readKind) (N : xm_Nx K) (hg : ∀ v S, g v S → xm_q K (some (xm_i v)) S)  (h1 : wp_X8_readKind_58 h s0 S g) : xm_W K 0 0 58 [] [xm_i s0] S := by
  unfold wp_X8_readKind_58 at h1
  exact x_iret C (Nat.le_of_ble_eq_true rfl) (Nat.le_of_ble_eq_true rfl) rfl dX8_readKind_58 (hg _ _ h1)
def wp_X8_readKind (h : Nat)  (S : xm_S) (g : Int32 → xm_S → Prop) : Prop :=
  st_t S h = some (8, 0) ∧ wp_X8_takes h (nI 61) S (fun r3 S2 => (r3 = 0 → st_t S2 h = some (8, 0) ∧ wp_X8_takes h (nI 62) S2 (fun r6 S5 => (r6 = 0 → st_t S5 h = some (8, 0) ∧ wp_X8_takes h (nI 60) S5 (fun r9 S8 => (r9 = 0 → st_t S8 h = some (8, 0) ∧ wp_X8_takes h (nI 94) S8 (fun r12 S11 => (r12 = 0 → st_t S11 h = some (8, 0) ∧ wp_X8_takes h (nI 126) S11 (fun r15 S14 => (r15 = 0 → st_t S14 h = some (8, 0) ∧ ∀ S17, S17 = st_pi S14 h 3 (1 : Int32) → g (1 : Int32) S17) ∧ (¬ r15 = 0 → g (nI 7) S14))) ∧ (¬ r12 = 0 → g (nI 6) S11))) ∧ (¬ r9 = 0 → st_t S8 h = some (8, 0) ∧ wp_X8_takes h (nI 61) S8 (fun r21 S20 => (r21 = 0 → wp_X8_readKind_58 h (nI 3) S20 g) ∧ (¬ r21 = 0 → wp_X8_readKind_58 h (nI 5) S20 g))))) ∧ (¬ r6 = 0 → st_t S5 h = some (8, 0) ∧ wp_X8_takes h (nI 61) S5 (fun r24 S23 => (r24 = 0 → wp_X8_readKind_34 h (nI 2) S23 g) ∧ (¬ r24 = 0 → wp_X8_readKind_34 h (nI 4) S23 g))))) ∧ (¬ r3 = 0 → g (1 : Int32) S2))
set_option maxRecDepth 100000 in
set_option maxHeartbeats 4000000 in
theorem kp_X8_readKind {K : xm_K} (h : Nat)  (S : xm_S) {g : Int32 → xm_S → Prop} (C : xm_Cx K cX8_readKind RX8 1 (some (FieldType.int)) rm_X8_readKind) (N : xm_Nx K) (hg : ∀ v S, g v S → xm_q K (some (xm_i v)) S)  (h1 : wp_X8_readKind h  S g) : xm_W K 0 0 0 [(0, xm_r (some h))] [] S := by
  unfold wp_X8_readKind at h1
  refine x_aload_n C 0 dX8_readKind_0 rfl rfl ?_
  refine x_bipush (v := (nI 61)) C dX8_readKind_1 (by decide) ?_
  obtain ⟨ht1, h1⟩ := h1
  refine x_callV (rm' := rm_X8_takes) (n := h) C (kp_X8_takes_met h1) lk_38 gw_264 gw_265 xv_8 rfl rfl ht1 rfl (Nat.le_of_ble_eq_true rfl) ⟨Nat.le_of_ble_eq_true rfl, Nat.le_of_ble_eq_true rfl, (Nat.le_of_ble_eq_true rfl), (Nat.le_of_ble_eq_true rfl)⟩ dX8_readKind_3 xm_kx (xm_ki (fun r3 S2 h1 => ?_))
  refine x_if_eq (tgt := 11) C dX8_readKind_6 (by decide) (fun z9 => ?_) (fun z9 => ?_)
  · have h1 := h1.1 z9
    refine x_aload_n C 0 dX8_readKind_11 rfl rfl ?_
    refine x_bipush (v := (nI 62)) C dX8_readKind_12 (by decide) ?_
    obtain ⟨ht4, h1⟩ := h1
    refine x_callV (rm' := rm_X8_takes) (n := h) C (kp_X8_takes_met h1) lk_38 gw_264 gw_265 xv_8 rfl rfl ht4 rfl (Nat.le_of_ble_eq_true rfl) ⟨Nat.le_of_ble_eq_true rfl, Nat.le_of_ble_eq_true rfl, (Nat.le_of_ble_eq_true rfl), (Nat.le_of_ble_eq_true rfl)⟩ dX8_readKind_14 xm_kx (xm_ki (fun r6 S5 h1 => ?_))
    refine x_if_eq (tgt := 35) C dX8_readKind_17 (by decide) (fun z9 => ?_) (fun z9 => ?_)
    · have h1 := h1.1 z9
      refine x_aload_n C 0 dX8_readKind_35 rfl rfl ?_
      refine x_bipush (v := (nI 60)) C dX8_readKind_36 (by decide) ?_
      obtain ⟨ht7, h1⟩ := h1
      refine x_callV (rm' := rm_X8_takes) (n := h) C (kp_X8_takes_met h1) lk_38 gw_264 gw_265 xv_8 rfl rfl ht7 rfl (Nat.le_of_ble_eq_true rfl) ⟨Nat.le_of_ble_eq_true rfl, Nat.le_of_ble_eq_true rfl, (Nat.le_of_ble_eq_true rfl), (Nat.le_of_ble_eq_true rfl)⟩ dX8_readKind_38 xm_kx (xm_ki (fun r9 S8 h1 => ?_))
      refine x_if_eq (tgt := 59) C dX8_readKind_41 (by decide) (fun z9 => ?_) (fun z9 => ?_)
      · have h1 := h1.1 z9
        refine x_aload_n C 0 dX8_readKind_59 rfl rfl ?_
        refine x_bipush (v := (nI 94)) C dX8_readKind_60 (by decide) ?_
        obtain ⟨ht10, h1⟩ := h1
        refine x_callV (rm' := rm_X8_takes) (n := h) C (kp_X8_takes_met h1) lk_38 gw_264 gw_265 xv_8 rfl rfl ht10 rfl (Nat.le_of_ble_eq_true rfl) ⟨Nat.le_of_ble_eq_true rfl, Nat.le_of_ble_eq_true rfl, (Nat.le_of_ble_eq_true rfl), (Nat.le_of_ble_eq_true rfl)⟩ dX8_readKind_62 xm_kx (xm_ki (fun r12 S11 h1 => ?_))
        refine x_if_eq (tgt := 71) C dX8_readKind_65 (by decide) (fun z9 => ?_) (fun z9 => ?_)
        · have h1 := h1.1 z9
          refine x_aload_n C 0 dX8_readKind_71 rfl rfl ?_
          refine x_bipush (v := (nI 126)) C dX8_readKind_72 (by decide) ?_
          obtain ⟨ht13, h1⟩ := h1
          refine x_callV (rm' := rm_X8_takes) (n := h) C (kp_X8_takes_met h1) lk_38 gw_264 gw_265 xv_8 rfl rfl ht13 rfl (Nat.le_of_ble_eq_true rfl) ⟨Nat.le_of_ble_eq_true rfl, Nat.le_of_ble_eq_true rfl, (Nat.le_of_ble_eq_true rfl), (Nat.le_of_ble_eq_true rfl)⟩ dX8_readKind_74 xm_kx (xm_ki (fun r15 S14 h1 => ?_))
          refine x_if_eq (tgt := 83) C dX8_readKind_77 (by decide) (fun z9 => ?_) (fun z9 => ?_)
          · have h1 := h1.1 z9
            refine x_aload_n C 0 dX8_readKind_83 rfl rfl ?_
            refine x_iconst (v := (1 : Int32)) C dX8_readKind_84 (by decide) ?_
            obtain ⟨ht16, h1⟩ := h1
            refine x_putf_i (n := h) C rfl ht16 fd_88 xc_8 (by decide) rfl (xm_nz (by decide)) dX8_readKind_85 ?_
            refine x_topS (fun S17 e18 => ?_)
            have h1 := h1 S17 e18
            refine x_iconst (v := (1 : Int32)) C dX8_readKind_88 (by decide) ?_
            exact x_iret C (Nat.le_of_ble_eq_true rfl) (Nat.le_of_ble_eq_true rfl) rfl dX8_readKind_89 (hg _ _ h1)
          · have h1 := h1.2 z9
            refine x_bipush (v := (nI 7)) C dX8_readKind_80 (by decide) ?_
            exact x_iret C (Nat.le_of_ble_eq_true rfl) (Nat.le_of_ble_eq_true rfl) rfl dX8_readKind_82 (hg _ _ h1)
        · have h1 := h1.2 z9
          refine x_bipush (v := (nI 6)) C dX8_readKind_68 (by decide) ?_
          exact x_iret C (Nat.le_of_ble_eq_true rfl) (Nat.le_of_ble_eq_true rfl) rfl dX8_readKind_70 (hg _ _ h1)
      · have h1 := h1.2 z9
        refine x_aload_n C 0 dX8_readKind_44 rfl rfl ?_
        refine x_bipush (v := (nI 61)) C dX8_readKind_45 (by decide) ?_
        obtain ⟨ht19, h1⟩ := h1
        refine x_callV (rm' := rm_X8_takes) (n := h) C (kp_X8_takes_met h1) lk_38 gw_264 gw_265 xv_8 rfl rfl ht19 rfl (Nat.le_of_ble_eq_true rfl) ⟨Nat.le_of_ble_eq_true rfl, Nat.le_of_ble_eq_true rfl, (Nat.le_of_ble_eq_true rfl), (Nat.le_of_ble_eq_true rfl)⟩ dX8_readKind_47 xm_kx (xm_ki (fun r21 S20 h1 => ?_))
        refine x_if_eq (tgt := 57) C dX8_readKind_50 (by decide) (fun z9 => ?_) (fun z9 => ?_)
        · have h1 := h1.1 z9
          refine x_iconst (v := (nI 3)) C dX8_readKind_57 (by decide) ?_
          refine x_keep (L' := []) C [] rfl ?_
          exact kp_X8_readKind_58 h (nI 3) S20 C N hg  h1
        · have h1 := h1.2 z9
          refine x_iconst (v := (nI 5)) C dX8_readKind_53 (by decide) ?_
          refine x_goto (tgt := 58) C dX8_readKind_54 (by decide) ?_
          refine x_keep (L' := []) C [] rfl ?_
          exact kp_X8_readKind_58 h (nI 5) S20 C N hg  h1
    · have h1 := h1.2 z9
      refine x_aload_n C 0 dX8_readKind_20 rfl rfl ?_
      refine x_bipush (v := (nI 61)) C dX8_readKind_21 (by decide) ?_
      obtain ⟨ht22, h1⟩ := h1
      refine x_callV (rm' := rm_X8_takes) (n := h) C (kp_X8_takes_met h1) lk_38 gw_264 gw_265 xv_8 rfl rfl ht22 rfl (Nat.le_of_ble_eq_true rfl) ⟨Nat.le_of_ble_eq_true rfl, Nat.le_of_ble_eq_true rfl, (Nat.le_of_ble_eq_true rfl), (Nat.le_of_ble_eq_true rfl)⟩ dX8_readKind_23 xm_kx (xm_ki (fun r24 S23 h1 => ?_))
      refine x_if_eq (tgt := 33) C dX8_readKind_26 (by decide) (fun z9 => ?_) (fun z9 => ?_)
      · have h1 := h1.1 z9
        refine x_iconst (v := (nI 2)) C dX8_readKind_33 (by decide) ?_
        refine x_keep (L' := []) C [] rfl ?_
        exact kp_X8_readKind_34 h (nI 2) S23 C N hg  h1
      · have h1 := h1.2 z9
        refine x_iconst (v := (nI 4)) C dX8_readKind_29 (by decide) ?_
        refine x_goto (tgt := 34) C dX8_readKind_30 (by decide) ?_
        refine x_keep (L' := []) C [] rfl ?_
        exact kp_X8_readKind_34 h (nI 4) S23 C N hg  h1
  · have h1 := h1.2 z9
    refine x_iconst (v := (1 : Int32)) C dX8_readKind_9 (by decide) ?_
    exact x_iret C (Nat.le_of_ble_eq_true rfl) (Nat.le_of_ble_eq_true rfl) rfl dX8_readKind_10 (hg _ _ h1)
theorem kp_X8_readKind_met {h : Nat}  {S : xm_S} {g : Int32 → xm_S → Prop}  (h1 : wp_X8_readKind h  S g) : xm_Met yX8_readKind cX8_readKind 1 (some (FieldType.int)) rm_X8_readKind [xm_r (some h)] S (xm_qi g) xm_nox :=
  xm_ofW RX8 (by decide +kernel) rfl (Nat.le_of_ble_eq_true rfl) (fun K C N hq hx hi => kp_X8_readKind h  S C N (fun v S h => by rw [hq]; exact ⟨v, rfl, h⟩)  h1)
def rm_X9_digitsOf : Room := { frames := 1, cells := 0, slots := 0, locals := 20 }
theorem dX9_digitsOf_0 : decode cX9_digitsOf 0 = .ok (.iload_n 0, 1) := by decide +kernel
theorem dX9_digitsOf_1 : decode cX9_digitsOf 1 = .ok (.bipush 10, 2) := by decide +kernel
theorem dX9_digitsOf_3 : decode cX9_digitsOf 3 = .ok (.irem, 1) := by decide +kernel
theorem dX9_digitsOf_4 : decode cX9_digitsOf 4 = .ok (.ifCond .ne 8, 3) := by decide +kernel
theorem dX9_digitsOf_7 : decode cX9_digitsOf 7 = .ok (.bipush 10, 2) := by decide +kernel
theorem dX9_digitsOf_9 : decode cX9_digitsOf 9 = .ok (.goto 7, 3) := by decide +kernel
theorem dX9_digitsOf_12 : decode cX9_digitsOf 12 = .ok (.iload_n 0, 1) := by decide +kernel
theorem dX9_digitsOf_13 : decode cX9_digitsOf 13 = .ok (.bipush 10, 2) := by decide +kernel
theorem dX9_digitsOf_15 : decode cX9_digitsOf 15 = .ok (.irem, 1) := by decide +kernel
theorem dX9_digitsOf_16 : decode cX9_digitsOf 16 = .ok (.istore_n 1, 1) := by decide +kernel
theorem dX9_digitsOf_17 : decode cX9_digitsOf 17 = .ok (.iload_n 1, 1) := by decide +kernel
theorem dX9_digitsOf_18 : decode cX9_digitsOf 18 = .ok (.iload_n 0, 1) := by decide +kernel
theorem dX9_digitsOf_19 : decode cX9_digitsOf 19 = .ok (.bipush 10, 2) := by decide +kernel
theorem dX9_digitsOf_21 : decode cX9_digitsOf 21 = .ok (.idiv, 1) := by decide +kernel
theorem dX9_digitsOf_22 : decode cX9_digitsOf 22 = .ok (.bipush 10, 2) := by decide +kernel
theorem dX9_digitsOf_24 : decode cX9_digitsOf 24 = .ok (.irem, 1) := by decide +kernel
theorem dX9_digitsOf_25 : decode cX9_digitsOf 25 = .ok (.iconst 4, 1) := by decide +kernel
theorem dX9_digitsOf_26 : decode cX9_digitsOf 26 = .ok (.ishl, 1) := by decide +kernel
theorem dX9_digitsOf_27 : decode cX9_digitsOf 27 = .ok (.ior, 1) := by decide +kernel
theorem dX9_digitsOf_28 : decode cX9_digitsOf 28 = .ok (.istore_n 1, 1) := by decide +kernel
theorem dX9_digitsOf_29 : decode cX9_digitsOf 29 = .ok (.iload_n 1, 1) := by decide +kernel
theorem dX9_digitsOf_30 : decode cX9_digitsOf 30 = .ok (.iload_n 0, 1) := by decide +kernel
theorem dX9_digitsOf_31 : decode cX9_digitsOf 31 = .ok (.bipush 100, 2) := by decide +kernel
theorem dX9_digitsOf_33 : decode cX9_digitsOf 33 = .ok (.idiv, 1) := by decide +kernel
theorem dX9_digitsOf_34 : decode cX9_digitsOf 34 = .ok (.bipush 10, 2) := by decide +kernel
theorem dX9_digitsOf_36 : decode cX9_digitsOf 36 = .ok (.irem, 1) := by decide +kernel
theorem dX9_digitsOf_37 : decode cX9_digitsOf 37 = .ok (.bipush 8, 2) := by decide +kernel
theorem dX9_digitsOf_39 : decode cX9_digitsOf 39 = .ok (.ishl, 1) := by decide +kernel
theorem dX9_digitsOf_40 : decode cX9_digitsOf 40 = .ok (.ior, 1) := by decide +kernel
theorem dX9_digitsOf_41 : decode cX9_digitsOf 41 = .ok (.istore_n 1, 1) := by decide +kernel
theorem dX9_digitsOf_42 : decode cX9_digitsOf 42 = .ok (.iload_n 1, 1) := by decide +kernel
theorem dX9_digitsOf_43 : decode cX9_digitsOf 43 = .ok (.iload_n 0, 1) := by decide +kernel
theorem dX9_digitsOf_44 : decode cX9_digitsOf 44 = .ok (.sipush 1000, 3) := by decide +kernel
theorem dX9_digitsOf_47 : decode cX9_digitsOf 47 = .ok (.idiv, 1) := by decide +kernel
theorem dX9_digitsOf_48 : decode cX9_digitsOf 48 = .ok (.bipush 10, 2) := by decide +kernel
theorem dX9_digitsOf_50 : decode cX9_digitsOf 50 = .ok (.irem, 1) := by decide +kernel
theorem dX9_digitsOf_51 : decode cX9_digitsOf 51 = .ok (.bipush 12, 2) := by decide +kernel
theorem dX9_digitsOf_53 : decode cX9_digitsOf 53 = .ok (.ishl, 1) := by decide +kernel
theorem dX9_digitsOf_54 : decode cX9_digitsOf 54 = .ok (.ior, 1) := by decide +kernel
theorem dX9_digitsOf_55 : decode cX9_digitsOf 55 = .ok (.istore_n 1, 1) := by decide +kernel
theorem dX9_digitsOf_56 : decode cX9_digitsOf 56 = .ok (.iload_n 1, 1) := by decide +kernel
theorem dX9_digitsOf_57 : decode cX9_digitsOf 57 = .ok (.iload_n 0, 1) := by decide +kernel
theorem dX9_digitsOf_58 : decode cX9_digitsOf 58 = .ok (.sipush 10000, 3) := by decide +kernel
theorem dX9_digitsOf_61 : decode cX9_digitsOf 61 = .ok (.idiv, 1) := by decide +kernel
theorem dX9_digitsOf_62 : decode cX9_digitsOf 62 = .ok (.bipush 10, 2) := by decide +kernel
theorem dX9_digitsOf_64 : decode cX9_digitsOf 64 = .ok (.irem, 1) := by decide +kernel
theorem dX9_digitsOf_65 : decode cX9_digitsOf 65 = .ok (.bipush 16, 2) := by decide +kernel
theorem dX9_digitsOf_67 : decode cX9_digitsOf 67 = .ok (.ishl, 1) := by decide +kernel
theorem dX9_digitsOf_68 : decode cX9_digitsOf 68 = .ok (.ior, 1) := by decide +kernel
theorem dX9_digitsOf_69 : decode cX9_digitsOf 69 = .ok (.ireturn, 1) := by decide +kernel
def wp_X9_digitsOf_16 (x0 : Int32) (s0 : Int32) (S : xm_S) (g : Int32 → xm_S → Prop) : Prop :=
  ∀ y1, y1 = (s0 ||| (((x0 / (nI 10)) - (x0 / (nI 10)) / (nI 10) * (nI 10)) <<< ((nI 4) &&& 31))) → ∀ y3, y3 = (y1 ||| (((x0 / (nI 100)) - (x0 / (nI 100)) / (nI 10) * (nI 10)) <<< ((nI 8) &&& 31))) → ∀ y5, y5 = (y3 ||| (((x0 / (nI 1000)) - (x0 / (nI 1000)) / (nI 10) * (nI 10)) <<< ((nI 12) &&& 31))) → g (y5 ||| (((x0 / (nI 10000)) - (x0 / (nI 10000)) / (nI 10) * (nI 10)) <<< ((nI 16) &&& 31))) S
set_option maxRecDepth 100000 in
set_option maxHeartbeats 4000000 in
theorem kp_X9_digitsOf_16 {K : xm_K} (x0 : Int32) (s0 : Int32) (S : xm_S) {g : Int32 → xm_S → Prop} (C : xm_Cx K cX9_digitsOf RX9 2 (some (FieldType.int)) rm_X9_digitsOf) (N : xm_Nx K) (hg : ∀ v S, g v S → xm_q K (some (xm_i v)) S)  (h1 : wp_X9_digitsOf_16 x0 s0 S g) : xm_W K 0 0 16 [(0, xm_i x0)] [xm_i s0] S := by
  unfold wp_X9_digitsOf_16 at h1
  refine x_istore_n (L' := [(1, xm_i s0), (0, xm_i x0)]) C dX9_digitsOf_16 rfl (by decide) rfl ?_
  refine x_iload_n C 0 dX9_digitsOf_17 rfl rfl ?_
  refine x_iload_n C 1 dX9_digitsOf_18 rfl rfl ?_
  refine x_bipush (v := (nI 10)) C dX9_digitsOf_19 (by decide) ?_
  refine x_idiv C dX9_digitsOf_21 (by decide) ?_
  refine x_bipush (v := (nI 10)) C dX9_digitsOf_22 (by decide) ?_
  refine x_irem C dX9_digitsOf_24 (by decide) ?_
  refine x_iconst (v := (nI 4)) C dX9_digitsOf_25 (by decide) ?_
  refine x_ishl C dX9_digitsOf_26 ?_
  refine x_ior C dX9_digitsOf_27 ?_
  refine x_topi (fun y1 e2 => ?_)
  have h1 := h1 y1 e2
  refine x_istore_n (L' := [(1, xm_i y1), (0, xm_i x0)]) C dX9_digitsOf_28 rfl (by decide) rfl ?_
  refine x_iload_n C 0 dX9_digitsOf_29 rfl rfl ?_
  refine x_iload_n C 1 dX9_digitsOf_30 rfl rfl ?_
  refine x_bipush (v := (nI 100)) C dX9_digitsOf_31 (by decide) ?_
  refine x_idiv C dX9_digitsOf_33 (by decide) ?_
  refine x_bipush (v := (nI 10)) C dX9_digitsOf_34 (by decide) ?_
  refine x_irem C dX9_digitsOf_36 (by decide) ?_
  refine x_bipush (v := (nI 8)) C dX9_digitsOf_37 (by decide) ?_
  refine x_ishl C dX9_digitsOf_39 ?_
  refine x_ior C dX9_digitsOf_40 ?_
  refine x_topi (fun y3 e4 => ?_)
  have h1 := h1 y3 e4
  refine x_istore_n (L' := [(1, xm_i y3), (0, xm_i x0)]) C dX9_digitsOf_41 rfl (by decide) rfl ?_
  refine x_iload_n C 0 dX9_digitsOf_42 rfl rfl ?_
  refine x_iload_n C 1 dX9_digitsOf_43 rfl rfl ?_
  refine x_sipush (v := (nI 1000)) C dX9_digitsOf_44 (by decide) ?_
  refine x_idiv C dX9_digitsOf_47 (by decide) ?_
  refine x_bipush (v := (nI 10)) C dX9_digitsOf_48 (by decide) ?_
  refine x_irem C dX9_digitsOf_50 (by decide) ?_
  refine x_bipush (v := (nI 12)) C dX9_digitsOf_51 (by decide) ?_
  refine x_ishl C dX9_digitsOf_53 ?_
  refine x_ior C dX9_digitsOf_54 ?_
  refine x_topi (fun y5 e6 => ?_)
  have h1 := h1 y5 e6
  refine x_istore_n (L' := [(1, xm_i y5), (0, xm_i x0)]) C dX9_digitsOf_55 rfl (by decide) rfl ?_
  refine x_iload_n C 0 dX9_digitsOf_56 rfl rfl ?_
  refine x_iload_n C 1 dX9_digitsOf_57 rfl rfl ?_
  refine x_sipush (v := (nI 10000)) C dX9_digitsOf_58 (by decide) ?_
  refine x_idiv C dX9_digitsOf_61 (by decide) ?_
  refine x_bipush (v := (nI 10)) C dX9_digitsOf_62 (by decide) ?_
  refine x_irem C dX9_digitsOf_64 (by decide) ?_
  refine x_bipush (v := (nI 16)) C dX9_digitsOf_65 (by decide) ?_
  refine x_ishl C dX9_digitsOf_67 ?_
  refine x_ior C dX9_digitsOf_68 ?_
  exact x_iret C (Nat.le_of_ble_eq_true rfl) (Nat.le_of_ble_eq_true rfl) rfl dX9_digitsOf_69 (hg _ _ h1)
def wp_X9_digitsOf (x0 : Int32) (S : xm_S) (g : Int32 → xm_S → Prop) : Prop :=
  (¬ (x0 - x0 / (nI 10) * (nI 10)) = 0 → wp_X9_digitsOf_16 x0 (x0 - x0 / (nI 10) * (nI 10)) S g) ∧ ((x0 - x0 / (nI 10) * (nI 10)) = 0 → wp_X9_digitsOf_16 x0 (nI 10) S g)
set_option maxRecDepth 100000 in
set_option maxHeartbeats 4000000 in
theorem kp_X9_digitsOf {K : xm_K} (x0 : Int32) (S : xm_S) {g : Int32 → xm_S → Prop} (C : xm_Cx K cX9_digitsOf RX9 2 (some (FieldType.int)) rm_X9_digitsOf) (N : xm_Nx K) (hg : ∀ v S, g v S → xm_q K (some (xm_i v)) S)  (h1 : wp_X9_digitsOf x0 S g) : xm_W K 0 0 0 [(0, xm_i x0)] [] S := by
  unfold wp_X9_digitsOf at h1
  refine x_iload_n C 0 dX9_digitsOf_0 rfl rfl ?_
  refine x_bipush (v := (nI 10)) C dX9_digitsOf_1 (by decide) ?_
  refine x_irem C dX9_digitsOf_3 (by decide) ?_
  refine x_if_ne (tgt := 12) C dX9_digitsOf_4 (by decide) (fun z9 => ?_) (fun z9 => ?_)
  · have h1 := h1.1 z9
    refine x_iload_n C 0 dX9_digitsOf_12 rfl rfl ?_
    refine x_bipush (v := (nI 10)) C dX9_digitsOf_13 (by decide) ?_
    refine x_irem C dX9_digitsOf_15 (by decide) ?_
    exact kp_X9_digitsOf_16 x0 (x0 - x0 / (nI 10) * (nI 10)) S C N hg  h1
  · have h1 := h1.2 z9
    refine x_bipush (v := (nI 10)) C dX9_digitsOf_7 (by decide) ?_
    refine x_goto (tgt := 16) C dX9_digitsOf_9 (by decide) ?_
    exact kp_X9_digitsOf_16 x0 (nI 10) S C N hg  h1
theorem kp_X9_digitsOf_met {x0 : Int32} {S : xm_S} {g : Int32 → xm_S → Prop}  (h1 : wp_X9_digitsOf x0 S g) : xm_Met yX9_digitsOf cX9_digitsOf 2 (some (FieldType.int)) rm_X9_digitsOf [xm_i x0] S (xm_qi g) xm_nox :=
  xm_ofW RX9 (by decide +kernel) rfl (Nat.le_of_ble_eq_true rfl) (fun K C N hq hx hi => kp_X9_digitsOf x0 S C N (fun v S h => by rw [hq]; exact ⟨v, rfl, h⟩)  h1)
def rm_X9_next : Room := { frames := 1, cells := 0, slots := 0, locals := 20 }
theorem dX9_next_0 : decode cX9_next 0 = .ok (.iload_n 1, 1) := by decide +kernel
theorem dX9_next_1 : decode cX9_next 1 = .ok (.bipush 12, 2) := by decide +kernel
theorem dX9_next_3 : decode cX9_next 3 = .ok (.ishr, 1) := by decide +kernel
theorem dX9_next_4 : decode cX9_next 4 = .ok (.bipush 15, 2) := by decide +kernel
theorem dX9_next_6 : decode cX9_next 6 = .ok (.iand, 1) := by decide +kernel
theorem dX9_next_7 : decode cX9_next 7 = .ok (.ifCond .eq 7, 3) := by decide +kernel
theorem dX9_next_10 : decode cX9_next 10 = .ok (.iconst 1, 1) := by decide +kernel
theorem dX9_next_11 : decode cX9_next 11 = .ok (.goto 4, 3) := by decide +kernel
theorem dX9_next_14 : decode cX9_next 14 = .ok (.iconst 0, 1) := by decide +kernel
theorem dX9_next_15 : decode cX9_next 15 = .ok (.istore_n 3, 1) := by decide +kernel
theorem dX9_next_16 : decode cX9_next 16 = .ok (.iload_n 1, 1) := by decide +kernel
theorem dX9_next_17 : decode cX9_next 17 = .ok (.bipush 8, 2) := by decide +kernel
theorem dX9_next_19 : decode cX9_next 19 = .ok (.ishr, 1) := by decide +kernel
theorem dX9_next_20 : decode cX9_next 20 = .ok (.bipush 15, 2) := by decide +kernel
theorem dX9_next_22 : decode cX9_next 22 = .ok (.iand, 1) := by decide +kernel
theorem dX9_next_23 : decode cX9_next 23 = .ok (.ifCond .eq 7, 3) := by decide +kernel
theorem dX9_next_26 : decode cX9_next 26 = .ok (.iconst 1, 1) := by decide +kernel
theorem dX9_next_27 : decode cX9_next 27 = .ok (.goto 4, 3) := by decide +kernel
theorem dX9_next_30 : decode cX9_next 30 = .ok (.iconst 0, 1) := by decide +kernel
theorem dX9_next_31 : decode cX9_next 31 = .ok (.istore 4, 2) := by decide +kernel
theorem dX9_next_33 : decode cX9_next 33 = .ok (.iload_n 0, 1) := by decide +kernel
theorem dX9_next_34 : decode cX9_next 34 = .ok (.bipush 6, 2) := by decide +kernel
theorem dX9_next_36 : decode cX9_next 36 = .ok (.if_icmp .ne 17, 3) := by decide +kernel
theorem dX9_next_39 : decode cX9_next 39 = .ok (.iload_n 3, 1) := by decide +kernel
theorem dX9_next_40 : decode cX9_next 40 = .ok (.ifCond .ne 13, 3) := by decide +kernel
theorem dX9_next_43 : decode cX9_next 43 = .ok (.iload 4, 2) := by decide +kernel
theorem dX9_next_45 : decode cX9_next 45 = .ok (.ifCond .ne 8, 3) := by decide +kernel
theorem dX9_next_48 : decode cX9_next 48 = .ok (.bipush 16, 2) := by decide +kernel
theorem dX9_next_50 : decode cX9_next 50 = .ok (.goto 6, 3) := by decide +kernel
theorem dX9_next_53 : decode cX9_next 53 = .ok (.sipush 256, 3) := by decide +kernel
theorem dX9_next_56 : decode cX9_next 56 = .ok (.istore 5, 2) := by decide +kernel
theorem dX9_next_58 : decode cX9_next 58 = .ok (.iload_n 0, 1) := by decide +kernel
theorem dX9_next_59 : decode cX9_next 59 = .ok (.bipush 6, 2) := by decide +kernel
theorem dX9_next_61 : decode cX9_next 61 = .ok (.if_icmp .ne 10, 3) := by decide +kernel
theorem dX9_next_64 : decode cX9_next 64 = .ok (.iload_n 3, 1) := by decide +kernel
theorem dX9_next_65 : decode cX9_next 65 = .ok (.ifCond .eq 15, 3) := by decide +kernel
theorem dX9_next_68 : decode cX9_next 68 = .ok (.goto 7, 3) := by decide +kernel
theorem dX9_next_71 : decode cX9_next 71 = .ok (.iload_n 2, 1) := by decide +kernel
theorem dX9_next_72 : decode cX9_next 72 = .ok (.ifCond .ne 8, 3) := by decide +kernel
theorem dX9_next_75 : decode cX9_next 75 = .ok (.sipush 4096, 3) := by decide +kernel
theorem dX9_next_78 : decode cX9_next 78 = .ok (.istore 5, 2) := by decide +kernel
theorem dX9_next_80 : decode cX9_next 80 = .ok (.iload_n 1, 1) := by decide +kernel
theorem dX9_next_81 : decode cX9_next 81 = .ok (.iload 5, 2) := by decide +kernel
theorem dX9_next_83 : decode cX9_next 83 = .ok (.ineg, 1) := by decide +kernel
theorem dX9_next_84 : decode cX9_next 84 = .ok (.iand, 1) := by decide +kernel
theorem dX9_next_85 : decode cX9_next 85 = .ok (.iload 5, 2) := by decide +kernel
theorem dX9_next_87 : decode cX9_next 87 = .ok (.iadd, 1) := by decide +kernel
theorem dX9_next_88 : decode cX9_next 88 = .ok (.bipush 10, 2) := by decide +kernel
theorem dX9_next_90 : decode cX9_next 90 = .ok (.iadd, 1) := by decide +kernel
theorem dX9_next_91 : decode cX9_next 91 = .ok (.ireturn, 1) := by decide +kernel
def wp_X9_next_80 (x1 : Int32) (x5 : Int32) (S : xm_S) (g : Int32 → xm_S → Prop) : Prop :=
  g (((x1 &&& (-x5)) + x5) + (nI 10)) S
set_option maxRecDepth 100000 in
set_option maxHeartbeats 4000000 in
theorem kp_X9_next_80 {K : xm_K} (x1 : Int32) (x5 : Int32) (S : xm_S) {g : Int32 → xm_S → Prop} (C : xm_Cx K cX9_next RX9 6 (some (FieldType.int)) rm_X9_next) (N : xm_Nx K) (hg : ∀ v S, g v S → xm_q K (some (xm_i v)) S)  (h1 : wp_X9_next_80 x1 x5 S g) : xm_W K 0 0 80 [(1, xm_i x1), (5, xm_i x5)] [] S := by
  unfold wp_X9_next_80 at h1
  refine x_iload_n C 0 dX9_next_80 rfl rfl ?_
  refine x_iload C 1 dX9_next_81 rfl ?_
  refine x_ineg C dX9_next_83 ?_
  refine x_iand C dX9_next_84 ?_
  refine x_iload C 1 dX9_next_85 rfl ?_
  refine x_iadd C dX9_next_87 ?_
  refine x_bipush (v := (nI 10)) C dX9_next_88 (by decide) ?_
  refine x_iadd C dX9_next_90 ?_
  exact x_iret C (Nat.le_of_ble_eq_true rfl) (Nat.le_of_ble_eq_true rfl) rfl dX9_next_91 (hg _ _ h1)
def wp_X9_next_75 (x1 : Int32) (S : xm_S) (g : Int32 → xm_S → Prop) : Prop :=
  wp_X9_next_80 x1 (nI 4096) S g
set_option maxRecDepth 100000 in
set_option maxHeartbeats 4000000 in
theorem kp_X9_next_75 {K : xm_K} (x1 : Int32) (S : xm_S) {g : Int32 → xm_S → Prop} (C : xm_Cx K cX9_next RX9 6 (some (FieldType.int)) rm_X9_next) (N : xm_Nx K) (hg : ∀ v S, g v S → xm_q K (some (xm_i v)) S)  (h1 : wp_X9_next_75 x1 S g) : xm_W K 0 0 75 [(1, xm_i x1)] [] S := by
  unfold wp_X9_next_75 at h1
  refine x_sipush (v := (nI 4096)) C dX9_next_75 (by decide) ?_
  refine x_istore (L' := [(5, xm_i (nI 4096)), (1, xm_i x1)]) C dX9_next_78 (by decide) rfl ?_
  refine x_keep (L' := [(1, xm_i x1), (5, xm_i (nI 4096))]) C [1, 0] rfl ?_
  exact kp_X9_next_80 x1 (nI 4096) S C N hg  h1
def wp_X9_next_56 (x0 : Int32) (x1 : Int32) (x2 : Int32) (x3 : Int32) (s0 : Int32) (S : xm_S) (g : Int32 → xm_S → Prop) : Prop :=
  (¬ x0 = (nI 6) → (¬ x2 = 0 → wp_X9_next_80 x1 s0 S g) ∧ (x2 = 0 → wp_X9_next_75 x1 S g)) ∧ (x0 = (nI 6) → (x3 = 0 → wp_X9_next_80 x1 s0 S g) ∧ (¬ x3 = 0 → wp_X9_next_75 x1 S g))
set_option maxRecDepth 100000 in
set_option maxHeartbeats 4000000 in
theorem kp_X9_next_56 {K : xm_K} (x0 : Int32) (x1 : Int32) (x2 : Int32) (x3 : Int32) (s0 : Int32) (S : xm_S) {g : Int32 → xm_S → Prop} (C : xm_Cx K cX9_next RX9 6 (some (FieldType.int)) rm_X9_next) (N : xm_Nx K) (hg : ∀ v S, g v S → xm_q K (some (xm_i v)) S)  (h1 : wp_X9_next_56 x0 x1 x2 x3 s0 S g) : xm_W K 0 0 56 [(0, xm_i x0), (1, xm_i x1), (2, xm_i x2), (3, xm_i x3)] [xm_i s0] S := by
  unfold wp_X9_next_56 at h1
  refine x_istore (L' := [(5, xm_i s0), (0, xm_i x0), (1, xm_i x1), (2, xm_i x2), (3, xm_i x3)]) C dX9_next_56 (by decide) rfl ?_
  refine x_iload_n C 1 dX9_next_58 rfl rfl ?_
  refine x_bipush (v := (nI 6)) C dX9_next_59 (by decide) ?_
  refine x_icmp_ne (tgt := 71) C dX9_next_61 (by decide) (fun z9 => ?_) (fun z9 => ?_)
  · have h1 := h1.1 z9
    refine x_iload_n C 3 dX9_next_71 rfl rfl ?_
    refine x_if_ne (tgt := 80) C dX9_next_72 (by decide) (fun z9 => ?_) (fun z9 => ?_)
    · have h1 := h1.1 z9
      refine x_keep (L' := [(1, xm_i x1), (5, xm_i s0)]) C [2, 0] rfl ?_
      exact kp_X9_next_80 x1 s0 S C N hg  h1
    · have h1 := h1.2 z9
      refine x_keep (L' := [(1, xm_i x1)]) C [2] rfl ?_
      exact kp_X9_next_75 x1 S C N hg  h1
  · have h1 := h1.2 z9
    refine x_iload_n C 4 dX9_next_64 rfl rfl ?_
    refine x_if_eq (tgt := 80) C dX9_next_65 (by decide) (fun z9 => ?_) (fun z9 => ?_)
    · have h1 := h1.1 z9
      refine x_keep (L' := [(1, xm_i x1), (5, xm_i s0)]) C [2, 0] rfl ?_
      exact kp_X9_next_80 x1 s0 S C N hg  h1
    · have h1 := h1.2 z9
      refine x_goto (tgt := 75) C dX9_next_68 (by decide) ?_
      refine x_keep (L' := [(1, xm_i x1)]) C [2] rfl ?_
      exact kp_X9_next_75 x1 S C N hg  h1
def wp_X9_next_53 (x0 : Int32) (x1 : Int32) (x2 : Int32) (x3 : Int32) (S : xm_S) (g : Int32 → xm_S → Prop) : Prop :=
  wp_X9_next_56 x0 x1 x2 x3 (nI 256) S g
set_option maxRecDepth 100000 in
set_option maxHeartbeats 4000000 in
theorem kp_X9_next_53 {K : xm_K} (x0 : Int32) (x1 : Int32) (x2 : Int32) (x3 : Int32) (S : xm_S) {g : Int32 → xm_S → Prop} (C : xm_Cx K cX9_next RX9 6 (some (FieldType.int)) rm_X9_next) (N : xm_Nx K) (hg : ∀ v S, g v S → xm_q K (some (xm_i v)) S)  (h1 : wp_X9_next_53 x0 x1 x2 x3 S g) : xm_W K 0 0 53 [(0, xm_i x0), (1, xm_i x1), (2, xm_i x2), (3, xm_i x3)] [] S := by
  unfold wp_X9_next_53 at h1
  refine x_sipush (v := (nI 256)) C dX9_next_53 (by decide) ?_
  exact kp_X9_next_56 x0 x1 x2 x3 (nI 256) S C N hg  h1
def wp_X9_next_31 (x0 : Int32) (x1 : Int32) (x2 : Int32) (x3 : Int32) (s0 : Int32) (S : xm_S) (g : Int32 → xm_S → Prop) : Prop :=
  (¬ x0 = (nI 6) → wp_X9_next_53 x0 x1 x2 x3 S g) ∧ (x0 = (nI 6) → (¬ x3 = 0 → wp_X9_next_53 x0 x1 x2 x3 S g) ∧ (x3 = 0 → (¬ s0 = 0 → wp_X9_next_53 x0 x1 x2 x3 S g) ∧ (s0 = 0 → wp_X9_next_56 x0 x1 x2 x3 (nI 16) S g)))
set_option maxRecDepth 100000 in
set_option maxHeartbeats 4000000 in
theorem kp_X9_next_31 {K : xm_K} (x0 : Int32) (x1 : Int32) (x2 : Int32) (x3 : Int32) (s0 : Int32) (S : xm_S) {g : Int32 → xm_S → Prop} (C : xm_Cx K cX9_next RX9 6 (some (FieldType.int)) rm_X9_next) (N : xm_Nx K) (hg : ∀ v S, g v S → xm_q K (some (xm_i v)) S)  (h1 : wp_X9_next_31 x0 x1 x2 x3 s0 S g) : xm_W K 0 0 31 [(0, xm_i x0), (1, xm_i x1), (2, xm_i x2), (3, xm_i x3)] [xm_i s0] S := by
  unfold wp_X9_next_31 at h1
  refine x_istore (L' := [(4, xm_i s0), (0, xm_i x0), (1, xm_i x1), (2, xm_i x2), (3, xm_i x3)]) C dX9_next_31 (by decide) rfl ?_
  refine x_iload_n C 1 dX9_next_33 rfl rfl ?_
  refine x_bipush (v := (nI 6)) C dX9_next_34 (by decide) ?_
  refine x_icmp_ne (tgt := 53) C dX9_next_36 (by decide) (fun z9 => ?_) (fun z9 => ?_)
  · have h1 := h1.1 z9
    refine x_keep (L' := [(0, xm_i x0), (1, xm_i x1), (2, xm_i x2), (3, xm_i x3)]) C [1, 2, 3, 4] rfl ?_
    exact kp_X9_next_53 x0 x1 x2 x3 S C N hg  h1
  · have h1 := h1.2 z9
    refine x_iload_n C 4 dX9_next_39 rfl rfl ?_
    refine x_if_ne (tgt := 53) C dX9_next_40 (by decide) (fun z9 => ?_) (fun z9 => ?_)
    · have h1 := h1.1 z9
      refine x_keep (L' := [(0, xm_i x0), (1, xm_i x1), (2, xm_i x2), (3, xm_i x3)]) C [1, 2, 3, 4] rfl ?_
      exact kp_X9_next_53 x0 x1 x2 x3 S C N hg  h1
    · have h1 := h1.2 z9
      refine x_iload C 0 dX9_next_43 rfl ?_
      refine x_if_ne (tgt := 53) C dX9_next_45 (by decide) (fun z9 => ?_) (fun z9 => ?_)
      · have h1 := h1.1 z9
        refine x_keep (L' := [(0, xm_i x0), (1, xm_i x1), (2, xm_i x2), (3, xm_i x3)]) C [1, 2, 3, 4] rfl ?_
        exact kp_X9_next_53 x0 x1 x2 x3 S C N hg  h1
      · have h1 := h1.2 z9
        refine x_bipush (v := (nI 16)) C dX9_next_48 (by decide) ?_
        refine x_goto (tgt := 56) C dX9_next_50 (by decide) ?_
        refine x_keep (L' := [(0, xm_i x0), (1, xm_i x1), (2, xm_i x2), (3, xm_i x3)]) C [1, 2, 3, 4] rfl ?_
        exact kp_X9_next_56 x0 x1 x2 x3 (nI 16) S C N hg  h1
def wp_X9_next_15 (x0 : Int32) (x1 : Int32) (x2 : Int32) (s0 : Int32) (S : xm_S) (g : Int32 → xm_S → Prop) : Prop :=
  (((x1 >>> ((nI 8) &&& 31)) &&& (nI 15)) = 0 → wp_X9_next_31 x0 x1 x2 s0 (0 : Int32) S g) ∧ (¬ ((x1 >>> ((nI 8) &&& 31)) &&& (nI 15)) = 0 → wp_X9_next_31 x0 x1 x2 s0 (1 : Int32) S g)
set_option maxRecDepth 100000 in
set_option maxHeartbeats 4000000 in
theorem kp_X9_next_15 {K : xm_K} (x0 : Int32) (x1 : Int32) (x2 : Int32) (s0 : Int32) (S : xm_S) {g : Int32 → xm_S → Prop} (C : xm_Cx K cX9_next RX9 6 (some (FieldType.int)) rm_X9_next) (N : xm_Nx K) (hg : ∀ v S, g v S → xm_q K (some (xm_i v)) S)  (h1 : wp_X9_next_15 x0 x1 x2 s0 S g) : xm_W K 0 0 15 [(0, xm_i x0), (1, xm_i x1), (2, xm_i x2)] [xm_i s0] S := by
  unfold wp_X9_next_15 at h1
  refine x_istore_n (L' := [(3, xm_i s0), (0, xm_i x0), (1, xm_i x1), (2, xm_i x2)]) C dX9_next_15 rfl (by decide) rfl ?_
  refine x_iload_n C 2 dX9_next_16 rfl rfl ?_
  refine x_bipush (v := (nI 8)) C dX9_next_17 (by decide) ?_
  refine x_ishr C dX9_next_19 ?_
  refine x_bipush (v := (nI 15)) C dX9_next_20 (by decide) ?_
  refine x_iand C dX9_next_22 ?_
  refine x_if_eq (tgt := 30) C dX9_next_23 (by decide) (fun z9 => ?_) (fun z9 => ?_)
  · have h1 := h1.1 z9
    refine x_iconst (v := (0 : Int32)) C dX9_next_30 (by decide) ?_
    refine x_keep (L' := [(0, xm_i x0), (1, xm_i x1), (2, xm_i x2), (3, xm_i s0)]) C [1, 2, 3, 0] rfl ?_
    exact kp_X9_next_31 x0 x1 x2 s0 (0 : Int32) S C N hg  h1
  · have h1 := h1.2 z9
    refine x_iconst (v := (1 : Int32)) C dX9_next_26 (by decide) ?_
    refine x_goto (tgt := 31) C dX9_next_27 (by decide) ?_
    refine x_keep (L' := [(0, xm_i x0), (1, xm_i x1), (2, xm_i x2), (3, xm_i s0)]) C [1, 2, 3, 0] rfl ?_
    exact kp_X9_next_31 x0 x1 x2 s0 (1 : Int32) S C N hg  h1
def wp_X9_next (x0 : Int32) (x1 : Int32) (x2 : Int32) (S : xm_S) (g : Int32 → xm_S → Prop) : Prop :=
  (((x1 >>> ((nI 12) &&& 31)) &&& (nI 15)) = 0 → wp_X9_next_15 x0 x1 x2 (0 : Int32) S g) ∧ (¬ ((x1 >>> ((nI 12) &&& 31)) &&& (nI 15)) = 0 → wp_X9_next_15 x0 x1 x2 (1 : Int32) S g)
set_option maxRecDepth 100000 in
set_option maxHeartbeats 4000000 in
theorem kp_X9_next {K : xm_K} (x0 : Int32) (x1 : Int32) (x2 : Int32) (S : xm_S) {g : Int32 → xm_S → Prop} (C : xm_Cx K cX9_next RX9 6 (some (FieldType.int)) rm_X9_next) (N : xm_Nx K) (hg : ∀ v S, g v S → xm_q K (some (xm_i v)) S)  (h1 : wp_X9_next x0 x1 x2 S g) : xm_W K 0 0 0 [(0, xm_i x0), (1, xm_i x1), (2, xm_i x2)] [] S := by
  unfold wp_X9_next at h1
  refine x_iload_n C 1 dX9_next_0 rfl rfl ?_
  refine x_bipush (v := (nI 12)) C dX9_next_1 (by decide) ?_
  refine x_ishr C dX9_next_3 ?_
  refine x_bipush (v := (nI 15)) C dX9_next_4 (by decide) ?_
  refine x_iand C dX9_next_6 ?_
  refine x_if_eq (tgt := 14) C dX9_next_7 (by decide) (fun z9 => ?_) (fun z9 => ?_)
  · have h1 := h1.1 z9
    refine x_iconst (v := (0 : Int32)) C dX9_next_14 (by decide) ?_
    exact kp_X9_next_15 x0 x1 x2 (0 : Int32) S C N hg  h1
  · have h1 := h1.2 z9
    refine x_iconst (v := (1 : Int32)) C dX9_next_10 (by decide) ?_
    refine x_goto (tgt := 15) C dX9_next_11 (by decide) ?_
    exact kp_X9_next_15 x0 x1 x2 (1 : Int32) S C N hg  h1
theorem kp_X9_next_met {x0 : Int32} {x1 : Int32} {x2 : Int32} {S : xm_S} {g : Int32 → xm_S → Prop}  (h1 : wp_X9_next x0 x1 x2 S g) : xm_Met yX9_next cX9_next 6 (some (FieldType.int)) rm_X9_next [xm_i x0, xm_i x1, xm_i x2] S (xm_qi g) xm_nox :=
  xm_ofW RX9 (by decide +kernel) rfl (Nat.le_of_ble_eq_true rfl) (fun K C N hq hx hi => kp_X9_next x0 x1 x2 S C N (fun v S h => by rw [hq]; exact ⟨v, rfl, h⟩)  h1)
def rm_X9_init : Room := { frames := 2, cells := 2, slots := 6, locals := 45 }
theorem dX9_init_0 : decode cX9_init 0 = .ok (.aload_n 0, 1) := by decide +kernel
theorem dX9_init_1 : decode cX9_init 1 = .ok (.invokespecial 3, 3) := by decide +kernel
theorem dX9_init_4 : decode cX9_init 4 = .ok (.aload_n 0, 1) := by decide +kernel
theorem dX9_init_5 : decode cX9_init 5 = .ok (.iconst 3, 1) := by decide +kernel
theorem dX9_init_6 : decode cX9_init 6 = .ok (.newarray .int, 2) := by decide +kernel
theorem dX9_init_8 : decode cX9_init 8 = .ok (.putfield 9, 3) := by decide +kernel
theorem dX9_init_11 : decode cX9_init 11 = .ok (.aload_n 0, 1) := by decide +kernel
theorem dX9_init_12 : decode cX9_init 12 = .ok (.iconst 3, 1) := by decide +kernel
theorem dX9_init_13 : decode cX9_init 13 = .ok (.newarray .int, 2) := by decide +kernel
theorem dX9_init_15 : decode cX9_init 15 = .ok (.putfield 15, 3) := by decide +kernel
theorem dX9_init_18 : decode cX9_init 18 = .ok (.aload_n 0, 1) := by decide +kernel
theorem dX9_init_19 : decode cX9_init 19 = .ok (.iload_n 2, 1) := by decide +kernel
theorem dX9_init_20 : decode cX9_init 20 = .ok (.putfield 18, 3) := by decide +kernel
theorem dX9_init_23 : decode cX9_init 23 = .ok (.aload_n 0, 1) := by decide +kernel
theorem dX9_init_24 : decode cX9_init 24 = .ok (.iload 4, 2) := by decide +kernel
theorem dX9_init_26 : decode cX9_init 26 = .ok (.putfield 22, 3) := by decide +kernel
theorem dX9_init_29 : decode cX9_init 29 = .ok (.iconst 0, 1) := by decide +kernel
theorem dX9_init_30 : decode cX9_init 30 = .ok (.istore 5, 2) := by decide +kernel
theorem dX9_init_32 : decode cX9_init 32 = .ok (.iload 5, 2) := by decide +kernel
theorem dX9_init_34 : decode cX9_init 34 = .ok (.iconst 2, 1) := by decide +kernel
theorem dX9_init_35 : decode cX9_init 35 = .ok (.if_icmp .gt 150, 3) := by decide +kernel
theorem dX9_init_38 : decode cX9_init 38 = .ok (.iload_n 2, 1) := by decide +kernel
theorem dX9_init_39 : decode cX9_init 39 = .ok (.iload 5, 2) := by decide +kernel
theorem dX9_init_41 : decode cX9_init 41 = .ok (.invokestatic 26, 3) := by decide +kernel
theorem dX9_init_44 : decode cX9_init 44 = .ok (.istore 6, 2) := by decide +kernel
theorem dX9_init_46 : decode cX9_init 46 = .ok (.iload_n 1, 1) := by decide +kernel
theorem dX9_init_47 : decode cX9_init 47 = .ok (.ifCond .eq 13, 3) := by decide +kernel
theorem dX9_init_50 : decode cX9_init 50 = .ok (.iload_n 1, 1) := by decide +kernel
theorem dX9_init_51 : decode cX9_init 51 = .ok (.iconst 3, 1) := by decide +kernel
theorem dX9_init_52 : decode cX9_init 52 = .ok (.if_icmp .eq 8, 3) := by decide +kernel
theorem dX9_init_55 : decode cX9_init 55 = .ok (.iload_n 1, 1) := by decide +kernel
theorem dX9_init_56 : decode cX9_init 56 = .ok (.iconst 5, 1) := by decide +kernel
theorem dX9_init_57 : decode cX9_init 57 = .ok (.if_icmp .ne 7, 3) := by decide +kernel
theorem dX9_init_60 : decode cX9_init 60 = .ok (.iconst 1, 1) := by decide +kernel
theorem dX9_init_61 : decode cX9_init 61 = .ok (.goto 4, 3) := by decide +kernel
theorem dX9_init_64 : decode cX9_init 64 = .ok (.iconst 0, 1) := by decide +kernel
theorem dX9_init_65 : decode cX9_init 65 = .ok (.istore 7, 2) := by decide +kernel
theorem dX9_init_67 : decode cX9_init 67 = .ok (.iload_n 1, 1) := by decide +kernel
theorem dX9_init_68 : decode cX9_init 68 = .ok (.ifCond .eq 13, 3) := by decide +kernel
theorem dX9_init_71 : decode cX9_init 71 = .ok (.iload_n 1, 1) := by decide +kernel
theorem dX9_init_72 : decode cX9_init 72 = .ok (.iconst 2, 1) := by decide +kernel
theorem dX9_init_73 : decode cX9_init 73 = .ok (.if_icmp .eq 8, 3) := by decide +kernel
theorem dX9_init_76 : decode cX9_init 76 = .ok (.iload_n 1, 1) := by decide +kernel
theorem dX9_init_77 : decode cX9_init 77 = .ok (.iconst 4, 1) := by decide +kernel
theorem dX9_init_78 : decode cX9_init 78 = .ok (.if_icmp .ne 7, 3) := by decide +kernel
theorem dX9_init_81 : decode cX9_init 81 = .ok (.iconst 1, 1) := by decide +kernel
theorem dX9_init_82 : decode cX9_init 82 = .ok (.goto 4, 3) := by decide +kernel
theorem dX9_init_85 : decode cX9_init 85 = .ok (.iconst 0, 1) := by decide +kernel
theorem dX9_init_86 : decode cX9_init 86 = .ok (.istore 8, 2) := by decide +kernel
theorem dX9_init_88 : decode cX9_init 88 = .ok (.aload_n 0, 1) := by decide +kernel
theorem dX9_init_89 : decode cX9_init 89 = .ok (.getfield 9, 3) := by decide +kernel
theorem dX9_init_92 : decode cX9_init 92 = .ok (.iload 5, 2) := by decide +kernel
theorem dX9_init_94 : decode cX9_init 94 = .ok (.iload 7, 2) := by decide +kernel
theorem dX9_init_96 : decode cX9_init 96 = .ok (.ifCond .eq 7, 3) := by decide +kernel
theorem dX9_init_99 : decode cX9_init 99 = .ok (.iconst 0, 1) := by decide +kernel
theorem dX9_init_100 : decode cX9_init 100 = .ok (.goto 17, 3) := by decide +kernel
theorem dX9_init_103 : decode cX9_init 103 = .ok (.iload_n 1, 1) := by decide +kernel
theorem dX9_init_104 : decode cX9_init 104 = .ok (.iconst 2, 1) := by decide +kernel
theorem dX9_init_105 : decode cX9_init 105 = .ok (.if_icmp .ne 10, 3) := by decide +kernel
theorem dX9_init_108 : decode cX9_init 108 = .ok (.iload 6, 2) := by decide +kernel
theorem dX9_init_110 : decode cX9_init 110 = .ok (.iconst 1, 1) := by decide +kernel
theorem dX9_init_111 : decode cX9_init 111 = .ok (.iadd, 1) := by decide +kernel
theorem dX9_init_112 : decode cX9_init 112 = .ok (.goto 5, 3) := by decide +kernel
theorem dX9_init_115 : decode cX9_init 115 = .ok (.iload 6, 2) := by decide +kernel
theorem dX9_init_117 : decode cX9_init 117 = .ok (.iastore, 1) := by decide +kernel
theorem dX9_init_118 : decode cX9_init 118 = .ok (.aload_n 0, 1) := by decide +kernel
theorem dX9_init_119 : decode cX9_init 119 = .ok (.getfield 15, 3) := by decide +kernel
theorem dX9_init_122 : decode cX9_init 122 = .ok (.iload 5, 2) := by decide +kernel
theorem dX9_init_124 : decode cX9_init 124 = .ok (.iload 8, 2) := by decide +kernel
theorem dX9_init_126 : decode cX9_init 126 = .ok (.ifCond .eq 8, 3) := by decide +kernel
theorem dX9_init_129 : decode cX9_init 129 = .ok (.ldc 30, 2) := by decide +kernel
theorem dX9_init_131 : decode cX9_init 131 = .ok (.goto 17, 3) := by decide +kernel
theorem dX9_init_134 : decode cX9_init 134 = .ok (.iload_n 1, 1) := by decide +kernel
theorem dX9_init_135 : decode cX9_init 135 = .ok (.iconst 3, 1) := by decide +kernel
theorem dX9_init_136 : decode cX9_init 136 = .ok (.if_icmp .ne 8, 3) := by decide +kernel
theorem dX9_init_139 : decode cX9_init 139 = .ok (.iload 6, 2) := by decide +kernel
theorem dX9_init_141 : decode cX9_init 141 = .ok (.goto 7, 3) := by decide +kernel
theorem dX9_init_144 : decode cX9_init 144 = .ok (.iload 6, 2) := by decide +kernel
theorem dX9_init_146 : decode cX9_init 146 = .ok (.iconst 1, 1) := by decide +kernel
theorem dX9_init_147 : decode cX9_init 147 = .ok (.iadd, 1) := by decide +kernel
theorem dX9_init_148 : decode cX9_init 148 = .ok (.iastore, 1) := by decide +kernel
theorem dX9_init_149 : decode cX9_init 149 = .ok (.iload_n 1, 1) := by decide +kernel
theorem dX9_init_150 : decode cX9_init 150 = .ok (.bipush 6, 2) := by decide +kernel
theorem dX9_init_152 : decode cX9_init 152 = .ok (.if_icmp .eq 9, 3) := by decide +kernel
theorem dX9_init_155 : decode cX9_init 155 = .ok (.iload_n 1, 1) := by decide +kernel
theorem dX9_init_156 : decode cX9_init 156 = .ok (.bipush 7, 2) := by decide +kernel
theorem dX9_init_158 : decode cX9_init 158 = .ok (.if_icmp .ne 21, 3) := by decide +kernel
theorem dX9_init_161 : decode cX9_init 161 = .ok (.aload_n 0, 1) := by decide +kernel
theorem dX9_init_162 : decode cX9_init 162 = .ok (.getfield 15, 3) := by decide +kernel
theorem dX9_init_165 : decode cX9_init 165 = .ok (.iload 5, 2) := by decide +kernel
theorem dX9_init_167 : decode cX9_init 167 = .ok (.iload_n 1, 1) := by decide +kernel
theorem dX9_init_168 : decode cX9_init 168 = .ok (.iload_n 2, 1) := by decide +kernel
theorem dX9_init_169 : decode cX9_init 169 = .ok (.iload_n 3, 1) := by decide +kernel
theorem dX9_init_170 : decode cX9_init 170 = .ok (.invokestatic 31, 3) := by decide +kernel
theorem dX9_init_173 : decode cX9_init 173 = .ok (.iload 5, 2) := by decide +kernel
theorem dX9_init_175 : decode cX9_init 175 = .ok (.invokestatic 26, 3) := by decide +kernel
theorem dX9_init_178 : decode cX9_init 178 = .ok (.iastore, 1) := by decide +kernel
theorem dX9_init_179 : decode cX9_init 179 = .ok (.iinc 5 1, 3) := by decide +kernel
theorem dX9_init_182 : decode cX9_init 182 = .ok (.goto (-150), 3) := by decide +kernel
theorem dX9_init_185 : decode cX9_init 185 = .ok (.return_, 1) := by decide +kernel
def wp_X9_init_179 (h : Nat) (x1 : Int32) (x2 : Int32) (x3 : Int32) (x5 : Int32) (S : xm_S) (g : xm_S → Prop) (Z32 : Int32 → Int32 → Int32 → Int32 → xm_S → Prop) : Prop :=
  ∀ y1, y1 = (x5 + (1 : Int32)) → Z32 x1 x2 x3 y1 S
set_option maxRecDepth 100000 in
set_option maxHeartbeats 4000000 in
theorem kp_X9_init_179 {K : xm_K} (h : Nat) (x1 : Int32) (x2 : Int32) (x3 : Int32) (x5 : Int32) (S : xm_S) {g : xm_S → Prop} {Z32 : Int32 → Int32 → Int32 → Int32 → xm_S → Prop} (C : xm_Cx K cX9_init RX9 9 none rm_X9_init) (N : xm_Nx K) (hini : xm_init K) (hg : ∀ S, g S → xm_q K none S) (hZ32 : ∀ x1 x2 x3 x5 S, Z32 x1 x2 x3 x5 S → xm_W K 2 6 32 [(0, xm_r (some h)), (1, xm_i x1), (2, xm_i x2), (3, xm_i x3), (5, xm_i x5)] [] S) (h1 : wp_X9_init_179 h x1 x2 x3 x5 S g Z32) : xm_W K 2 6 179 [(0, xm_r (some h)), (1, xm_i x1), (2, xm_i x2), (3, xm_i x3), (5, xm_i x5)] [] S := by
  unfold wp_X9_init_179 at h1
  obtain ⟨y1, e2⟩ : ∃ y1, y1 = (x5 + (1 : Int32)) := ⟨_, rfl⟩
  have h1 := h1 y1 e2
  refine x_iinc (v := y1) (L' := [(5, xm_i y1), (0, xm_r (some h)), (1, xm_i x1), (2, xm_i x2), (3, xm_i x3)]) C 4 dX9_init_179 rfl (by rw [e2]; rfl) (by decide) rfl ?_
  refine x_goto (tgt := 32) C dX9_init_182 (by decide) ?_
  refine x_keep (L' := [(0, xm_r (some h)), (1, xm_i x1), (2, xm_i x2), (3, xm_i x3), (5, xm_i y1)]) C [1, 2, 3, 4, 0] rfl ?_
  exact hZ32 x1 x2 x3 y1 S h1
def wp_X9_init_161 (h : Nat) (x1 : Int32) (x2 : Int32) (x3 : Int32) (x5 : Int32) (S : xm_S) (g : xm_S → Prop) (Z32 : Int32 → Int32 → Int32 → Int32 → xm_S → Prop) : Prop :=
  st_t S h = some (9, 0) ∧ wp_X9_next x1 x2 x3 S (fun r5 S4 => wp_X9_rank r5 x5 S4 (fun r7 S6 => ∃ n8, (st_r S h 3) = some n8 ∧ ∃ z11, st_t S6 n8 = some (100, z11) ∧ vp_in x5 z11 ∧ ∀ S13, S13 = st_pi S6 n8 (x5).toNatClampNeg r7 → wp_X9_init_179 h x1 x2 x3 x5 S13 g Z32))
set_option maxRecDepth 100000 in
set_option maxHeartbeats 4000000 in
theorem kp_X9_init_161 {K : xm_K} (h : Nat) (x1 : Int32) (x2 : Int32) (x3 : Int32) (x5 : Int32) (S : xm_S) {g : xm_S → Prop} {Z32 : Int32 → Int32 → Int32 → Int32 → xm_S → Prop} (C : xm_Cx K cX9_init RX9 9 none rm_X9_init) (N : xm_Nx K) (hini : xm_init K) (hg : ∀ S, g S → xm_q K none S) (hZ32 : ∀ x1 x2 x3 x5 S, Z32 x1 x2 x3 x5 S → xm_W K 2 6 32 [(0, xm_r (some h)), (1, xm_i x1), (2, xm_i x2), (3, xm_i x3), (5, xm_i x5)] [] S) (h1 : wp_X9_init_161 h x1 x2 x3 x5 S g Z32) : xm_W K 2 6 161 [(0, xm_r (some h)), (1, xm_i x1), (2, xm_i x2), (3, xm_i x3), (5, xm_i x5)] [] S := by
  unfold wp_X9_init_161 at h1
  refine x_aload_n C 0 dX9_init_161 rfl rfl ?_
  obtain ⟨ht3, h1⟩ := h1
  refine x_getf_r (n := h) C rfl ht3 fd_90 (by decide) dX9_init_162 ?_
  refine x_iload C 4 dX9_init_165 rfl ?_
  refine x_iload_n C 1 dX9_init_167 rfl rfl ?_
  refine x_iload_n C 2 dX9_init_168 rfl rfl ?_
  refine x_iload_n C 3 dX9_init_169 rfl rfl ?_
  refine x_callS (rm' := rm_X9_next) C (kp_X9_next_met h1) lk_39 gw_269 rfl (Nat.le_of_ble_eq_true rfl) ⟨Nat.le_of_ble_eq_true rfl, Nat.le_of_ble_eq_true rfl, (Nat.le_of_ble_eq_true rfl), (Nat.le_of_ble_eq_true rfl)⟩ dX9_init_170 xm_kx (xm_ki (fun r5 S4 h1 => ?_))
  refine x_iload C 4 dX9_init_173 rfl ?_
  refine x_callS (rm' := rm_X9_rank) C (kp_X9_rank_met h1) lk_40 gw_122 rfl (Nat.le_of_ble_eq_true rfl) ⟨Nat.le_of_ble_eq_true rfl, Nat.le_of_ble_eq_true rfl, (Nat.le_of_ble_eq_true rfl), (Nat.le_of_ble_eq_true rfl)⟩ dX9_init_175 xm_kx (xm_ki (fun r7 S6 h1 => ?_))
  obtain ⟨n8, hr9, h1⟩ := h1
  obtain ⟨z11, ht10, h1⟩ := h1
  obtain ⟨hi12, h1⟩ := h1
  refine x_iast (n := n8) C hr9 ht10 hi12 dX9_init_178 ?_
  refine x_topS (fun S13 e14 => ?_)
  have h1 := h1 S13 e14
  exact kp_X9_init_179 h x1 x2 x3 x5 S13 C N hini hg hZ32 h1
def wp_X9_init_148 (h : Nat) (x1 : Int32) (x2 : Int32) (x3 : Int32) (x5 : Int32) (s0 : Int32) (s1 : Int32) (s2 : Option Nat) (S : xm_S) (g : xm_S → Prop) (Z32 : Int32 → Int32 → Int32 → Int32 → xm_S → Prop) : Prop :=
  ∃ n15, s2 = some n15 ∧ ∃ z18, st_t S n15 = some (100, z18) ∧ vp_in s1 z18 ∧ ∀ S20, S20 = st_pi S n15 (s1).toNatClampNeg s0 → (x1 = (nI 6) → wp_X9_init_161 h x1 x2 x3 x5 S20 g Z32) ∧ (¬ x1 = (nI 6) → (¬ x1 = (nI 7) → wp_X9_init_179 h x1 x2 x3 x5 S20 g Z32) ∧ (x1 = (nI 7) → wp_X9_init_161 h x1 x2 x3 x5 S20 g Z32))
set_option maxRecDepth 100000 in
set_option maxHeartbeats 4000000 in
theorem kp_X9_init_148 {K : xm_K} (h : Nat) (x1 : Int32) (x2 : Int32) (x3 : Int32) (x5 : Int32) (s0 : Int32) (s1 : Int32) (s2 : Option Nat) (S : xm_S) {g : xm_S → Prop} {Z32 : Int32 → Int32 → Int32 → Int32 → xm_S → Prop} (C : xm_Cx K cX9_init RX9 9 none rm_X9_init) (N : xm_Nx K) (hini : xm_init K) (hg : ∀ S, g S → xm_q K none S) (hZ32 : ∀ x1 x2 x3 x5 S, Z32 x1 x2 x3 x5 S → xm_W K 2 6 32 [(0, xm_r (some h)), (1, xm_i x1), (2, xm_i x2), (3, xm_i x3), (5, xm_i x5)] [] S) (h1 : wp_X9_init_148 h x1 x2 x3 x5 s0 s1 s2 S g Z32) : xm_W K 2 6 148 [(0, xm_r (some h)), (1, xm_i x1), (2, xm_i x2), (3, xm_i x3), (5, xm_i x5)] [xm_i s0, xm_i s1, xm_r s2] S := by
  unfold wp_X9_init_148 at h1
  obtain ⟨n15, hr16, h1⟩ := h1
  obtain ⟨z18, ht17, h1⟩ := h1
  obtain ⟨hi19, h1⟩ := h1
  refine x_iast (n := n15) C hr16 ht17 hi19 dX9_init_148 ?_
  refine x_topS (fun S20 e21 => ?_)
  have h1 := h1 S20 e21
  refine x_iload_n C 1 dX9_init_149 rfl rfl ?_
  refine x_bipush (v := (nI 6)) C dX9_init_150 (by decide) ?_
  refine x_icmp_eq (tgt := 161) C dX9_init_152 (by decide) (fun z9 => ?_) (fun z9 => ?_)
  · have h1 := h1.1 z9
    exact kp_X9_init_161 h x1 x2 x3 x5 S20 C N hini hg hZ32 h1
  · have h1 := h1.2 z9
    refine x_iload_n C 1 dX9_init_155 rfl rfl ?_
    refine x_bipush (v := (nI 7)) C dX9_init_156 (by decide) ?_
    refine x_icmp_ne (tgt := 179) C dX9_init_158 (by decide) (fun z9 => ?_) (fun z9 => ?_)
    · have h1 := h1.1 z9
      exact kp_X9_init_179 h x1 x2 x3 x5 S20 C N hini hg hZ32 h1
    · have h1 := h1.2 z9
      exact kp_X9_init_161 h x1 x2 x3 x5 S20 C N hini hg hZ32 h1
def wp_X9_init_117 (h : Nat) (x1 : Int32) (x2 : Int32) (x3 : Int32) (x5 : Int32) (x6 : Int32) (x8 : Int32) (s0 : Int32) (s1 : Int32) (s2 : Option Nat) (S : xm_S) (g : xm_S → Prop) (Z32 : Int32 → Int32 → Int32 → Int32 → xm_S → Prop) : Prop :=
  ∃ n22, s2 = some n22 ∧ ∃ z25, st_t S n22 = some (100, z25) ∧ vp_in s1 z25 ∧ ∀ S27, S27 = st_pi S n22 (s1).toNatClampNeg s0 → st_t S27 h = some (9, 0) ∧ (x8 = 0 → (¬ x1 = (nI 3) → wp_X9_init_148 h x1 x2 x3 x5 (x6 + (1 : Int32)) x5 (st_r S27 h 3) S27 g Z32) ∧ (x1 = (nI 3) → wp_X9_init_148 h x1 x2 x3 x5 x6 x5 (st_r S27 h 3) S27 g Z32)) ∧ (¬ x8 = 0 → wp_X9_init_148 h x1 x2 x3 x5 (nI 1048576) x5 (st_r S27 h 3) S27 g Z32)
set_option maxRecDepth 100000 in
set_option maxHeartbeats 4000000 in
theorem kp_X9_init_117 {K : xm_K} (h : Nat) (x1 : Int32) (x2 : Int32) (x3 : Int32) (x5 : Int32) (x6 : Int32) (x8 : Int32) (s0 : Int32) (s1 : Int32) (s2 : Option Nat) (S : xm_S) {g : xm_S → Prop} {Z32 : Int32 → Int32 → Int32 → Int32 → xm_S → Prop} (C : xm_Cx K cX9_init RX9 9 none rm_X9_init) (N : xm_Nx K) (hini : xm_init K) (hg : ∀ S, g S → xm_q K none S) (hZ32 : ∀ x1 x2 x3 x5 S, Z32 x1 x2 x3 x5 S → xm_W K 2 6 32 [(0, xm_r (some h)), (1, xm_i x1), (2, xm_i x2), (3, xm_i x3), (5, xm_i x5)] [] S) (h1 : wp_X9_init_117 h x1 x2 x3 x5 x6 x8 s0 s1 s2 S g Z32) : xm_W K 2 6 117 [(0, xm_r (some h)), (1, xm_i x1), (2, xm_i x2), (3, xm_i x3), (5, xm_i x5), (6, xm_i x6), (8, xm_i x8)] [xm_i s0, xm_i s1, xm_r s2] S := by
  unfold wp_X9_init_117 at h1
  obtain ⟨n22, hr23, h1⟩ := h1
  obtain ⟨z25, ht24, h1⟩ := h1
  obtain ⟨hi26, h1⟩ := h1
  refine x_iast (n := n22) C hr23 ht24 hi26 dX9_init_117 ?_
  refine x_topS (fun S27 e28 => ?_)
  have h1 := h1 S27 e28
  refine x_aload_n C 0 dX9_init_118 rfl rfl ?_
  obtain ⟨ht29, h1⟩ := h1
  refine x_getf_r (n := h) C rfl ht29 fd_90 (by decide) dX9_init_119 ?_
  refine x_iload C 4 dX9_init_122 rfl ?_
  refine x_iload C 6 dX9_init_124 rfl ?_
  refine x_if_eq (tgt := 134) C dX9_init_126 (by decide) (fun z9 => ?_) (fun z9 => ?_)
  · have h1 := h1.1 z9
    refine x_iload_n C 1 dX9_init_134 rfl rfl ?_
    refine x_iconst (v := (nI 3)) C dX9_init_135 (by decide) ?_
    refine x_icmp_ne (tgt := 144) C dX9_init_136 (by decide) (fun z9 => ?_) (fun z9 => ?_)
    · have h1 := h1.1 z9
      refine x_iload C 5 dX9_init_144 rfl ?_
      refine x_iconst (v := (1 : Int32)) C dX9_init_146 (by decide) ?_
      refine x_iadd C dX9_init_147 ?_
      refine x_keep (L' := [(0, xm_r (some h)), (1, xm_i x1), (2, xm_i x2), (3, xm_i x3), (5, xm_i x5)]) C [0, 1, 2, 3, 4] rfl ?_
      exact kp_X9_init_148 h x1 x2 x3 x5 (x6 + (1 : Int32)) x5 (st_r S27 h 3) S27 C N hini hg hZ32 h1
    · have h1 := h1.2 z9
      refine x_iload C 5 dX9_init_139 rfl ?_
      refine x_goto (tgt := 148) C dX9_init_141 (by decide) ?_
      refine x_keep (L' := [(0, xm_r (some h)), (1, xm_i x1), (2, xm_i x2), (3, xm_i x3), (5, xm_i x5)]) C [0, 1, 2, 3, 4] rfl ?_
      exact kp_X9_init_148 h x1 x2 x3 x5 x6 x5 (st_r S27 h 3) S27 C N hini hg hZ32 h1
  · have h1 := h1.2 z9
    refine x_ldc (v := nI 1048576) C gw_271 dX9_init_129 ?_
    refine x_goto (tgt := 148) C dX9_init_131 (by decide) ?_
    refine x_keep (L' := [(0, xm_r (some h)), (1, xm_i x1), (2, xm_i x2), (3, xm_i x3), (5, xm_i x5)]) C [0, 1, 2, 3, 4] rfl ?_
    exact kp_X9_init_148 h x1 x2 x3 x5 (nI 1048576) x5 (st_r S27 h 3) S27 C N hini hg hZ32 h1
def wp_X9_init_86 (h : Nat) (x1 : Int32) (x2 : Int32) (x3 : Int32) (x5 : Int32) (x6 : Int32) (x7 : Int32) (s0 : Int32) (S : xm_S) (g : xm_S → Prop) (Z32 : Int32 → Int32 → Int32 → Int32 → xm_S → Prop) : Prop :=
  st_t S h = some (9, 0) ∧ (x7 = 0 → (¬ x1 = (nI 2) → wp_X9_init_117 h x1 x2 x3 x5 x6 s0 x6 x5 (st_r S h 2) S g Z32) ∧ (x1 = (nI 2) → wp_X9_init_117 h x1 x2 x3 x5 x6 s0 (x6 + (1 : Int32)) x5 (st_r S h 2) S g Z32)) ∧ (¬ x7 = 0 → wp_X9_init_117 h x1 x2 x3 x5 x6 s0 (0 : Int32) x5 (st_r S h 2) S g Z32)
set_option maxRecDepth 100000 in
set_option maxHeartbeats 4000000 in
theorem kp_X9_init_86 {K : xm_K} (h : Nat) (x1 : Int32) (x2 : Int32) (x3 : Int32) (x5 : Int32) (x6 : Int32) (x7 : Int32) (s0 : Int32) (S : xm_S) {g : xm_S → Prop} {Z32 : Int32 → Int32 → Int32 → Int32 → xm_S → Prop} (C : xm_Cx K cX9_init RX9 9 none rm_X9_init) (N : xm_Nx K) (hini : xm_init K) (hg : ∀ S, g S → xm_q K none S) (hZ32 : ∀ x1 x2 x3 x5 S, Z32 x1 x2 x3 x5 S → xm_W K 2 6 32 [(0, xm_r (some h)), (1, xm_i x1), (2, xm_i x2), (3, xm_i x3), (5, xm_i x5)] [] S) (h1 : wp_X9_init_86 h x1 x2 x3 x5 x6 x7 s0 S g Z32) : xm_W K 2 6 86 [(0, xm_r (some h)), (1, xm_i x1), (2, xm_i x2), (3, xm_i x3), (5, xm_i x5), (6, xm_i x6), (7, xm_i x7)] [xm_i s0] S := by
  unfold wp_X9_init_86 at h1
  refine x_istore (L' := [(8, xm_i s0), (0, xm_r (some h)), (1, xm_i x1), (2, xm_i x2), (3, xm_i x3), (5, xm_i x5), (6, xm_i x6), (7, xm_i x7)]) C dX9_init_86 (by decide) rfl ?_
  refine x_aload_n C 1 dX9_init_88 rfl rfl ?_
  obtain ⟨ht30, h1⟩ := h1
  refine x_getf_r (n := h) C rfl ht30 fd_91 (by decide) dX9_init_89 ?_
  refine x_iload C 5 dX9_init_92 rfl ?_
  refine x_iload C 7 dX9_init_94 rfl ?_
  refine x_if_eq (tgt := 103) C dX9_init_96 (by decide) (fun z9 => ?_) (fun z9 => ?_)
  · have h1 := h1.1 z9
    refine x_iload_n C 2 dX9_init_103 rfl rfl ?_
    refine x_iconst (v := (nI 2)) C dX9_init_104 (by decide) ?_
    refine x_icmp_ne (tgt := 115) C dX9_init_105 (by decide) (fun z9 => ?_) (fun z9 => ?_)
    · have h1 := h1.1 z9
      refine x_iload C 6 dX9_init_115 rfl ?_
      refine x_keep (L' := [(0, xm_r (some h)), (1, xm_i x1), (2, xm_i x2), (3, xm_i x3), (5, xm_i x5), (6, xm_i x6), (8, xm_i s0)]) C [1, 2, 3, 4, 5, 6, 0] rfl ?_
      exact kp_X9_init_117 h x1 x2 x3 x5 x6 s0 x6 x5 (st_r S h 2) S C N hini hg hZ32 h1
    · have h1 := h1.2 z9
      refine x_iload C 6 dX9_init_108 rfl ?_
      refine x_iconst (v := (1 : Int32)) C dX9_init_110 (by decide) ?_
      refine x_iadd C dX9_init_111 ?_
      refine x_goto (tgt := 117) C dX9_init_112 (by decide) ?_
      refine x_keep (L' := [(0, xm_r (some h)), (1, xm_i x1), (2, xm_i x2), (3, xm_i x3), (5, xm_i x5), (6, xm_i x6), (8, xm_i s0)]) C [1, 2, 3, 4, 5, 6, 0] rfl ?_
      exact kp_X9_init_117 h x1 x2 x3 x5 x6 s0 (x6 + (1 : Int32)) x5 (st_r S h 2) S C N hini hg hZ32 h1
  · have h1 := h1.2 z9
    refine x_iconst (v := (0 : Int32)) C dX9_init_99 (by decide) ?_
    refine x_goto (tgt := 117) C dX9_init_100 (by decide) ?_
    refine x_keep (L' := [(0, xm_r (some h)), (1, xm_i x1), (2, xm_i x2), (3, xm_i x3), (5, xm_i x5), (6, xm_i x6), (8, xm_i s0)]) C [1, 2, 3, 4, 5, 6, 0] rfl ?_
    exact kp_X9_init_117 h x1 x2 x3 x5 x6 s0 (0 : Int32) x5 (st_r S h 2) S C N hini hg hZ32 h1
def wp_X9_init_81 (h : Nat) (x1 : Int32) (x2 : Int32) (x3 : Int32) (x5 : Int32) (x6 : Int32) (x7 : Int32) (S : xm_S) (g : xm_S → Prop) (Z32 : Int32 → Int32 → Int32 → Int32 → xm_S → Prop) : Prop :=
  wp_X9_init_86 h x1 x2 x3 x5 x6 x7 (1 : Int32) S g Z32
set_option maxRecDepth 100000 in
set_option maxHeartbeats 4000000 in
theorem kp_X9_init_81 {K : xm_K} (h : Nat) (x1 : Int32) (x2 : Int32) (x3 : Int32) (x5 : Int32) (x6 : Int32) (x7 : Int32) (S : xm_S) {g : xm_S → Prop} {Z32 : Int32 → Int32 → Int32 → Int32 → xm_S → Prop} (C : xm_Cx K cX9_init RX9 9 none rm_X9_init) (N : xm_Nx K) (hini : xm_init K) (hg : ∀ S, g S → xm_q K none S) (hZ32 : ∀ x1 x2 x3 x5 S, Z32 x1 x2 x3 x5 S → xm_W K 2 6 32 [(0, xm_r (some h)), (1, xm_i x1), (2, xm_i x2), (3, xm_i x3), (5, xm_i x5)] [] S) (h1 : wp_X9_init_81 h x1 x2 x3 x5 x6 x7 S g Z32) : xm_W K 2 6 81 [(0, xm_r (some h)), (1, xm_i x1), (2, xm_i x2), (3, xm_i x3), (5, xm_i x5), (6, xm_i x6), (7, xm_i x7)] [] S := by
  unfold wp_X9_init_81 at h1
  refine x_iconst (v := (1 : Int32)) C dX9_init_81 (by decide) ?_
  refine x_goto (tgt := 86) C dX9_init_82 (by decide) ?_
  exact kp_X9_init_86 h x1 x2 x3 x5 x6 x7 (1 : Int32) S C N hini hg hZ32 h1
def wp_X9_init_65 (h : Nat) (x1 : Int32) (x2 : Int32) (x3 : Int32) (x5 : Int32) (x6 : Int32) (s0 : Int32) (S : xm_S) (g : xm_S → Prop) (Z32 : Int32 → Int32 → Int32 → Int32 → xm_S → Prop) : Prop :=
  (x1 = 0 → wp_X9_init_81 h x1 x2 x3 x5 x6 s0 S g Z32) ∧ (¬ x1 = 0 → (x1 = (nI 2) → wp_X9_init_81 h x1 x2 x3 x5 x6 s0 S g Z32) ∧ (¬ x1 = (nI 2) → (¬ x1 = (nI 4) → wp_X9_init_86 h x1 x2 x3 x5 x6 s0 (0 : Int32) S g Z32) ∧ (x1 = (nI 4) → wp_X9_init_81 h x1 x2 x3 x5 x6 s0 S g Z32)))
set_option maxRecDepth 100000 in
set_option maxHeartbeats 4000000 in
theorem kp_X9_init_65 {K : xm_K} (h : Nat) (x1 : Int32) (x2 : Int32) (x3 : Int32) (x5 : Int32) (x6 : Int32) (s0 : Int32) (S : xm_S) {g : xm_S → Prop} {Z32 : Int32 → Int32 → Int32 → Int32 → xm_S → Prop} (C : xm_Cx K cX9_init RX9 9 none rm_X9_init) (N : xm_Nx K) (hini : xm_init K) (hg : ∀ S, g S → xm_q K none S) (hZ32 : ∀ x1 x2 x3 x5 S, Z32 x1 x2 x3 x5 S → xm_W K 2 6 32 [(0, xm_r (some h)), (1, xm_i x1), (2, xm_i x2), (3, xm_i x3), (5, xm_i x5)] [] S) (h1 : wp_X9_init_65 h x1 x2 x3 x5 x6 s0 S g Z32) : xm_W K 2 6 65 [(0, xm_r (some h)), (1, xm_i x1), (2, xm_i x2), (3, xm_i x3), (5, xm_i x5), (6, xm_i x6)] [xm_i s0] S := by
  unfold wp_X9_init_65 at h1
  refine x_istore (L' := [(7, xm_i s0), (0, xm_r (some h)), (1, xm_i x1), (2, xm_i x2), (3, xm_i x3), (5, xm_i x5), (6, xm_i x6)]) C dX9_init_65 (by decide) rfl ?_
  refine x_iload_n C 2 dX9_init_67 rfl rfl ?_
  refine x_if_eq (tgt := 81) C dX9_init_68 (by decide) (fun z9 => ?_) (fun z9 => ?_)
  · have h1 := h1.1 z9
    refine x_keep (L' := [(0, xm_r (some h)), (1, xm_i x1), (2, xm_i x2), (3, xm_i x3), (5, xm_i x5), (6, xm_i x6), (7, xm_i s0)]) C [1, 2, 3, 4, 5, 6, 0] rfl ?_
    exact kp_X9_init_81 h x1 x2 x3 x5 x6 s0 S C N hini hg hZ32 h1
  · have h1 := h1.2 z9
    refine x_iload_n C 2 dX9_init_71 rfl rfl ?_
    refine x_iconst (v := (nI 2)) C dX9_init_72 (by decide) ?_
    refine x_icmp_eq (tgt := 81) C dX9_init_73 (by decide) (fun z9 => ?_) (fun z9 => ?_)
    · have h1 := h1.1 z9
      refine x_keep (L' := [(0, xm_r (some h)), (1, xm_i x1), (2, xm_i x2), (3, xm_i x3), (5, xm_i x5), (6, xm_i x6), (7, xm_i s0)]) C [1, 2, 3, 4, 5, 6, 0] rfl ?_
      exact kp_X9_init_81 h x1 x2 x3 x5 x6 s0 S C N hini hg hZ32 h1
    · have h1 := h1.2 z9
      refine x_iload_n C 2 dX9_init_76 rfl rfl ?_
      refine x_iconst (v := (nI 4)) C dX9_init_77 (by decide) ?_
      refine x_icmp_ne (tgt := 85) C dX9_init_78 (by decide) (fun z9 => ?_) (fun z9 => ?_)
      · have h1 := h1.1 z9
        refine x_iconst (v := (0 : Int32)) C dX9_init_85 (by decide) ?_
        refine x_keep (L' := [(0, xm_r (some h)), (1, xm_i x1), (2, xm_i x2), (3, xm_i x3), (5, xm_i x5), (6, xm_i x6), (7, xm_i s0)]) C [1, 2, 3, 4, 5, 6, 0] rfl ?_
        exact kp_X9_init_86 h x1 x2 x3 x5 x6 s0 (0 : Int32) S C N hini hg hZ32 h1
      · have h1 := h1.2 z9
        refine x_keep (L' := [(0, xm_r (some h)), (1, xm_i x1), (2, xm_i x2), (3, xm_i x3), (5, xm_i x5), (6, xm_i x6), (7, xm_i s0)]) C [1, 2, 3, 4, 5, 6, 0] rfl ?_
        exact kp_X9_init_81 h x1 x2 x3 x5 x6 s0 S C N hini hg hZ32 h1
def wp_X9_init_60 (h : Nat) (x1 : Int32) (x2 : Int32) (x3 : Int32) (x5 : Int32) (x6 : Int32) (S : xm_S) (g : xm_S → Prop) (Z32 : Int32 → Int32 → Int32 → Int32 → xm_S → Prop) : Prop :=
  wp_X9_init_65 h x1 x2 x3 x5 x6 (1 : Int32) S g Z32
set_option maxRecDepth 100000 in
set_option maxHeartbeats 4000000 in
theorem kp_X9_init_60 {K : xm_K} (h : Nat) (x1 : Int32) (x2 : Int32) (x3 : Int32) (x5 : Int32) (x6 : Int32) (S : xm_S) {g : xm_S → Prop} {Z32 : Int32 → Int32 → Int32 → Int32 → xm_S → Prop} (C : xm_Cx K cX9_init RX9 9 none rm_X9_init) (N : xm_Nx K) (hini : xm_init K) (hg : ∀ S, g S → xm_q K none S) (hZ32 : ∀ x1 x2 x3 x5 S, Z32 x1 x2 x3 x5 S → xm_W K 2 6 32 [(0, xm_r (some h)), (1, xm_i x1), (2, xm_i x2), (3, xm_i x3), (5, xm_i x5)] [] S) (h1 : wp_X9_init_60 h x1 x2 x3 x5 x6 S g Z32) : xm_W K 2 6 60 [(0, xm_r (some h)), (1, xm_i x1), (2, xm_i x2), (3, xm_i x3), (5, xm_i x5), (6, xm_i x6)] [] S := by
  unfold wp_X9_init_60 at h1
  refine x_iconst (v := (1 : Int32)) C dX9_init_60 (by decide) ?_
  refine x_goto (tgt := 65) C dX9_init_61 (by decide) ?_
  exact kp_X9_init_65 h x1 x2 x3 x5 x6 (1 : Int32) S C N hini hg hZ32 h1
def wp_X9_init_32B (h : Nat) (x1 : Int32) (x2 : Int32) (x3 : Int32) (x5 : Int32) (S : xm_S) (g : xm_S → Prop) (Z32 : Int32 → Int32 → Int32 → Int32 → xm_S → Prop) : Prop :=
  ((nI 2) < x5 → g S) ∧ (¬ (nI 2) < x5 → wp_X9_rank x2 x5 S (fun r32 S31 => (x1 = 0 → wp_X9_init_60 h x1 x2 x3 x5 r32 S31 g Z32) ∧ (¬ x1 = 0 → (x1 = (nI 3) → wp_X9_init_60 h x1 x2 x3 x5 r32 S31 g Z32) ∧ (¬ x1 = (nI 3) → (¬ x1 = (nI 5) → wp_X9_init_65 h x1 x2 x3 x5 r32 (0 : Int32) S31 g Z32) ∧ (x1 = (nI 5) → wp_X9_init_60 h x1 x2 x3 x5 r32 S31 g Z32)))))
def wp_X9_init_32 (h : Nat) (x1 : Int32) (x2 : Int32) (x3 : Int32) (x5 : Int32) (S : xm_S) (g : xm_S → Prop) : Prop :=
  ∀ Z32 : Int32 → Int32 → Int32 → Int32 → xm_S → Prop, (∀ x1 x2 x3 x5 S, wp_X9_init_32B h x1 x2 x3 x5 S g Z32 → Z32 x1 x2 x3 x5 S) → Z32 x1 x2 x3 x5 S
set_option maxRecDepth 100000 in
set_option maxHeartbeats 4000000 in
theorem kp_X9_init_32B {K : xm_K} (h : Nat) (x1 : Int32) (x2 : Int32) (x3 : Int32) (x5 : Int32) (S : xm_S) {g : xm_S → Prop} {Z32 : Int32 → Int32 → Int32 → Int32 → xm_S → Prop} (C : xm_Cx K cX9_init RX9 9 none rm_X9_init) (N : xm_Nx K) (hini : xm_init K) (hg : ∀ S, g S → xm_q K none S) (hZ32 : ∀ x1 x2 x3 x5 S, Z32 x1 x2 x3 x5 S → xm_W K 2 6 32 [(0, xm_r (some h)), (1, xm_i x1), (2, xm_i x2), (3, xm_i x3), (5, xm_i x5)] [] S) (h1 : wp_X9_init_32B h x1 x2 x3 x5 S g Z32) : xm_W K 2 6 32 [(0, xm_r (some h)), (1, xm_i x1), (2, xm_i x2), (3, xm_i x3), (5, xm_i x5)] [] S := by
  unfold wp_X9_init_32B at h1
  refine x_iload C 4 dX9_init_32 rfl ?_
  refine x_iconst (v := (nI 2)) C dX9_init_34 (by decide) ?_
  refine x_icmp_gt (tgt := 185) C dX9_init_35 (by decide) (fun z9 => ?_) (fun z9 => ?_)
  · have h1 := h1.1 z9
    exact x_vret C (Nat.le_of_ble_eq_true rfl) (Nat.le_of_ble_eq_true rfl) rfl dX9_init_185 (hg _ h1)
  · have h1 := h1.2 z9
    refine x_iload_n C 2 dX9_init_38 rfl rfl ?_
    refine x_iload C 4 dX9_init_39 rfl ?_
    refine x_callS (rm' := rm_X9_rank) C (kp_X9_rank_met h1) lk_40 gw_122 rfl (Nat.le_of_ble_eq_true rfl) ⟨Nat.le_of_ble_eq_true rfl, Nat.le_of_ble_eq_true rfl, (Nat.le_of_ble_eq_true rfl), (Nat.le_of_ble_eq_true rfl)⟩ dX9_init_41 xm_kx (xm_ki (fun r32 S31 h1 => ?_))
    refine x_istore (L' := [(6, xm_i r32), (0, xm_r (some h)), (1, xm_i x1), (2, xm_i x2), (3, xm_i x3), (5, xm_i x5)]) C dX9_init_44 (by decide) rfl ?_
    refine x_iload_n C 2 dX9_init_46 rfl rfl ?_
    refine x_if_eq (tgt := 60) C dX9_init_47 (by decide) (fun z9 => ?_) (fun z9 => ?_)
    · have h1 := h1.1 z9
      refine x_keep (L' := [(0, xm_r (some h)), (1, xm_i x1), (2, xm_i x2), (3, xm_i x3), (5, xm_i x5), (6, xm_i r32)]) C [1, 2, 3, 4, 5, 0] rfl ?_
      exact kp_X9_init_60 h x1 x2 x3 x5 r32 S31 C N hini hg hZ32 h1
    · have h1 := h1.2 z9
      refine x_iload_n C 2 dX9_init_50 rfl rfl ?_
      refine x_iconst (v := (nI 3)) C dX9_init_51 (by decide) ?_
      refine x_icmp_eq (tgt := 60) C dX9_init_52 (by decide) (fun z9 => ?_) (fun z9 => ?_)
      · have h1 := h1.1 z9
        refine x_keep (L' := [(0, xm_r (some h)), (1, xm_i x1), (2, xm_i x2), (3, xm_i x3), (5, xm_i x5), (6, xm_i r32)]) C [1, 2, 3, 4, 5, 0] rfl ?_
        exact kp_X9_init_60 h x1 x2 x3 x5 r32 S31 C N hini hg hZ32 h1
      · have h1 := h1.2 z9
        refine x_iload_n C 2 dX9_init_55 rfl rfl ?_
        refine x_iconst (v := (nI 5)) C dX9_init_56 (by decide) ?_
        refine x_icmp_ne (tgt := 64) C dX9_init_57 (by decide) (fun z9 => ?_) (fun z9 => ?_)
        · have h1 := h1.1 z9
          refine x_iconst (v := (0 : Int32)) C dX9_init_64 (by decide) ?_
          refine x_keep (L' := [(0, xm_r (some h)), (1, xm_i x1), (2, xm_i x2), (3, xm_i x3), (5, xm_i x5), (6, xm_i r32)]) C [1, 2, 3, 4, 5, 0] rfl ?_
          exact kp_X9_init_65 h x1 x2 x3 x5 r32 (0 : Int32) S31 C N hini hg hZ32 h1
        · have h1 := h1.2 z9
          refine x_keep (L' := [(0, xm_r (some h)), (1, xm_i x1), (2, xm_i x2), (3, xm_i x3), (5, xm_i x5), (6, xm_i r32)]) C [1, 2, 3, 4, 5, 0] rfl ?_
          exact kp_X9_init_60 h x1 x2 x3 x5 r32 S31 C N hini hg hZ32 h1
theorem kp_X9_init_32 {K : xm_K} (h : Nat) (x1 : Int32) (x2 : Int32) (x3 : Int32) (x5 : Int32) (S : xm_S) {g : xm_S → Prop} (C : xm_Cx K cX9_init RX9 9 none rm_X9_init) (N : xm_Nx K) (hini : xm_init K) (hg : ∀ S, g S → xm_q K none S)  (h1 : wp_X9_init_32 h x1 x2 x3 x5 S g) : xm_W K 2 6 32 [(0, xm_r (some h)), (1, xm_i x1), (2, xm_i x2), (3, xm_i x3), (5, xm_i x5)] [] S :=
  h1 (fun x1 x2 x3 x5 S => xm_W K 2 6 32 [(0, xm_r (some h)), (1, xm_i x1), (2, xm_i x2), (3, xm_i x3), (5, xm_i x5)] [] S) (fun x1 x2 x3 x5 S hb => kp_X9_init_32B h x1 x2 x3 x5 S C N hini hg (fun x1 x2 x3 x5 S hz => hz) hb)
def wp_X9_init (h : Nat) (x1 : Int32) (x2 : Int32) (x3 : Int32) (x4 : Int32) (S : xm_S) (g : xm_S → Prop) : Prop :=
  ∃ n33, st_t S n33 = none ∧ ∀ S35, S35 = st_nw S n33 (100, 3) → st_t S35 h = some (9, 0) ∧ ∀ S38, S38 = st_pr S35 h 2 (some n33) → ∃ n40, st_t S38 n40 = none ∧ ∀ S42, S42 = st_nw S38 n40 (100, 3) → ∀ S44, S44 = st_pr S42 h 3 (some n40) → ∀ S46, S46 = st_pi S44 h 0 x2 → (x4 = 0 ∨ x4 = 1) ∧ ∀ S49, S49 = st_pi S46 h 1 x4 → wp_X9_init_32 h x1 x2 x3 (0 : Int32) S49 g
set_option maxRecDepth 100000 in
set_option maxHeartbeats 4000000 in
theorem kp_X9_init {K : xm_K} (h : Nat) (x1 : Int32) (x2 : Int32) (x3 : Int32) (x4 : Int32) (S : xm_S) {g : xm_S → Prop} (C : xm_Cx K cX9_init RX9 9 none rm_X9_init) (N : xm_Nx K) (hini : xm_init K) (hg : ∀ S, g S → xm_q K none S)  (h1 : wp_X9_init h x1 x2 x3 x4 S g) : xm_W K 0 0 0 [(0, xm_r (some h)), (1, xm_i x1), (2, xm_i x2), (3, xm_i x3), (4, xm_i x4)] [] S := by
  unfold wp_X9_init at h1
  refine x_aload_n C 0 dX9_init_0 rfl rfl ?_
  refine x_objInit (n := h) C rfl gw_273 (Nat.le_of_ble_eq_true rfl) (Nat.le_of_ble_eq_true rfl) (Nat.le_of_ble_eq_true rfl) dX9_init_1 gw_1 gw_2 ?_
  refine x_aload_n C 0 dX9_init_4 rfl rfl ?_
  refine x_iconst (v := (nI 3)) C dX9_init_5 (by decide) ?_
  obtain ⟨n33, hn34, h1⟩ := h1
  refine x_newa_i (n := n33) (len := 3) C gw_11 (by decide) (by decide) hn34 (Nat.le_of_ble_eq_true rfl) (Nat.le_of_ble_eq_true rfl) dX9_init_6 ?_
  refine x_topS (fun S35 e36 => ?_)
  have h1 := h1 S35 e36
  obtain ⟨ht37, h1⟩ := h1
  refine x_putfF_r (n := h) C rfl ht37 fd_91 xc_9 (by decide) rfl hini rfl (xm_nr rfl) dX9_init_8 ?_
  refine x_topS (fun S38 e39 => ?_)
  have h1 := h1 S38 e39
  refine x_aload_n C 0 dX9_init_11 rfl rfl ?_
  refine x_iconst (v := (nI 3)) C dX9_init_12 (by decide) ?_
  obtain ⟨n40, hn41, h1⟩ := h1
  refine x_newa_i (n := n40) (len := 3) C gw_11 (by decide) (by decide) hn41 (Nat.le_of_ble_eq_true rfl) (Nat.le_of_ble_eq_true rfl) dX9_init_13 ?_
  refine x_topS (fun S42 e43 => ?_)
  have h1 := h1 S42 e43
  refine x_putfF_r (n := h) C rfl (tk_n e43 hn41 (tk_p e39 ht37)) fd_90 xc_9 (by decide) rfl hini rfl (xm_nr rfl) dX9_init_15 ?_
  refine x_topS (fun S44 e45 => ?_)
  have h1 := h1 S44 e45
  refine x_aload_n C 0 dX9_init_18 rfl rfl ?_
  refine x_iload_n C 2 dX9_init_19 rfl rfl ?_
  refine x_putfF_i (n := h) C rfl (tk_p e45 (tk_n e43 hn41 (tk_p e39 ht37))) fd_44 xc_9 (by decide) rfl hini rfl ⟨rfl, rfl⟩ dX9_init_20 ?_
  refine x_topS (fun S46 e47 => ?_)
  have h1 := h1 S46 e47
  refine x_aload_n C 0 dX9_init_23 rfl rfl ?_
  refine x_iload C 4 dX9_init_24 rfl ?_
  obtain ⟨hz48, h1⟩ := h1
  refine x_putfF_i (n := h) C rfl (tk_p e47 (tk_p e45 (tk_n e43 hn41 (tk_p e39 ht37)))) fd_92 xc_9 (by decide) rfl hini rfl (xm_nz hz48) dX9_init_26 ?_
  refine x_topS (fun S49 e50 => ?_)
  have h1 := h1 S49 e50
  refine x_iconst (v := (0 : Int32)) C dX9_init_29 (by decide) ?_
  refine x_istore (L' := [(5, xm_i (0 : Int32)), (0, xm_r (some h)), (1, xm_i x1), (2, xm_i x2), (3, xm_i x3), (4, xm_i x4)]) C dX9_init_30 (by decide) rfl ?_
  refine x_keep (L' := [(0, xm_r (some h)), (1, xm_i x1), (2, xm_i x2), (3, xm_i x3), (5, xm_i (0 : Int32))]) C [1, 2, 3, 4, 0] rfl ?_
  exact kp_X9_init_32 h x1 x2 x3 (0 : Int32) S49 C N hini hg  h1
theorem kp_X9_init_met {h : Nat} {x1 : Int32} {x2 : Int32} {x3 : Int32} {x4 : Int32} {S : xm_S} {g : xm_S → Prop}  (h1 : wp_X9_init h x1 x2 x3 x4 S g) : xm_Met yX9_init cX9_init 9 none rm_X9_init [xm_r (some h), xm_i x1, xm_i x2, xm_i x3, xm_i x4] S (xm_qv g) xm_nox :=
  xm_ofW RX9 (by decide +kernel) rfl (Nat.le_of_ble_eq_true rfl) (fun K C N hq hx hi => kp_X9_init h x1 x2 x3 x4 S C N (hi rfl) (fun S h => by rw [hq]; exact ⟨rfl, h⟩)  h1)
def rm_X8_readTest : Room := { frames := 3, cells := 3, slots := 10, locals := 73 }
theorem dX8_readTest_0 : decode cX8_readTest 0 = .ok (.aload_n 0, 1) := by decide +kernel
theorem dX8_readTest_1 : decode cX8_readTest 1 = .ok (.invokevirtual 50, 3) := by decide +kernel
theorem dX8_readTest_4 : decode cX8_readTest 4 = .ok (.istore_n 2, 1) := by decide +kernel
theorem dX8_readTest_5 : decode cX8_readTest 5 = .ok (.aload_n 0, 1) := by decide +kernel
theorem dX8_readTest_6 : decode cX8_readTest 6 = .ok (.invokevirtual 54, 3) := by decide +kernel
theorem dX8_readTest_9 : decode cX8_readTest 9 = .ok (.istore_n 3, 1) := by decide +kernel
theorem dX8_readTest_10 : decode cX8_readTest 10 = .ok (.aload_n 0, 1) := by decide +kernel
theorem dX8_readTest_11 : decode cX8_readTest 11 = .ok (.bipush 58, 2) := by decide +kernel
theorem dX8_readTest_13 : decode cX8_readTest 13 = .ok (.invokevirtual 33, 3) := by decide +kernel
theorem dX8_readTest_16 : decode cX8_readTest 16 = .ok (.istore 4, 2) := by decide +kernel
theorem dX8_readTest_18 : decode cX8_readTest 18 = .ok (.iload 4, 2) := by decide +kernel
theorem dX8_readTest_20 : decode cX8_readTest 20 = .ok (.ifCond .eq 10, 3) := by decide +kernel
theorem dX8_readTest_23 : decode cX8_readTest 23 = .ok (.aload_n 0, 1) := by decide +kernel
theorem dX8_readTest_24 : decode cX8_readTest 24 = .ok (.invokevirtual 54, 3) := by decide +kernel
theorem dX8_readTest_27 : decode cX8_readTest 27 = .ok (.goto 4, 3) := by decide +kernel
theorem dX8_readTest_30 : decode cX8_readTest 30 = .ok (.iload_n 3, 1) := by decide +kernel
theorem dX8_readTest_31 : decode cX8_readTest 31 = .ok (.istore 5, 2) := by decide +kernel
theorem dX8_readTest_33 : decode cX8_readTest 33 = .ok (.iload 4, 2) := by decide +kernel
theorem dX8_readTest_35 : decode cX8_readTest 35 = .ok (.ifCond .eq 7, 3) := by decide +kernel
theorem dX8_readTest_38 : decode cX8_readTest 38 = .ok (.iload_n 3, 1) := by decide +kernel
theorem dX8_readTest_39 : decode cX8_readTest 39 = .ok (.goto 4, 3) := by decide +kernel
theorem dX8_readTest_42 : decode cX8_readTest 42 = .ok (.iconst 0, 1) := by decide +kernel
theorem dX8_readTest_43 : decode cX8_readTest 43 = .ok (.istore 6, 2) := by decide +kernel
theorem dX8_readTest_45 : decode cX8_readTest 45 = .ok (.aload_n 0, 1) := by decide +kernel
theorem dX8_readTest_46 : decode cX8_readTest 46 = .ok (.bipush 46, 2) := by decide +kernel
theorem dX8_readTest_48 : decode cX8_readTest 48 = .ok (.invokevirtual 33, 3) := by decide +kernel
theorem dX8_readTest_51 : decode cX8_readTest 51 = .ok (.istore 7, 2) := by decide +kernel
theorem dX8_readTest_53 : decode cX8_readTest 53 = .ok (.iload 7, 2) := by decide +kernel
theorem dX8_readTest_55 : decode cX8_readTest 55 = .ok (.ifCond .eq 10, 3) := by decide +kernel
theorem dX8_readTest_58 : decode cX8_readTest 58 = .ok (.aload_n 0, 1) := by decide +kernel
theorem dX8_readTest_59 : decode cX8_readTest 59 = .ok (.invokevirtual 54, 3) := by decide +kernel
theorem dX8_readTest_62 : decode cX8_readTest 62 = .ok (.goto 4, 3) := by decide +kernel
theorem dX8_readTest_65 : decode cX8_readTest 65 = .ok (.iconst 0, 1) := by decide +kernel
theorem dX8_readTest_66 : decode cX8_readTest 66 = .ok (.istore 8, 2) := by decide +kernel
theorem dX8_readTest_68 : decode cX8_readTest 68 = .ok (.iload 7, 2) := by decide +kernel
theorem dX8_readTest_70 : decode cX8_readTest 70 = .ok (.ifCond .eq 19, 3) := by decide +kernel
theorem dX8_readTest_73 : decode cX8_readTest 73 = .ok (.aload_n 0, 1) := by decide +kernel
theorem dX8_readTest_74 : decode cX8_readTest 74 = .ok (.bipush 46, 2) := by decide +kernel
theorem dX8_readTest_76 : decode cX8_readTest 76 = .ok (.invokevirtual 33, 3) := by decide +kernel
theorem dX8_readTest_79 : decode cX8_readTest 79 = .ok (.ifCond .eq 10, 3) := by decide +kernel
theorem dX8_readTest_82 : decode cX8_readTest 82 = .ok (.aload_n 0, 1) := by decide +kernel
theorem dX8_readTest_83 : decode cX8_readTest 83 = .ok (.invokevirtual 54, 3) := by decide +kernel
theorem dX8_readTest_86 : decode cX8_readTest 86 = .ok (.goto 4, 3) := by decide +kernel
theorem dX8_readTest_89 : decode cX8_readTest 89 = .ok (.iconst 0, 1) := by decide +kernel
theorem dX8_readTest_90 : decode cX8_readTest 90 = .ok (.istore 9, 2) := by decide +kernel
theorem dX8_readTest_92 : decode cX8_readTest 92 = .ok (.aload_n 0, 1) := by decide +kernel
theorem dX8_readTest_93 : decode cX8_readTest 93 = .ok (.bipush 45, 2) := by decide +kernel
theorem dX8_readTest_95 : decode cX8_readTest 95 = .ok (.invokevirtual 33, 3) := by decide +kernel
theorem dX8_readTest_98 : decode cX8_readTest 98 = .ok (.ifCond .eq 10, 3) := by decide +kernel
theorem dX8_readTest_101 : decode cX8_readTest 101 = .ok (.aload_n 0, 1) := by decide +kernel
theorem dX8_readTest_102 : decode cX8_readTest 102 = .ok (.invokevirtual 54, 3) := by decide +kernel
theorem dX8_readTest_105 : decode cX8_readTest 105 = .ok (.goto 4, 3) := by decide +kernel
theorem dX8_readTest_108 : decode cX8_readTest 108 = .ok (.iconst 0, 1) := by decide +kernel
theorem dX8_readTest_109 : decode cX8_readTest 109 = .ok (.istore 10, 2) := by decide +kernel
theorem dX8_readTest_111 : decode cX8_readTest 111 = .ok (.iload 6, 2) := by decide +kernel
theorem dX8_readTest_113 : decode cX8_readTest 113 = .ok (.bipush 10, 2) := by decide +kernel
theorem dX8_readTest_115 : decode cX8_readTest 115 = .ok (.imul, 1) := by decide +kernel
theorem dX8_readTest_116 : decode cX8_readTest 116 = .ok (.iload 5, 2) := by decide +kernel
theorem dX8_readTest_118 : decode cX8_readTest 118 = .ok (.iadd, 1) := by decide +kernel
theorem dX8_readTest_119 : decode cX8_readTest 119 = .ok (.bipush 10, 2) := by decide +kernel
theorem dX8_readTest_121 : decode cX8_readTest 121 = .ok (.imul, 1) := by decide +kernel
theorem dX8_readTest_122 : decode cX8_readTest 122 = .ok (.iload 8, 2) := by decide +kernel
theorem dX8_readTest_124 : decode cX8_readTest 124 = .ok (.iadd, 1) := by decide +kernel
theorem dX8_readTest_125 : decode cX8_readTest 125 = .ok (.bipush 10, 2) := by decide +kernel
theorem dX8_readTest_127 : decode cX8_readTest 127 = .ok (.imul, 1) := by decide +kernel
theorem dX8_readTest_128 : decode cX8_readTest 128 = .ok (.iload 9, 2) := by decide +kernel
theorem dX8_readTest_130 : decode cX8_readTest 130 = .ok (.iadd, 1) := by decide +kernel
theorem dX8_readTest_131 : decode cX8_readTest 131 = .ok (.bipush 10, 2) := by decide +kernel
theorem dX8_readTest_133 : decode cX8_readTest 133 = .ok (.imul, 1) := by decide +kernel
theorem dX8_readTest_134 : decode cX8_readTest 134 = .ok (.iload 10, 2) := by decide +kernel
theorem dX8_readTest_136 : decode cX8_readTest 136 = .ok (.iadd, 1) := by decide +kernel
theorem dX8_readTest_137 : decode cX8_readTest 137 = .ok (.istore 11, 2) := by decide +kernel
theorem dX8_readTest_139 : decode cX8_readTest 139 = .ok (.new 37, 3) := by decide +kernel
theorem dX8_readTest_142 : decode cX8_readTest 142 = .ok (.dup, 1) := by decide +kernel
theorem dX8_readTest_143 : decode cX8_readTest 143 = .ok (.iload_n 2, 1) := by decide +kernel
theorem dX8_readTest_144 : decode cX8_readTest 144 = .ok (.iload 11, 2) := by decide +kernel
theorem dX8_readTest_146 : decode cX8_readTest 146 = .ok (.invokestatic 57, 3) := by decide +kernel
theorem dX8_readTest_149 : decode cX8_readTest 149 = .ok (.iload 7, 2) := by decide +kernel
theorem dX8_readTest_151 : decode cX8_readTest 151 = .ok (.iload_n 1, 1) := by decide +kernel
theorem dX8_readTest_152 : decode cX8_readTest 152 = .ok (.invokespecial 39, 3) := by decide +kernel
theorem dX8_readTest_155 : decode cX8_readTest 155 = .ok (.areturn, 1) := by decide +kernel
def wp_X8_readTest_109 (h : Nat) (x1 : Int32) (x2 : Int32) (x5 : Int32) (x6 : Int32) (x7 : Int32) (x8 : Int32) (x9 : Int32) (s0 : Int32) (S : xm_S) (g : Option Nat → xm_S → Prop) : Prop :=
  ∀ y1, y1 = ((((((((x6 * (nI 10)) + x5) * (nI 10)) + x8) * (nI 10)) + x9) * (nI 10)) + s0) → ∃ n3, st_t S n3 = none ∧ ∀ S5, S5 = st_nw S n3 (9, 0) → wp_X9_digitsOf y1 S5 (fun r8 S7 => st_t S7 n3 = some (9, 0) ∧ wp_X9_init n3 x2 r8 x7 x1 S7 (fun S10 => g (some n3) S10))
set_option maxRecDepth 100000 in
set_option maxHeartbeats 4000000 in
theorem kp_X8_readTest_109 {K : xm_K} (h : Nat) (x1 : Int32) (x2 : Int32) (x5 : Int32) (x6 : Int32) (x7 : Int32) (x8 : Int32) (x9 : Int32) (s0 : Int32) (S : xm_S) {g : Option Nat → xm_S → Prop} (C : xm_Cx K cX8_readTest RX8 12 (some ((FieldType.object "Portsmith$Test"))) rm_X8_readTest) (N : xm_Nx K) (hg : ∀ v S, g v S → xm_q K (some (xm_r v)) S)  (h1 : wp_X8_readTest_109 h x1 x2 x5 x6 x7 x8 x9 s0 S g) : xm_W K 0 0 109 [(1, xm_i x1), (2, xm_i x2), (5, xm_i x5), (6, xm_i x6), (7, xm_i x7), (8, xm_i x8), (9, xm_i x9)] [xm_i s0] S := by
  unfold wp_X8_readTest_109 at h1
  refine x_istore (L' := [(10, xm_i s0), (1, xm_i x1), (2, xm_i x2), (5, xm_i x5), (6, xm_i x6), (7, xm_i x7), (8, xm_i x8), (9, xm_i x9)]) C dX8_readTest_109 (by decide) rfl ?_
  refine x_iload C 4 dX8_readTest_111 rfl ?_
  refine x_bipush (v := (nI 10)) C dX8_readTest_113 (by decide) ?_
  refine x_imul C dX8_readTest_115 ?_
  refine x_iload C 3 dX8_readTest_116 rfl ?_
  refine x_iadd C dX8_readTest_118 ?_
  refine x_bipush (v := (nI 10)) C dX8_readTest_119 (by decide) ?_
  refine x_imul C dX8_readTest_121 ?_
  refine x_iload C 6 dX8_readTest_122 rfl ?_
  refine x_iadd C dX8_readTest_124 ?_
  refine x_bipush (v := (nI 10)) C dX8_readTest_125 (by decide) ?_
  refine x_imul C dX8_readTest_127 ?_
  refine x_iload C 7 dX8_readTest_128 rfl ?_
  refine x_iadd C dX8_readTest_130 ?_
  refine x_bipush (v := (nI 10)) C dX8_readTest_131 (by decide) ?_
  refine x_imul C dX8_readTest_133 ?_
  refine x_iload C 0 dX8_readTest_134 rfl ?_
  refine x_iadd C dX8_readTest_136 ?_
  refine x_topi (fun y1 e2 => ?_)
  have h1 := h1 y1 e2
  refine x_istore (L' := [(11, xm_i y1), (10, xm_i s0), (1, xm_i x1), (2, xm_i x2), (5, xm_i x5), (6, xm_i x6), (7, xm_i x7), (8, xm_i x8), (9, xm_i x9)]) C dX8_readTest_137 (by decide) rfl ?_
  obtain ⟨n3, hn4, h1⟩ := h1
  refine x_new (n := n3) C xc_9 gw_275 hn4 (Nat.le_of_ble_eq_true rfl) (Nat.le_of_ble_eq_true rfl) dX8_readTest_139 ?_
  refine x_topS (fun S5 e6 => ?_)
  have h1 := h1 S5 e6
  refine x_dup_r C dX8_readTest_142 ?_
  refine x_iload_n C 3 dX8_readTest_143 rfl rfl ?_
  refine x_iload C 0 dX8_readTest_144 rfl ?_
  refine x_callS (rm' := rm_X9_digitsOf) C (kp_X9_digitsOf_met h1) lk_41 gw_278 rfl (Nat.le_of_ble_eq_true rfl) ⟨Nat.le_of_ble_eq_true rfl, Nat.le_of_ble_eq_true rfl, (Nat.le_of_ble_eq_true rfl), (Nat.le_of_ble_eq_true rfl)⟩ dX8_readTest_146 xm_kx (xm_ki (fun r8 S7 h1 => ?_))
  refine x_iload C 6 dX8_readTest_149 rfl ?_
  refine x_iload_n C 2 dX8_readTest_151 rfl rfl ?_
  obtain ⟨ht9, h1⟩ := h1
  refine x_callI (rm' := rm_X9_init) (n := n3) C (kp_X9_init_met h1) lk_42 gw_281 rfl rfl rfl (Nat.le_of_ble_eq_true rfl) ⟨Nat.le_of_ble_eq_true rfl, Nat.le_of_ble_eq_true rfl, (Nat.le_of_ble_eq_true rfl), (Nat.le_of_ble_eq_true rfl)⟩ dX8_readTest_152 xm_kx (xm_kv (fun S10 h1 => ?_))
  exact x_aret C (Nat.le_of_ble_eq_true rfl) (Nat.le_of_ble_eq_true rfl) rfl (by first | exact Or.inl ⟨_, rfl⟩ | exact Or.inr ⟨_, rfl⟩) dX8_readTest_155 (hg _ _ h1)
def wp_X8_readTest_90 (h : Nat) (x1 : Int32) (x2 : Int32) (x5 : Int32) (x6 : Int32) (x7 : Int32) (x8 : Int32) (s0 : Int32) (S : xm_S) (g : Option Nat → xm_S → Prop) : Prop :=
  st_t S h = some (8, 0) ∧ wp_X8_takes h (nI 45) S (fun r14 S13 => (r14 = 0 → wp_X8_readTest_109 h x1 x2 x5 x6 x7 x8 s0 (0 : Int32) S13 g) ∧ (¬ r14 = 0 → st_t S13 h = some (8, 0) ∧ wp_X8_readDigit h S13 (fun r17 S16 => wp_X8_readTest_109 h x1 x2 x5 x6 x7 x8 s0 r17 S16 g)))
set_option maxRecDepth 100000 in
set_option maxHeartbeats 4000000 in
theorem kp_X8_readTest_90 {K : xm_K} (h : Nat) (x1 : Int32) (x2 : Int32) (x5 : Int32) (x6 : Int32) (x7 : Int32) (x8 : Int32) (s0 : Int32) (S : xm_S) {g : Option Nat → xm_S → Prop} (C : xm_Cx K cX8_readTest RX8 12 (some ((FieldType.object "Portsmith$Test"))) rm_X8_readTest) (N : xm_Nx K) (hg : ∀ v S, g v S → xm_q K (some (xm_r v)) S)  (h1 : wp_X8_readTest_90 h x1 x2 x5 x6 x7 x8 s0 S g) : xm_W K 0 0 90 [(0, xm_r (some h)), (1, xm_i x1), (2, xm_i x2), (5, xm_i x5), (6, xm_i x6), (7, xm_i x7), (8, xm_i x8)] [xm_i s0] S := by
  unfold wp_X8_readTest_90 at h1
  refine x_istore (L' := [(9, xm_i s0), (0, xm_r (some h)), (1, xm_i x1), (2, xm_i x2), (5, xm_i x5), (6, xm_i x6), (7, xm_i x7), (8, xm_i x8)]) C dX8_readTest_90 (by decide) rfl ?_
  refine x_aload_n C 1 dX8_readTest_92 rfl rfl ?_
  refine x_bipush (v := (nI 45)) C dX8_readTest_93 (by decide) ?_
  obtain ⟨ht12, h1⟩ := h1
  refine x_callV (rm' := rm_X8_takes) (n := h) C (kp_X8_takes_met h1) lk_38 gw_264 gw_265 xv_8 rfl rfl ht12 rfl (Nat.le_of_ble_eq_true rfl) ⟨Nat.le_of_ble_eq_true rfl, Nat.le_of_ble_eq_true rfl, (Nat.le_of_ble_eq_true rfl), (Nat.le_of_ble_eq_true rfl)⟩ dX8_readTest_95 xm_kx (xm_ki (fun r14 S13 h1 => ?_))
  refine x_if_eq (tgt := 108) C dX8_readTest_98 (by decide) (fun z9 => ?_) (fun z9 => ?_)
  · have h1 := h1.1 z9
    refine x_iconst (v := (0 : Int32)) C dX8_readTest_108 (by decide) ?_
    refine x_keep (L' := [(1, xm_i x1), (2, xm_i x2), (5, xm_i x5), (6, xm_i x6), (7, xm_i x7), (8, xm_i x8), (9, xm_i s0)]) C [2, 3, 4, 5, 6, 7, 0] rfl ?_
    exact kp_X8_readTest_109 h x1 x2 x5 x6 x7 x8 s0 (0 : Int32) S13 C N hg  h1
  · have h1 := h1.2 z9
    refine x_aload_n C 1 dX8_readTest_101 rfl rfl ?_
    obtain ⟨ht15, h1⟩ := h1
    refine x_callV (rm' := rm_X8_readDigit) (n := h) C (kp_X8_readDigit_met h1) lk_43 gw_284 gw_285 xv_8 rfl rfl ht15 rfl (Nat.le_of_ble_eq_true rfl) ⟨Nat.le_of_ble_eq_true rfl, Nat.le_of_ble_eq_true rfl, (Nat.le_of_ble_eq_true rfl), (Nat.le_of_ble_eq_true rfl)⟩ dX8_readTest_102 xm_kx (xm_ki (fun r17 S16 h1 => ?_))
    refine x_goto (tgt := 109) C dX8_readTest_105 (by decide) ?_
    refine x_keep (L' := [(1, xm_i x1), (2, xm_i x2), (5, xm_i x5), (6, xm_i x6), (7, xm_i x7), (8, xm_i x8), (9, xm_i s0)]) C [2, 3, 4, 5, 6, 7, 0] rfl ?_
    exact kp_X8_readTest_109 h x1 x2 x5 x6 x7 x8 s0 r17 S16 C N hg  h1
def wp_X8_readTest_89 (h : Nat) (x1 : Int32) (x2 : Int32) (x5 : Int32) (x6 : Int32) (x7 : Int32) (x8 : Int32) (S : xm_S) (g : Option Nat → xm_S → Prop) : Prop :=
  wp_X8_readTest_90 h x1 x2 x5 x6 x7 x8 (0 : Int32) S g
set_option maxRecDepth 100000 in
set_option maxHeartbeats 4000000 in
theorem kp_X8_readTest_89 {K : xm_K} (h : Nat) (x1 : Int32) (x2 : Int32) (x5 : Int32) (x6 : Int32) (x7 : Int32) (x8 : Int32) (S : xm_S) {g : Option Nat → xm_S → Prop} (C : xm_Cx K cX8_readTest RX8 12 (some ((FieldType.object "Portsmith$Test"))) rm_X8_readTest) (N : xm_Nx K) (hg : ∀ v S, g v S → xm_q K (some (xm_r v)) S)  (h1 : wp_X8_readTest_89 h x1 x2 x5 x6 x7 x8 S g) : xm_W K 0 0 89 [(0, xm_r (some h)), (1, xm_i x1), (2, xm_i x2), (5, xm_i x5), (6, xm_i x6), (7, xm_i x7), (8, xm_i x8)] [] S := by
  unfold wp_X8_readTest_89 at h1
  refine x_iconst (v := (0 : Int32)) C dX8_readTest_89 (by decide) ?_
  exact kp_X8_readTest_90 h x1 x2 x5 x6 x7 x8 (0 : Int32) S C N hg  h1
def wp_X8_readTest_66 (h : Nat) (x1 : Int32) (x2 : Int32) (x5 : Int32) (x6 : Int32) (x7 : Int32) (s0 : Int32) (S : xm_S) (g : Option Nat → xm_S → Prop) : Prop :=
  (x7 = 0 → wp_X8_readTest_89 h x1 x2 x5 x6 x7 s0 S g) ∧ (¬ x7 = 0 → st_t S h = some (8, 0) ∧ wp_X8_takes h (nI 46) S (fun r20 S19 => (r20 = 0 → wp_X8_readTest_89 h x1 x2 x5 x6 x7 s0 S19 g) ∧ (¬ r20 = 0 → st_t S19 h = some (8, 0) ∧ wp_X8_readDigit h S19 (fun r23 S22 => wp_X8_readTest_90 h x1 x2 x5 x6 x7 s0 r23 S22 g))))
set_option maxRecDepth 100000 in
set_option maxHeartbeats 4000000 in
theorem kp_X8_readTest_66 {K : xm_K} (h : Nat) (x1 : Int32) (x2 : Int32) (x5 : Int32) (x6 : Int32) (x7 : Int32) (s0 : Int32) (S : xm_S) {g : Option Nat → xm_S → Prop} (C : xm_Cx K cX8_readTest RX8 12 (some ((FieldType.object "Portsmith$Test"))) rm_X8_readTest) (N : xm_Nx K) (hg : ∀ v S, g v S → xm_q K (some (xm_r v)) S)  (h1 : wp_X8_readTest_66 h x1 x2 x5 x6 x7 s0 S g) : xm_W K 0 0 66 [(0, xm_r (some h)), (1, xm_i x1), (2, xm_i x2), (5, xm_i x5), (6, xm_i x6), (7, xm_i x7)] [xm_i s0] S := by
  unfold wp_X8_readTest_66 at h1
  refine x_istore (L' := [(8, xm_i s0), (0, xm_r (some h)), (1, xm_i x1), (2, xm_i x2), (5, xm_i x5), (6, xm_i x6), (7, xm_i x7)]) C dX8_readTest_66 (by decide) rfl ?_
  refine x_iload C 6 dX8_readTest_68 rfl ?_
  refine x_if_eq (tgt := 89) C dX8_readTest_70 (by decide) (fun z9 => ?_) (fun z9 => ?_)
  · have h1 := h1.1 z9
    refine x_keep (L' := [(0, xm_r (some h)), (1, xm_i x1), (2, xm_i x2), (5, xm_i x5), (6, xm_i x6), (7, xm_i x7), (8, xm_i s0)]) C [1, 2, 3, 4, 5, 6, 0] rfl ?_
    exact kp_X8_readTest_89 h x1 x2 x5 x6 x7 s0 S C N hg  h1
  · have h1 := h1.2 z9
    refine x_aload_n C 1 dX8_readTest_73 rfl rfl ?_
    refine x_bipush (v := (nI 46)) C dX8_readTest_74 (by decide) ?_
    obtain ⟨ht18, h1⟩ := h1
    refine x_callV (rm' := rm_X8_takes) (n := h) C (kp_X8_takes_met h1) lk_38 gw_264 gw_265 xv_8 rfl rfl ht18 rfl (Nat.le_of_ble_eq_true rfl) ⟨Nat.le_of_ble_eq_true rfl, Nat.le_of_ble_eq_true rfl, (Nat.le_of_ble_eq_true rfl), (Nat.le_of_ble_eq_true rfl)⟩ dX8_readTest_76 xm_kx (xm_ki (fun r20 S19 h1 => ?_))
    refine x_if_eq (tgt := 89) C dX8_readTest_79 (by decide) (fun z9 => ?_) (fun z9 => ?_)
    · have h1 := h1.1 z9
      refine x_keep (L' := [(0, xm_r (some h)), (1, xm_i x1), (2, xm_i x2), (5, xm_i x5), (6, xm_i x6), (7, xm_i x7), (8, xm_i s0)]) C [1, 2, 3, 4, 5, 6, 0] rfl ?_
      exact kp_X8_readTest_89 h x1 x2 x5 x6 x7 s0 S19 C N hg  h1
    · have h1 := h1.2 z9
      refine x_aload_n C 1 dX8_readTest_82 rfl rfl ?_
      obtain ⟨ht21, h1⟩ := h1
      refine x_callV (rm' := rm_X8_readDigit) (n := h) C (kp_X8_readDigit_met h1) lk_43 gw_284 gw_285 xv_8 rfl rfl ht21 rfl (Nat.le_of_ble_eq_true rfl) ⟨Nat.le_of_ble_eq_true rfl, Nat.le_of_ble_eq_true rfl, (Nat.le_of_ble_eq_true rfl), (Nat.le_of_ble_eq_true rfl)⟩ dX8_readTest_83 xm_kx (xm_ki (fun r23 S22 h1 => ?_))
      refine x_goto (tgt := 90) C dX8_readTest_86 (by decide) ?_
      refine x_keep (L' := [(0, xm_r (some h)), (1, xm_i x1), (2, xm_i x2), (5, xm_i x5), (6, xm_i x6), (7, xm_i x7), (8, xm_i s0)]) C [1, 2, 3, 4, 5, 6, 0] rfl ?_
      exact kp_X8_readTest_90 h x1 x2 x5 x6 x7 s0 r23 S22 C N hg  h1
def wp_X8_readTest_43 (h : Nat) (x1 : Int32) (x2 : Int32) (x5 : Int32) (s0 : Int32) (S : xm_S) (g : Option Nat → xm_S → Prop) : Prop :=
  st_t S h = some (8, 0) ∧ wp_X8_takes h (nI 46) S (fun r26 S25 => (r26 = 0 → wp_X8_readTest_66 h x1 x2 x5 s0 r26 (0 : Int32) S25 g) ∧ (¬ r26 = 0 → st_t S25 h = some (8, 0) ∧ wp_X8_readDigit h S25 (fun r29 S28 => wp_X8_readTest_66 h x1 x2 x5 s0 r26 r29 S28 g)))
set_option maxRecDepth 100000 in
set_option maxHeartbeats 4000000 in
theorem kp_X8_readTest_43 {K : xm_K} (h : Nat) (x1 : Int32) (x2 : Int32) (x5 : Int32) (s0 : Int32) (S : xm_S) {g : Option Nat → xm_S → Prop} (C : xm_Cx K cX8_readTest RX8 12 (some ((FieldType.object "Portsmith$Test"))) rm_X8_readTest) (N : xm_Nx K) (hg : ∀ v S, g v S → xm_q K (some (xm_r v)) S)  (h1 : wp_X8_readTest_43 h x1 x2 x5 s0 S g) : xm_W K 0 0 43 [(0, xm_r (some h)), (1, xm_i x1), (2, xm_i x2), (5, xm_i x5)] [xm_i s0] S := by
  unfold wp_X8_readTest_43 at h1
  refine x_istore (L' := [(6, xm_i s0), (0, xm_r (some h)), (1, xm_i x1), (2, xm_i x2), (5, xm_i x5)]) C dX8_readTest_43 (by decide) rfl ?_
  refine x_aload_n C 1 dX8_readTest_45 rfl rfl ?_
  refine x_bipush (v := (nI 46)) C dX8_readTest_46 (by decide) ?_
  obtain ⟨ht24, h1⟩ := h1
  refine x_callV (rm' := rm_X8_takes) (n := h) C (kp_X8_takes_met h1) lk_38 gw_264 gw_265 xv_8 rfl rfl ht24 rfl (Nat.le_of_ble_eq_true rfl) ⟨Nat.le_of_ble_eq_true rfl, Nat.le_of_ble_eq_true rfl, (Nat.le_of_ble_eq_true rfl), (Nat.le_of_ble_eq_true rfl)⟩ dX8_readTest_48 xm_kx (xm_ki (fun r26 S25 h1 => ?_))
  refine x_istore (L' := [(7, xm_i r26), (6, xm_i s0), (0, xm_r (some h)), (1, xm_i x1), (2, xm_i x2), (5, xm_i x5)]) C dX8_readTest_51 (by decide) rfl ?_
  refine x_iload C 0 dX8_readTest_53 rfl ?_
  refine x_if_eq (tgt := 65) C dX8_readTest_55 (by decide) (fun z9 => ?_) (fun z9 => ?_)
  · have h1 := h1.1 z9
    refine x_iconst (v := (0 : Int32)) C dX8_readTest_65 (by decide) ?_
    refine x_keep (L' := [(0, xm_r (some h)), (1, xm_i x1), (2, xm_i x2), (5, xm_i x5), (6, xm_i s0), (7, xm_i r26)]) C [2, 3, 4, 5, 1, 0] rfl ?_
    exact kp_X8_readTest_66 h x1 x2 x5 s0 r26 (0 : Int32) S25 C N hg  h1
  · have h1 := h1.2 z9
    refine x_aload_n C 2 dX8_readTest_58 rfl rfl ?_
    obtain ⟨ht27, h1⟩ := h1
    refine x_callV (rm' := rm_X8_readDigit) (n := h) C (kp_X8_readDigit_met h1) lk_43 gw_284 gw_285 xv_8 rfl rfl ht27 rfl (Nat.le_of_ble_eq_true rfl) ⟨Nat.le_of_ble_eq_true rfl, Nat.le_of_ble_eq_true rfl, (Nat.le_of_ble_eq_true rfl), (Nat.le_of_ble_eq_true rfl)⟩ dX8_readTest_59 xm_kx (xm_ki (fun r29 S28 h1 => ?_))
    refine x_goto (tgt := 66) C dX8_readTest_62 (by decide) ?_
    refine x_keep (L' := [(0, xm_r (some h)), (1, xm_i x1), (2, xm_i x2), (5, xm_i x5), (6, xm_i s0), (7, xm_i r26)]) C [2, 3, 4, 5, 1, 0] rfl ?_
    exact kp_X8_readTest_66 h x1 x2 x5 s0 r26 r29 S28 C N hg  h1
def wp_X8_readTest_31 (h : Nat) (x1 : Int32) (x2 : Int32) (x3 : Int32) (x4 : Int32) (s0 : Int32) (S : xm_S) (g : Option Nat → xm_S → Prop) : Prop :=
  (x4 = 0 → wp_X8_readTest_43 h x1 x2 s0 (0 : Int32) S g) ∧ (¬ x4 = 0 → wp_X8_readTest_43 h x1 x2 s0 x3 S g)
set_option maxRecDepth 100000 in
set_option maxHeartbeats 4000000 in
theorem kp_X8_readTest_31 {K : xm_K} (h : Nat) (x1 : Int32) (x2 : Int32) (x3 : Int32) (x4 : Int32) (s0 : Int32) (S : xm_S) {g : Option Nat → xm_S → Prop} (C : xm_Cx K cX8_readTest RX8 12 (some ((FieldType.object "Portsmith$Test"))) rm_X8_readTest) (N : xm_Nx K) (hg : ∀ v S, g v S → xm_q K (some (xm_r v)) S)  (h1 : wp_X8_readTest_31 h x1 x2 x3 x4 s0 S g) : xm_W K 0 0 31 [(0, xm_r (some h)), (1, xm_i x1), (2, xm_i x2), (3, xm_i x3), (4, xm_i x4)] [xm_i s0] S := by
  unfold wp_X8_readTest_31 at h1
  refine x_istore (L' := [(5, xm_i s0), (0, xm_r (some h)), (1, xm_i x1), (2, xm_i x2), (3, xm_i x3), (4, xm_i x4)]) C dX8_readTest_31 (by decide) rfl ?_
  refine x_iload C 5 dX8_readTest_33 rfl ?_
  refine x_if_eq (tgt := 42) C dX8_readTest_35 (by decide) (fun z9 => ?_) (fun z9 => ?_)
  · have h1 := h1.1 z9
    refine x_iconst (v := (0 : Int32)) C dX8_readTest_42 (by decide) ?_
    refine x_keep (L' := [(0, xm_r (some h)), (1, xm_i x1), (2, xm_i x2), (5, xm_i s0)]) C [1, 2, 3, 0] rfl ?_
    exact kp_X8_readTest_43 h x1 x2 s0 (0 : Int32) S C N hg  h1
  · have h1 := h1.2 z9
    refine x_iload_n C 4 dX8_readTest_38 rfl rfl ?_
    refine x_goto (tgt := 43) C dX8_readTest_39 (by decide) ?_
    refine x_keep (L' := [(0, xm_r (some h)), (1, xm_i x1), (2, xm_i x2), (5, xm_i s0)]) C [1, 2, 3, 0] rfl ?_
    exact kp_X8_readTest_43 h x1 x2 s0 x3 S C N hg  h1
def wp_X8_readTest (h : Nat) (x1 : Int32) (S : xm_S) (g : Option Nat → xm_S → Prop) : Prop :=
  st_t S h = some (8, 0) ∧ wp_X8_readKind h S (fun r32 S31 => st_t S31 h = some (8, 0) ∧ wp_X8_readDigit h S31 (fun r35 S34 => st_t S34 h = some (8, 0) ∧ wp_X8_takes h (nI 58) S34 (fun r38 S37 => (r38 = 0 → wp_X8_readTest_31 h x1 r32 r35 r38 r35 S37 g) ∧ (¬ r38 = 0 → st_t S37 h = some (8, 0) ∧ wp_X8_readDigit h S37 (fun r41 S40 => wp_X8_readTest_31 h x1 r32 r35 r38 r41 S40 g)))))
set_option maxRecDepth 100000 in
set_option maxHeartbeats 4000000 in
theorem kp_X8_readTest {K : xm_K} (h : Nat) (x1 : Int32) (S : xm_S) {g : Option Nat → xm_S → Prop} (C : xm_Cx K cX8_readTest RX8 12 (some ((FieldType.object "Portsmith$Test"))) rm_X8_readTest) (N : xm_Nx K) (hg : ∀ v S, g v S → xm_q K (some (xm_r v)) S)  (h1 : wp_X8_readTest h x1 S g) : xm_W K 0 0 0 [(0, xm_r (some h)), (1, xm_i x1)] [] S := by
  unfold wp_X8_readTest at h1
  refine x_aload_n C 0 dX8_readTest_0 rfl rfl ?_
  obtain ⟨ht30, h1⟩ := h1
  refine x_callV (rm' := rm_X8_readKind) (n := h) C (kp_X8_readKind_met h1) lk_44 gw_288 gw_289 xv_8 rfl rfl ht30 rfl (Nat.le_of_ble_eq_true rfl) ⟨Nat.le_of_ble_eq_true rfl, Nat.le_of_ble_eq_true rfl, (Nat.le_of_ble_eq_true rfl), (Nat.le_of_ble_eq_true rfl)⟩ dX8_readTest_1 xm_kx (xm_ki (fun r32 S31 h1 => ?_))
  refine x_istore_n (L' := [(2, xm_i r32), (0, xm_r (some h)), (1, xm_i x1)]) C dX8_readTest_4 rfl (by decide) rfl ?_
  refine x_aload_n C 1 dX8_readTest_5 rfl rfl ?_
  obtain ⟨ht33, h1⟩ := h1
  refine x_callV (rm' := rm_X8_readDigit) (n := h) C (kp_X8_readDigit_met h1) lk_43 gw_284 gw_285 xv_8 rfl rfl ht33 rfl (Nat.le_of_ble_eq_true rfl) ⟨Nat.le_of_ble_eq_true rfl, Nat.le_of_ble_eq_true rfl, (Nat.le_of_ble_eq_true rfl), (Nat.le_of_ble_eq_true rfl)⟩ dX8_readTest_6 xm_kx (xm_ki (fun r35 S34 h1 => ?_))
  refine x_istore_n (L' := [(3, xm_i r35), (2, xm_i r32), (0, xm_r (some h)), (1, xm_i x1)]) C dX8_readTest_9 rfl (by decide) rfl ?_
  refine x_aload_n C 2 dX8_readTest_10 rfl rfl ?_
  refine x_bipush (v := (nI 58)) C dX8_readTest_11 (by decide) ?_
  obtain ⟨ht36, h1⟩ := h1
  refine x_callV (rm' := rm_X8_takes) (n := h) C (kp_X8_takes_met h1) lk_38 gw_264 gw_265 xv_8 rfl rfl ht36 rfl (Nat.le_of_ble_eq_true rfl) ⟨Nat.le_of_ble_eq_true rfl, Nat.le_of_ble_eq_true rfl, (Nat.le_of_ble_eq_true rfl), (Nat.le_of_ble_eq_true rfl)⟩ dX8_readTest_13 xm_kx (xm_ki (fun r38 S37 h1 => ?_))
  refine x_istore (L' := [(4, xm_i r38), (3, xm_i r35), (2, xm_i r32), (0, xm_r (some h)), (1, xm_i x1)]) C dX8_readTest_16 (by decide) rfl ?_
  refine x_iload C 0 dX8_readTest_18 rfl ?_
  refine x_if_eq (tgt := 30) C dX8_readTest_20 (by decide) (fun z9 => ?_) (fun z9 => ?_)
  · have h1 := h1.1 z9
    refine x_iload_n C 1 dX8_readTest_30 rfl rfl ?_
    refine x_keep (L' := [(0, xm_r (some h)), (1, xm_i x1), (2, xm_i r32), (3, xm_i r35), (4, xm_i r38)]) C [3, 4, 2, 1, 0] rfl ?_
    exact kp_X8_readTest_31 h x1 r32 r35 r38 r35 S37 C N hg  h1
  · have h1 := h1.2 z9
    refine x_aload_n C 3 dX8_readTest_23 rfl rfl ?_
    obtain ⟨ht39, h1⟩ := h1
    refine x_callV (rm' := rm_X8_readDigit) (n := h) C (kp_X8_readDigit_met h1) lk_43 gw_284 gw_285 xv_8 rfl rfl ht39 rfl (Nat.le_of_ble_eq_true rfl) ⟨Nat.le_of_ble_eq_true rfl, Nat.le_of_ble_eq_true rfl, (Nat.le_of_ble_eq_true rfl), (Nat.le_of_ble_eq_true rfl)⟩ dX8_readTest_24 xm_kx (xm_ki (fun r41 S40 h1 => ?_))
    refine x_goto (tgt := 31) C dX8_readTest_27 (by decide) ?_
    refine x_keep (L' := [(0, xm_r (some h)), (1, xm_i x1), (2, xm_i r32), (3, xm_i r35), (4, xm_i r38)]) C [3, 4, 2, 1, 0] rfl ?_
    exact kp_X8_readTest_31 h x1 r32 r35 r38 r41 S40 C N hg  h1
theorem kp_X8_readTest_met {h : Nat} {x1 : Int32} {S : xm_S} {g : Option Nat → xm_S → Prop}  (h1 : wp_X8_readTest h x1 S g) : xm_Met yX8_readTest cX8_readTest 12 (some ((FieldType.object "Portsmith$Test"))) rm_X8_readTest [xm_r (some h), xm_i x1] S (xm_qr g) xm_nox :=
  xm_ofW RX8 (by decide +kernel) rfl (Nat.le_of_ble_eq_true rfl) (fun K C N hq hx hi => kp_X8_readTest h x1 S C N (fun v S h => by rw [hq]; exact ⟨v, rfl, h⟩)  h1)
def rm_X8_readRange : Room := { frames := 4, cells := 130, slots := 450, locals := 104 }
theorem dX8_readRange_0 : decode cX8_readRange 0 = .ok (.new 30, 3) := by decide +kernel
theorem dX8_readRange_3 : decode cX8_readRange 3 = .ok (.dup, 1) := by decide +kernel
theorem dX8_readRange_4 : decode cX8_readRange 4 = .ok (.invokespecial 32, 3) := by decide +kernel
theorem dX8_readRange_7 : decode cX8_readRange 7 = .ok (.astore_n 1, 1) := by decide +kernel
theorem dX8_readRange_8 : decode cX8_readRange 8 = .ok (.iconst 1, 1) := by decide +kernel
theorem dX8_readRange_9 : decode cX8_readRange 9 = .ok (.istore_n 2, 1) := by decide +kernel
theorem dX8_readRange_10 : decode cX8_readRange 10 = .ok (.aload_n 0, 1) := by decide +kernel
theorem dX8_readRange_11 : decode cX8_readRange 11 = .ok (.iconst 0, 1) := by decide +kernel
theorem dX8_readRange_12 : decode cX8_readRange 12 = .ok (.putfield 19, 3) := by decide +kernel
theorem dX8_readRange_15 : decode cX8_readRange 15 = .ok (.aload_n 0, 1) := by decide +kernel
theorem dX8_readRange_16 : decode cX8_readRange 16 = .ok (.iconst 0, 1) := by decide +kernel
theorem dX8_readRange_17 : decode cX8_readRange 17 = .ok (.putfield 22, 3) := by decide +kernel
theorem dX8_readRange_20 : decode cX8_readRange 20 = .ok (.iconst 0, 1) := by decide +kernel
theorem dX8_readRange_21 : decode cX8_readRange 21 = .ok (.istore_n 3, 1) := by decide +kernel
theorem dX8_readRange_22 : decode cX8_readRange 22 = .ok (.iload_n 3, 1) := by decide +kernel
theorem dX8_readRange_23 : decode cX8_readRange 23 = .ok (.bipush 40, 2) := by decide +kernel
theorem dX8_readRange_25 : decode cX8_readRange 25 = .ok (.if_icmp .gt 111, 3) := by decide +kernel
theorem dX8_readRange_28 : decode cX8_readRange 28 = .ok (.iload_n 2, 1) := by decide +kernel
theorem dX8_readRange_29 : decode cX8_readRange 29 = .ok (.ifCond .eq 16, 3) := by decide +kernel
theorem dX8_readRange_32 : decode cX8_readRange 32 = .ok (.aload_n 0, 1) := by decide +kernel
theorem dX8_readRange_33 : decode cX8_readRange 33 = .ok (.bipush 42, 2) := by decide +kernel
theorem dX8_readRange_35 : decode cX8_readRange 35 = .ok (.invokevirtual 33, 3) := by decide +kernel
theorem dX8_readRange_38 : decode cX8_readRange 38 = .ok (.ifCond .eq 7, 3) := by decide +kernel
theorem dX8_readRange_41 : decode cX8_readRange 41 = .ok (.iconst 1, 1) := by decide +kernel
theorem dX8_readRange_42 : decode cX8_readRange 42 = .ok (.goto 4, 3) := by decide +kernel
theorem dX8_readRange_45 : decode cX8_readRange 45 = .ok (.iconst 0, 1) := by decide +kernel
theorem dX8_readRange_46 : decode cX8_readRange 46 = .ok (.istore 4, 2) := by decide +kernel
theorem dX8_readRange_48 : decode cX8_readRange 48 = .ok (.aload_n 1, 1) := by decide +kernel
theorem dX8_readRange_49 : decode cX8_readRange 49 = .ok (.iload 4, 2) := by decide +kernel
theorem dX8_readRange_51 : decode cX8_readRange 51 = .ok (.ifCond .eq 18, 3) := by decide +kernel
theorem dX8_readRange_54 : decode cX8_readRange 54 = .ok (.new 37, 3) := by decide +kernel
theorem dX8_readRange_57 : decode cX8_readRange 57 = .ok (.dup, 1) := by decide +kernel
theorem dX8_readRange_58 : decode cX8_readRange 58 = .ok (.iconst 0, 1) := by decide +kernel
theorem dX8_readRange_59 : decode cX8_readRange 59 = .ok (.bipush 10, 2) := by decide +kernel
theorem dX8_readRange_61 : decode cX8_readRange 61 = .ok (.iconst 0, 1) := by decide +kernel
theorem dX8_readRange_62 : decode cX8_readRange 62 = .ok (.iconst 1, 1) := by decide +kernel
theorem dX8_readRange_63 : decode cX8_readRange 63 = .ok (.invokespecial 39, 3) := by decide +kernel
theorem dX8_readRange_66 : decode cX8_readRange 66 = .ok (.goto 8, 3) := by decide +kernel
theorem dX8_readRange_69 : decode cX8_readRange 69 = .ok (.aload_n 0, 1) := by decide +kernel
theorem dX8_readRange_70 : decode cX8_readRange 70 = .ok (.iload_n 2, 1) := by decide +kernel
theorem dX8_readRange_71 : decode cX8_readRange 71 = .ok (.invokevirtual 42, 3) := by decide +kernel
theorem dX8_readRange_74 : decode cX8_readRange 74 = .ok (.invokevirtual 46, 3) := by decide +kernel
theorem dX8_readRange_77 : decode cX8_readRange 77 = .ok (.iload 4, 2) := by decide +kernel
theorem dX8_readRange_79 : decode cX8_readRange 79 = .ok (.ifCond .ne 16, 3) := by decide +kernel
theorem dX8_readRange_82 : decode cX8_readRange 82 = .ok (.aload_n 0, 1) := by decide +kernel
theorem dX8_readRange_83 : decode cX8_readRange 83 = .ok (.bipush 44, 2) := by decide +kernel
theorem dX8_readRange_85 : decode cX8_readRange 85 = .ok (.invokevirtual 33, 3) := by decide +kernel
theorem dX8_readRange_88 : decode cX8_readRange 88 = .ok (.ifCond .eq 7, 3) := by decide +kernel
theorem dX8_readRange_91 : decode cX8_readRange 91 = .ok (.iconst 1, 1) := by decide +kernel
theorem dX8_readRange_92 : decode cX8_readRange 92 = .ok (.goto 4, 3) := by decide +kernel
theorem dX8_readRange_95 : decode cX8_readRange 95 = .ok (.iconst 0, 1) := by decide +kernel
theorem dX8_readRange_96 : decode cX8_readRange 96 = .ok (.istore 5, 2) := by decide +kernel
theorem dX8_readRange_98 : decode cX8_readRange 98 = .ok (.iload 5, 2) := by decide +kernel
theorem dX8_readRange_100 : decode cX8_readRange 100 = .ok (.ifCond .ne 16, 3) := by decide +kernel
theorem dX8_readRange_103 : decode cX8_readRange 103 = .ok (.aload_n 0, 1) := by decide +kernel
theorem dX8_readRange_104 : decode cX8_readRange 104 = .ok (.bipush 124, 2) := by decide +kernel
theorem dX8_readRange_106 : decode cX8_readRange 106 = .ok (.invokevirtual 33, 3) := by decide +kernel
theorem dX8_readRange_109 : decode cX8_readRange 109 = .ok (.ifCond .eq 7, 3) := by decide +kernel
theorem dX8_readRange_112 : decode cX8_readRange 112 = .ok (.iconst 1, 1) := by decide +kernel
theorem dX8_readRange_113 : decode cX8_readRange 113 = .ok (.goto 4, 3) := by decide +kernel
theorem dX8_readRange_116 : decode cX8_readRange 116 = .ok (.iconst 0, 1) := by decide +kernel
theorem dX8_readRange_117 : decode cX8_readRange 117 = .ok (.istore_n 2, 1) := by decide +kernel
theorem dX8_readRange_118 : decode cX8_readRange 118 = .ok (.iload 5, 2) := by decide +kernel
theorem dX8_readRange_120 : decode cX8_readRange 120 = .ok (.ifCond .ne 10, 3) := by decide +kernel
theorem dX8_readRange_123 : decode cX8_readRange 123 = .ok (.iload_n 2, 1) := by decide +kernel
theorem dX8_readRange_124 : decode cX8_readRange 124 = .ok (.ifCond .ne 6, 3) := by decide +kernel
theorem dX8_readRange_127 : decode cX8_readRange 127 = .ok (.goto 9, 3) := by decide +kernel
theorem dX8_readRange_130 : decode cX8_readRange 130 = .ok (.iinc 3 1, 3) := by decide +kernel
theorem dX8_readRange_133 : decode cX8_readRange 133 = .ok (.goto (-111), 3) := by decide +kernel
theorem dX8_readRange_136 : decode cX8_readRange 136 = .ok (.aload_n 0, 1) := by decide +kernel
theorem dX8_readRange_137 : decode cX8_readRange 137 = .ok (.getfield 22, 3) := by decide +kernel
theorem dX8_readRange_140 : decode cX8_readRange 140 = .ok (.ifCond .ne 14, 3) := by decide +kernel
theorem dX8_readRange_143 : decode cX8_readRange 143 = .ok (.aload_n 0, 1) := by decide +kernel
theorem dX8_readRange_144 : decode cX8_readRange 144 = .ok (.getfield 19, 3) := by decide +kernel
theorem dX8_readRange_147 : decode cX8_readRange 147 = .ok (.aload_n 0, 1) := by decide +kernel
theorem dX8_readRange_148 : decode cX8_readRange 148 = .ok (.getfield 15, 3) := by decide +kernel
theorem dX8_readRange_151 : decode cX8_readRange 151 = .ok (.if_icmp .ge 7, 3) := by decide +kernel
theorem dX8_readRange_154 : decode cX8_readRange 154 = .ok (.aconst_null, 1) := by decide +kernel
theorem dX8_readRange_155 : decode cX8_readRange 155 = .ok (.goto 4, 3) := by decide +kernel
theorem dX8_readRange_158 : decode cX8_readRange 158 = .ok (.aload_n 1, 1) := by decide +kernel
theorem dX8_readRange_159 : decode cX8_readRange 159 = .ok (.areturn, 1) := by decide +kernel
def wp_X8_readRange_159 (h : Nat) (s0 : Option Nat) (S : xm_S) (kc ks : Nat) (g : Option Nat → xm_S → Prop) : Prop :=
  kc ≤ 130 ∧ ks ≤ 450 ∧ g s0 S
set_option maxRecDepth 100000 in
set_option maxHeartbeats 4000000 in
theorem kp_X8_readRange_159 {K : xm_K} (h : Nat) (s0 : Option Nat) (S : xm_S) (kc ks : Nat) {g : Option Nat → xm_S → Prop} (C : xm_Cx K cX8_readRange RX8 6 (some ((FieldType.object "Portsmith$Range"))) rm_X8_readRange) (N : xm_Nx K) (hg : ∀ v S, g v S → xm_q K (some (xm_r v)) S)  (h1 : wp_X8_readRange_159 h s0 S kc ks g) : xm_W K kc ks 159 [] [xm_r s0] S := by
  unfold wp_X8_readRange_159 at h1
  obtain ⟨hc1, hc2, h1⟩ := h1
  exact x_aret C hc1 hc2 rfl (by first | exact Or.inl ⟨_, rfl⟩ | exact Or.inr ⟨_, rfl⟩) dX8_readRange_159 (hg _ _ h1)
def wp_X8_readRange_154 (h : Nat)  (S : xm_S) (kc ks : Nat) (g : Option Nat → xm_S → Prop) : Prop :=
  wp_X8_readRange_159 h none S kc ks g
set_option maxRecDepth 100000 in
set_option maxHeartbeats 4000000 in
theorem kp_X8_readRange_154 {K : xm_K} (h : Nat)  (S : xm_S) (kc ks : Nat) {g : Option Nat → xm_S → Prop} (C : xm_Cx K cX8_readRange RX8 6 (some ((FieldType.object "Portsmith$Range"))) rm_X8_readRange) (N : xm_Nx K) (hg : ∀ v S, g v S → xm_q K (some (xm_r v)) S)  (h1 : wp_X8_readRange_154 h  S kc ks g) : xm_W K kc ks 154 [] [] S := by
  unfold wp_X8_readRange_154 at h1
  refine x_null C dX8_readRange_154 ?_
  refine x_goto (tgt := 159) C dX8_readRange_155 (by decide) ?_
  exact kp_X8_readRange_159 h none S kc ks C N hg  h1
def wp_X8_readRange_136 (h : Nat) (x1 : Option Nat) (S : xm_S) (kc ks : Nat) (g : Option Nat → xm_S → Prop) : Prop :=
  st_t S h = some (8, 0) ∧ (¬ (st_i S h 3) = 0 → wp_X8_readRange_154 h S kc ks g) ∧ ((st_i S h 3) = 0 → ((st_i S h 1) ≤ (st_i S h 2) → wp_X8_readRange_159 h x1 S kc ks g) ∧ (¬ (st_i S h 1) ≤ (st_i S h 2) → wp_X8_readRange_154 h S kc ks g))
set_option maxRecDepth 100000 in
set_option maxHeartbeats 4000000 in
theorem kp_X8_readRange_136 {K : xm_K} (h : Nat) (x1 : Option Nat) (S : xm_S) (kc ks : Nat) {g : Option Nat → xm_S → Prop} (C : xm_Cx K cX8_readRange RX8 6 (some ((FieldType.object "Portsmith$Range"))) rm_X8_readRange) (N : xm_Nx K) (hg : ∀ v S, g v S → xm_q K (some (xm_r v)) S)  (h1 : wp_X8_readRange_136 h x1 S kc ks g) : xm_W K kc ks 136 [(0, xm_r (some h)), (1, xm_r x1)] [] S := by
  unfold wp_X8_readRange_136 at h1
  refine x_aload_n C 0 dX8_readRange_136 rfl rfl ?_
  obtain ⟨ht3, h1⟩ := h1
  refine x_getf_i (n := h) C rfl ht3 fd_88 (by decide) dX8_readRange_137 ?_
  refine x_if_ne (tgt := 154) C dX8_readRange_140 (by decide) (fun z9 => ?_) (fun z9 => ?_)
  · have h1 := h1.1 z9
    refine x_keep (L' := []) C [] rfl ?_
    exact kp_X8_readRange_154 h S kc ks C N hg  h1
  · have h1 := h1.2 z9
    refine x_aload_n C 0 dX8_readRange_143 rfl rfl ?_
    refine x_getf_i (n := h) C rfl ht3 fd_89 (by decide) dX8_readRange_144 ?_
    refine x_aload_n C 0 dX8_readRange_147 rfl rfl ?_
    refine x_getf_i (n := h) C rfl ht3 fd_86 (by decide) dX8_readRange_148 ?_
    refine x_icmp_ge (tgt := 158) C dX8_readRange_151 (by decide) (fun z9 => ?_) (fun z9 => ?_)
    · have h1 := h1.1 z9
      refine x_aload_n C 1 dX8_readRange_158 rfl rfl ?_
      refine x_keep (L' := []) C [] rfl ?_
      exact kp_X8_readRange_159 h x1 S kc ks C N hg  h1
    · have h1 := h1.2 z9
      refine x_keep (L' := []) C [] rfl ?_
      exact kp_X8_readRange_154 h S kc ks C N hg  h1
def wp_X8_readRange_130 (h : Nat) (x1 : Option Nat) (x2 : Int32) (x3 : Int32) (S : xm_S) (kc ks : Nat) (g : Option Nat → xm_S → Prop) (Z22 : Option Nat → Int32 → Int32 → xm_S → Nat → Nat → Prop) : Prop :=
  ∀ y4, y4 = (x3 + (1 : Int32)) → Z22 x1 x2 y4 S kc ks
set_option maxRecDepth 100000 in
set_option maxHeartbeats 4000000 in
theorem kp_X8_readRange_130 {K : xm_K} (h : Nat) (x1 : Option Nat) (x2 : Int32) (x3 : Int32) (S : xm_S) (kc ks : Nat) {g : Option Nat → xm_S → Prop} {Z22 : Option Nat → Int32 → Int32 → xm_S → Nat → Nat → Prop} (C : xm_Cx K cX8_readRange RX8 6 (some ((FieldType.object "Portsmith$Range"))) rm_X8_readRange) (N : xm_Nx K) (hg : ∀ v S, g v S → xm_q K (some (xm_r v)) S) (hZ22 : ∀ x1 x2 x3 S kc ks, Z22 x1 x2 x3 S kc ks → xm_W K kc ks 22 [(0, xm_r (some h)), (1, xm_r x1), (2, xm_i x2), (3, xm_i x3)] [] S) (h1 : wp_X8_readRange_130 h x1 x2 x3 S kc ks g Z22) : xm_W K kc ks 130 [(0, xm_r (some h)), (1, xm_r x1), (2, xm_i x2), (3, xm_i x3)] [] S := by
  unfold wp_X8_readRange_130 at h1
  obtain ⟨y4, e5⟩ : ∃ y4, y4 = (x3 + (1 : Int32)) := ⟨_, rfl⟩
  have h1 := h1 y4 e5
  refine x_iinc (v := y4) (L' := [(3, xm_i y4), (0, xm_r (some h)), (1, xm_r x1), (2, xm_i x2)]) C 3 dX8_readRange_130 rfl (by rw [e5]; rfl) (by decide) rfl ?_
  refine x_goto (tgt := 22) C dX8_readRange_133 (by decide) ?_
  refine x_keep (L' := [(0, xm_r (some h)), (1, xm_r x1), (2, xm_i x2), (3, xm_i y4)]) C [1, 2, 3, 0] rfl ?_
  exact hZ22 x1 x2 y4 S kc ks h1
def wp_X8_readRange_117 (h : Nat) (x1 : Option Nat) (x3 : Int32) (x5 : Int32) (s0 : Int32) (S : xm_S) (kc ks : Nat) (g : Option Nat → xm_S → Prop) (Z22 : Option Nat → Int32 → Int32 → xm_S → Nat → Nat → Prop) : Prop :=
  (¬ x5 = 0 → wp_X8_readRange_130 h x1 s0 x3 S kc ks g Z22) ∧ (x5 = 0 → (¬ s0 = 0 → wp_X8_readRange_130 h x1 s0 x3 S kc ks g Z22) ∧ (s0 = 0 → wp_X8_readRange_136 h x1 S kc ks g))
set_option maxRecDepth 100000 in
set_option maxHeartbeats 4000000 in
theorem kp_X8_readRange_117 {K : xm_K} (h : Nat) (x1 : Option Nat) (x3 : Int32) (x5 : Int32) (s0 : Int32) (S : xm_S) (kc ks : Nat) {g : Option Nat → xm_S → Prop} {Z22 : Option Nat → Int32 → Int32 → xm_S → Nat → Nat → Prop} (C : xm_Cx K cX8_readRange RX8 6 (some ((FieldType.object "Portsmith$Range"))) rm_X8_readRange) (N : xm_Nx K) (hg : ∀ v S, g v S → xm_q K (some (xm_r v)) S) (hZ22 : ∀ x1 x2 x3 S kc ks, Z22 x1 x2 x3 S kc ks → xm_W K kc ks 22 [(0, xm_r (some h)), (1, xm_r x1), (2, xm_i x2), (3, xm_i x3)] [] S) (h1 : wp_X8_readRange_117 h x1 x3 x5 s0 S kc ks g Z22) : xm_W K kc ks 117 [(0, xm_r (some h)), (1, xm_r x1), (3, xm_i x3), (5, xm_i x5)] [xm_i s0] S := by
  unfold wp_X8_readRange_117 at h1
  refine x_istore_n (L' := [(2, xm_i s0), (0, xm_r (some h)), (1, xm_r x1), (3, xm_i x3), (5, xm_i x5)]) C dX8_readRange_117 rfl (by decide) rfl ?_
  refine x_iload C 4 dX8_readRange_118 rfl ?_
  refine x_if_ne (tgt := 130) C dX8_readRange_120 (by decide) (fun z9 => ?_) (fun z9 => ?_)
  · have h1 := h1.1 z9
    refine x_keep (L' := [(0, xm_r (some h)), (1, xm_r x1), (2, xm_i s0), (3, xm_i x3)]) C [1, 2, 0, 3] rfl ?_
    exact kp_X8_readRange_130 h x1 s0 x3 S kc ks C N hg hZ22 h1
  · have h1 := h1.2 z9
    refine x_iload_n C 0 dX8_readRange_123 rfl rfl ?_
    refine x_if_ne (tgt := 130) C dX8_readRange_124 (by decide) (fun z9 => ?_) (fun z9 => ?_)
    · have h1 := h1.1 z9
      refine x_keep (L' := [(0, xm_r (some h)), (1, xm_r x1), (2, xm_i s0), (3, xm_i x3)]) C [1, 2, 0, 3] rfl ?_
      exact kp_X8_readRange_130 h x1 s0 x3 S kc ks C N hg hZ22 h1
    · have h1 := h1.2 z9
      refine x_goto (tgt := 136) C dX8_readRange_127 (by decide) ?_
      refine x_keep (L' := [(0, xm_r (some h)), (1, xm_r x1)]) C [1, 2] rfl ?_
      exact kp_X8_readRange_136 h x1 S kc ks C N hg  h1
def wp_X8_readRange_116 (h : Nat) (x1 : Option Nat) (x3 : Int32) (x5 : Int32) (S : xm_S) (kc ks : Nat) (g : Option Nat → xm_S → Prop) (Z22 : Option Nat → Int32 → Int32 → xm_S → Nat → Nat → Prop) : Prop :=
  wp_X8_readRange_117 h x1 x3 x5 (0 : Int32) S kc ks g Z22
set_option maxRecDepth 100000 in
set_option maxHeartbeats 4000000 in
theorem kp_X8_readRange_116 {K : xm_K} (h : Nat) (x1 : Option Nat) (x3 : Int32) (x5 : Int32) (S : xm_S) (kc ks : Nat) {g : Option Nat → xm_S → Prop} {Z22 : Option Nat → Int32 → Int32 → xm_S → Nat → Nat → Prop} (C : xm_Cx K cX8_readRange RX8 6 (some ((FieldType.object "Portsmith$Range"))) rm_X8_readRange) (N : xm_Nx K) (hg : ∀ v S, g v S → xm_q K (some (xm_r v)) S) (hZ22 : ∀ x1 x2 x3 S kc ks, Z22 x1 x2 x3 S kc ks → xm_W K kc ks 22 [(0, xm_r (some h)), (1, xm_r x1), (2, xm_i x2), (3, xm_i x3)] [] S) (h1 : wp_X8_readRange_116 h x1 x3 x5 S kc ks g Z22) : xm_W K kc ks 116 [(0, xm_r (some h)), (1, xm_r x1), (3, xm_i x3), (5, xm_i x5)] [] S := by
  unfold wp_X8_readRange_116 at h1
  refine x_iconst (v := (0 : Int32)) C dX8_readRange_116 (by decide) ?_
  exact kp_X8_readRange_117 h x1 x3 x5 (0 : Int32) S kc ks C N hg hZ22 h1
def wp_X8_readRange_96 (h : Nat) (x1 : Option Nat) (x3 : Int32) (s0 : Int32) (S : xm_S) (kc ks : Nat) (g : Option Nat → xm_S → Prop) (Z22 : Option Nat → Int32 → Int32 → xm_S → Nat → Nat → Prop) : Prop :=
  (¬ s0 = 0 → wp_X8_readRange_116 h x1 x3 s0 S kc ks g Z22) ∧ (s0 = 0 → st_t S h = some (8, 0) ∧ kc ≤ 130 ∧ ks ≤ 450 ∧ wp_X8_takes h (nI 124) S (fun r10 S9 => (r10 = 0 → wp_X8_readRange_116 h x1 x3 s0 S9 kc ks g Z22) ∧ (¬ r10 = 0 → wp_X8_readRange_117 h x1 x3 s0 (1 : Int32) S9 kc ks g Z22)))
set_option maxRecDepth 100000 in
set_option maxHeartbeats 4000000 in
theorem kp_X8_readRange_96 {K : xm_K} (h : Nat) (x1 : Option Nat) (x3 : Int32) (s0 : Int32) (S : xm_S) (kc ks : Nat) {g : Option Nat → xm_S → Prop} {Z22 : Option Nat → Int32 → Int32 → xm_S → Nat → Nat → Prop} (C : xm_Cx K cX8_readRange RX8 6 (some ((FieldType.object "Portsmith$Range"))) rm_X8_readRange) (N : xm_Nx K) (hg : ∀ v S, g v S → xm_q K (some (xm_r v)) S) (hZ22 : ∀ x1 x2 x3 S kc ks, Z22 x1 x2 x3 S kc ks → xm_W K kc ks 22 [(0, xm_r (some h)), (1, xm_r x1), (2, xm_i x2), (3, xm_i x3)] [] S) (h1 : wp_X8_readRange_96 h x1 x3 s0 S kc ks g Z22) : xm_W K kc ks 96 [(0, xm_r (some h)), (1, xm_r x1), (3, xm_i x3)] [xm_i s0] S := by
  unfold wp_X8_readRange_96 at h1
  refine x_istore (L' := [(5, xm_i s0), (0, xm_r (some h)), (1, xm_r x1), (3, xm_i x3)]) C dX8_readRange_96 (by decide) rfl ?_
  refine x_iload C 0 dX8_readRange_98 rfl ?_
  refine x_if_ne (tgt := 116) C dX8_readRange_100 (by decide) (fun z9 => ?_) (fun z9 => ?_)
  · have h1 := h1.1 z9
    refine x_keep (L' := [(0, xm_r (some h)), (1, xm_r x1), (3, xm_i x3), (5, xm_i s0)]) C [1, 2, 3, 0] rfl ?_
    exact kp_X8_readRange_116 h x1 x3 s0 S kc ks C N hg hZ22 h1
  · have h1 := h1.2 z9
    refine x_aload_n C 1 dX8_readRange_103 rfl rfl ?_
    refine x_bipush (v := (nI 124)) C dX8_readRange_104 (by decide) ?_
    obtain ⟨ht6, h1⟩ := h1
    obtain ⟨hc7, hc8, h1⟩ := h1
    refine x_callV (rm' := rm_X8_takes) (n := h) C (kp_X8_takes_met h1) lk_38 gw_264 gw_265 xv_8 rfl rfl ht6 rfl (Nat.le_of_ble_eq_true rfl) ⟨Nat.le_of_ble_eq_true rfl, Nat.le_of_ble_eq_true rfl, hc7, hc8⟩ dX8_readRange_106 xm_kx (xm_ki (fun r10 S9 h1 => ?_))
    refine x_if_eq (tgt := 116) C dX8_readRange_109 (by decide) (fun z9 => ?_) (fun z9 => ?_)
    · have h1 := h1.1 z9
      refine x_keep (L' := [(0, xm_r (some h)), (1, xm_r x1), (3, xm_i x3), (5, xm_i s0)]) C [1, 2, 3, 0] rfl ?_
      exact kp_X8_readRange_116 h x1 x3 s0 S9 kc ks C N hg hZ22 h1
    · have h1 := h1.2 z9
      refine x_iconst (v := (1 : Int32)) C dX8_readRange_112 (by decide) ?_
      refine x_goto (tgt := 117) C dX8_readRange_113 (by decide) ?_
      refine x_keep (L' := [(0, xm_r (some h)), (1, xm_r x1), (3, xm_i x3), (5, xm_i s0)]) C [1, 2, 3, 0] rfl ?_
      exact kp_X8_readRange_117 h x1 x3 s0 (1 : Int32) S9 kc ks C N hg hZ22 h1
def wp_X8_readRange_95 (h : Nat) (x1 : Option Nat) (x3 : Int32) (S : xm_S) (kc ks : Nat) (g : Option Nat → xm_S → Prop) (Z22 : Option Nat → Int32 → Int32 → xm_S → Nat → Nat → Prop) : Prop :=
  wp_X8_readRange_96 h x1 x3 (0 : Int32) S kc ks g Z22
set_option maxRecDepth 100000 in
set_option maxHeartbeats 4000000 in
theorem kp_X8_readRange_95 {K : xm_K} (h : Nat) (x1 : Option Nat) (x3 : Int32) (S : xm_S) (kc ks : Nat) {g : Option Nat → xm_S → Prop} {Z22 : Option Nat → Int32 → Int32 → xm_S → Nat → Nat → Prop} (C : xm_Cx K cX8_readRange RX8 6 (some ((FieldType.object "Portsmith$Range"))) rm_X8_readRange) (N : xm_Nx K) (hg : ∀ v S, g v S → xm_q K (some (xm_r v)) S) (hZ22 : ∀ x1 x2 x3 S kc ks, Z22 x1 x2 x3 S kc ks → xm_W K kc ks 22 [(0, xm_r (some h)), (1, xm_r x1), (2, xm_i x2), (3, xm_i x3)] [] S) (h1 : wp_X8_readRange_95 h x1 x3 S kc ks g Z22) : xm_W K kc ks 95 [(0, xm_r (some h)), (1, xm_r x1), (3, xm_i x3)] [] S := by
  unfold wp_X8_readRange_95 at h1
  refine x_iconst (v := (0 : Int32)) C dX8_readRange_95 (by decide) ?_
  exact kp_X8_readRange_96 h x1 x3 (0 : Int32) S kc ks C N hg hZ22 h1
def wp_X8_readRange_74 (h : Nat) (x1 : Option Nat) (x3 : Int32) (x4 : Int32) (s0 : Option Nat) (s1 : Option Nat) (S : xm_S) (kc ks : Nat) (g : Option Nat → xm_S → Prop) (Z22 : Option Nat → Int32 → Int32 → xm_S → Nat → Nat → Prop) : Prop :=
  ∃ n11, s1 = some n11 ∧ st_t S n11 = some (6, 0) ∧ kc ≤ 130 ∧ ks ≤ 450 ∧ wp_X6_add n11 s0 S (fun S16 => (¬ x4 = 0 → wp_X8_readRange_95 h x1 x3 S16 kc ks g Z22) ∧ (x4 = 0 → st_t S16 h = some (8, 0) ∧ kc ≤ 130 ∧ ks ≤ 450 ∧ wp_X8_takes h (nI 44) S16 (fun r22 S21 => (r22 = 0 → wp_X8_readRange_95 h x1 x3 S21 kc ks g Z22) ∧ (¬ r22 = 0 → wp_X8_readRange_96 h x1 x3 (1 : Int32) S21 kc ks g Z22))))
set_option maxRecDepth 100000 in
set_option maxHeartbeats 4000000 in
theorem kp_X8_readRange_74 {K : xm_K} (h : Nat) (x1 : Option Nat) (x3 : Int32) (x4 : Int32) (s0 : Option Nat) (s1 : Option Nat) (S : xm_S) (kc ks : Nat) {g : Option Nat → xm_S → Prop} {Z22 : Option Nat → Int32 → Int32 → xm_S → Nat → Nat → Prop} (C : xm_Cx K cX8_readRange RX8 6 (some ((FieldType.object "Portsmith$Range"))) rm_X8_readRange) (N : xm_Nx K) (hg : ∀ v S, g v S → xm_q K (some (xm_r v)) S) (hZ22 : ∀ x1 x2 x3 S kc ks, Z22 x1 x2 x3 S kc ks → xm_W K kc ks 22 [(0, xm_r (some h)), (1, xm_r x1), (2, xm_i x2), (3, xm_i x3)] [] S) (h1 : wp_X8_readRange_74 h x1 x3 x4 s0 s1 S kc ks g Z22) : xm_W K kc ks 74 [(0, xm_r (some h)), (1, xm_r x1), (3, xm_i x3), (4, xm_i x4)] [xm_r s0, xm_r s1] S := by
  unfold wp_X8_readRange_74 at h1
  obtain ⟨n11, hr12, h1⟩ := h1
  obtain ⟨ht13, h1⟩ := h1
  obtain ⟨hc14, hc15, h1⟩ := h1
  refine x_callV (rm' := rm_X6_add) (n := n11) C (kp_X6_add_met h1) lk_45 gw_292 gw_293 xv_6 rfl hr12 ht13 rfl (Nat.le_of_ble_eq_true rfl) ⟨Nat.le_of_ble_eq_true rfl, Nat.le_of_ble_eq_true rfl, hc14, hc15⟩ dX8_readRange_74 xm_kx (xm_kv (fun S16 h1 => ?_))
  refine x_iload C 3 dX8_readRange_77 rfl ?_
  refine x_if_ne (tgt := 95) C dX8_readRange_79 (by decide) (fun z9 => ?_) (fun z9 => ?_)
  · have h1 := h1.1 z9
    refine x_keep (L' := [(0, xm_r (some h)), (1, xm_r x1), (3, xm_i x3)]) C [0, 1, 2] rfl ?_
    exact kp_X8_readRange_95 h x1 x3 S16 kc ks C N hg hZ22 h1
  · have h1 := h1.2 z9
    refine x_aload_n C 0 dX8_readRange_82 rfl rfl ?_
    refine x_bipush (v := (nI 44)) C dX8_readRange_83 (by decide) ?_
    obtain ⟨ht18, h1⟩ := h1
    obtain ⟨hc19, hc20, h1⟩ := h1
    refine x_callV (rm' := rm_X8_takes) (n := h) C (kp_X8_takes_met h1) lk_38 gw_264 gw_265 xv_8 rfl rfl ht18 rfl (Nat.le_of_ble_eq_true rfl) ⟨Nat.le_of_ble_eq_true rfl, Nat.le_of_ble_eq_true rfl, hc19, hc20⟩ dX8_readRange_85 xm_kx (xm_ki (fun r22 S21 h1 => ?_))
    refine x_if_eq (tgt := 95) C dX8_readRange_88 (by decide) (fun z9 => ?_) (fun z9 => ?_)
    · have h1 := h1.1 z9
      refine x_keep (L' := [(0, xm_r (some h)), (1, xm_r x1), (3, xm_i x3)]) C [0, 1, 2] rfl ?_
      exact kp_X8_readRange_95 h x1 x3 S21 kc ks C N hg hZ22 h1
    · have h1 := h1.2 z9
      refine x_iconst (v := (1 : Int32)) C dX8_readRange_91 (by decide) ?_
      refine x_goto (tgt := 96) C dX8_readRange_92 (by decide) ?_
      refine x_keep (L' := [(0, xm_r (some h)), (1, xm_r x1), (3, xm_i x3)]) C [0, 1, 2] rfl ?_
      exact kp_X8_readRange_96 h x1 x3 (1 : Int32) S21 kc ks C N hg hZ22 h1
def wp_X8_readRange_46 (h : Nat) (x1 : Option Nat) (x2 : Int32) (x3 : Int32) (s0 : Int32) (S : xm_S) (kc ks : Nat) (g : Option Nat → xm_S → Prop) (Z22 : Option Nat → Int32 → Int32 → xm_S → Nat → Nat → Prop) : Prop :=
  (s0 = 0 → st_t S h = some (8, 0) ∧ kc + 3 ≤ 130 ∧ ks + 10 ≤ 450 ∧ wp_X8_readTest h x2 S (fun r27 S26 => wp_X8_readRange_74 h x1 x3 s0 r27 x1 S26 (kc + 3) (ks + 10) g Z22)) ∧ (¬ s0 = 0 → kc + 1 ≤ 130 ∧ ks + 4 ≤ 450 ∧ ∃ n28, st_t S n28 = none ∧ ∀ S32, S32 = st_nw S n28 (9, 0) → (kc + 1) + 2 ≤ 130 ∧ (ks + 4) + 6 ≤ 450 ∧ wp_X9_init n28 (0 : Int32) (nI 10) (0 : Int32) (1 : Int32) S32 (fun S36 => wp_X8_readRange_74 h x1 x3 s0 (some n28) x1 S36 ((kc + 1) + 2) ((ks + 4) + 6) g Z22))
set_option maxRecDepth 100000 in
set_option maxHeartbeats 4000000 in
theorem kp_X8_readRange_46 {K : xm_K} (h : Nat) (x1 : Option Nat) (x2 : Int32) (x3 : Int32) (s0 : Int32) (S : xm_S) (kc ks : Nat) {g : Option Nat → xm_S → Prop} {Z22 : Option Nat → Int32 → Int32 → xm_S → Nat → Nat → Prop} (C : xm_Cx K cX8_readRange RX8 6 (some ((FieldType.object "Portsmith$Range"))) rm_X8_readRange) (N : xm_Nx K) (hg : ∀ v S, g v S → xm_q K (some (xm_r v)) S) (hZ22 : ∀ x1 x2 x3 S kc ks, Z22 x1 x2 x3 S kc ks → xm_W K kc ks 22 [(0, xm_r (some h)), (1, xm_r x1), (2, xm_i x2), (3, xm_i x3)] [] S) (h1 : wp_X8_readRange_46 h x1 x2 x3 s0 S kc ks g Z22) : xm_W K kc ks 46 [(0, xm_r (some h)), (1, xm_r x1), (2, xm_i x2), (3, xm_i x3)] [xm_i s0] S := by
  unfold wp_X8_readRange_46 at h1
  refine x_istore (L' := [(4, xm_i s0), (0, xm_r (some h)), (1, xm_r x1), (2, xm_i x2), (3, xm_i x3)]) C dX8_readRange_46 (by decide) rfl ?_
  refine x_aload_n C 2 dX8_readRange_48 rfl rfl ?_
  refine x_iload C 0 dX8_readRange_49 rfl ?_
  refine x_if_eq (tgt := 69) C dX8_readRange_51 (by decide) (fun z9 => ?_) (fun z9 => ?_)
  · have h1 := h1.1 z9
    refine x_aload_n C 1 dX8_readRange_69 rfl rfl ?_
    refine x_iload_n C 3 dX8_readRange_70 rfl rfl ?_
    obtain ⟨ht23, h1⟩ := h1
    obtain ⟨hc24, hc25, h1⟩ := h1
    refine x_callV (rm' := rm_X8_readTest) (n := h) C (kp_X8_readTest_met h1) lk_46 gw_296 gw_297 xv_8 rfl rfl ht23 rfl (Nat.le_of_ble_eq_true rfl) ⟨Nat.le_of_ble_eq_true rfl, Nat.le_of_ble_eq_true rfl, hc24, hc25⟩ dX8_readRange_71 xm_kx (xm_kr (fun r27 S26 h1 => ?_))
    refine x_keep (L' := [(0, xm_r (some h)), (1, xm_r x1), (3, xm_i x3), (4, xm_i s0)]) C [1, 2, 4, 0] rfl ?_
    exact kp_X8_readRange_74 h x1 x3 s0 r27 x1 S26 (kc + 3) (ks + 10) C N hg hZ22 h1
  · have h1 := h1.2 z9
    obtain ⟨hc30, hc31, h1⟩ := h1
    obtain ⟨n28, hn29, h1⟩ := h1
    refine x_new (n := n28) C xc_9 gw_275 hn29 hc30 hc31 dX8_readRange_54 ?_
    refine x_topS (fun S32 e33 => ?_)
    have h1 := h1 S32 e33
    refine x_dup_r C dX8_readRange_57 ?_
    refine x_iconst (v := (0 : Int32)) C dX8_readRange_58 (by decide) ?_
    refine x_bipush (v := (nI 10)) C dX8_readRange_59 (by decide) ?_
    refine x_iconst (v := (0 : Int32)) C dX8_readRange_61 (by decide) ?_
    refine x_iconst (v := (1 : Int32)) C dX8_readRange_62 (by decide) ?_
    obtain ⟨hc34, hc35, h1⟩ := h1
    refine x_callI (rm' := rm_X9_init) (n := n28) C (kp_X9_init_met h1) lk_42 gw_281 rfl rfl rfl (Nat.le_of_ble_eq_true rfl) ⟨Nat.le_of_ble_eq_true rfl, Nat.le_of_ble_eq_true rfl, hc34, hc35⟩ dX8_readRange_63 xm_kx (xm_kv (fun S36 h1 => ?_))
    refine x_goto (tgt := 74) C dX8_readRange_66 (by decide) ?_
    refine x_keep (L' := [(0, xm_r (some h)), (1, xm_r x1), (3, xm_i x3), (4, xm_i s0)]) C [1, 2, 4, 0] rfl ?_
    exact kp_X8_readRange_74 h x1 x3 s0 (some n28) x1 S36 ((kc + 1) + 2) ((ks + 4) + 6) C N hg hZ22 h1
def wp_X8_readRange_45 (h : Nat) (x1 : Option Nat) (x2 : Int32) (x3 : Int32) (S : xm_S) (kc ks : Nat) (g : Option Nat → xm_S → Prop) (Z22 : Option Nat → Int32 → Int32 → xm_S → Nat → Nat → Prop) : Prop :=
  wp_X8_readRange_46 h x1 x2 x3 (0 : Int32) S kc ks g Z22
set_option maxRecDepth 100000 in
set_option maxHeartbeats 4000000 in
theorem kp_X8_readRange_45 {K : xm_K} (h : Nat) (x1 : Option Nat) (x2 : Int32) (x3 : Int32) (S : xm_S) (kc ks : Nat) {g : Option Nat → xm_S → Prop} {Z22 : Option Nat → Int32 → Int32 → xm_S → Nat → Nat → Prop} (C : xm_Cx K cX8_readRange RX8 6 (some ((FieldType.object "Portsmith$Range"))) rm_X8_readRange) (N : xm_Nx K) (hg : ∀ v S, g v S → xm_q K (some (xm_r v)) S) (hZ22 : ∀ x1 x2 x3 S kc ks, Z22 x1 x2 x3 S kc ks → xm_W K kc ks 22 [(0, xm_r (some h)), (1, xm_r x1), (2, xm_i x2), (3, xm_i x3)] [] S) (h1 : wp_X8_readRange_45 h x1 x2 x3 S kc ks g Z22) : xm_W K kc ks 45 [(0, xm_r (some h)), (1, xm_r x1), (2, xm_i x2), (3, xm_i x3)] [] S := by
  unfold wp_X8_readRange_45 at h1
  refine x_iconst (v := (0 : Int32)) C dX8_readRange_45 (by decide) ?_
  exact kp_X8_readRange_46 h x1 x2 x3 (0 : Int32) S kc ks C N hg hZ22 h1
def wp_X8_readRange_22B (h : Nat) (x1 : Option Nat) (x2 : Int32) (x3 : Int32) (S : xm_S) (kc ks : Nat) (g : Option Nat → xm_S → Prop) (Z22 : Option Nat → Int32 → Int32 → xm_S → Nat → Nat → Prop) : Prop :=
  ((nI 40) < x3 → wp_X8_readRange_136 h x1 S kc ks g) ∧ (¬ (nI 40) < x3 → (x2 = 0 → wp_X8_readRange_45 h x1 x2 x3 S kc ks g Z22) ∧ (¬ x2 = 0 → st_t S h = some (8, 0) ∧ kc ≤ 130 ∧ ks ≤ 450 ∧ wp_X8_takes h (nI 42) S (fun r42 S41 => (r42 = 0 → wp_X8_readRange_45 h x1 x2 x3 S41 kc ks g Z22) ∧ (¬ r42 = 0 → wp_X8_readRange_46 h x1 x2 x3 (1 : Int32) S41 kc ks g Z22))))
def wp_X8_readRange_22 (h : Nat) (x1 : Option Nat) (x2 : Int32) (x3 : Int32) (S : xm_S) (kc ks : Nat) (g : Option Nat → xm_S → Prop) : Prop :=
  ∀ Z22 : Option Nat → Int32 → Int32 → xm_S → Nat → Nat → Prop, (∀ x1 x2 x3 S kc ks, wp_X8_readRange_22B h x1 x2 x3 S kc ks g Z22 → Z22 x1 x2 x3 S kc ks) → Z22 x1 x2 x3 S kc ks
set_option maxRecDepth 100000 in
set_option maxHeartbeats 4000000 in
theorem kp_X8_readRange_22B {K : xm_K} (h : Nat) (x1 : Option Nat) (x2 : Int32) (x3 : Int32) (S : xm_S) (kc ks : Nat) {g : Option Nat → xm_S → Prop} {Z22 : Option Nat → Int32 → Int32 → xm_S → Nat → Nat → Prop} (C : xm_Cx K cX8_readRange RX8 6 (some ((FieldType.object "Portsmith$Range"))) rm_X8_readRange) (N : xm_Nx K) (hg : ∀ v S, g v S → xm_q K (some (xm_r v)) S) (hZ22 : ∀ x1 x2 x3 S kc ks, Z22 x1 x2 x3 S kc ks → xm_W K kc ks 22 [(0, xm_r (some h)), (1, xm_r x1), (2, xm_i x2), (3, xm_i x3)] [] S) (h1 : wp_X8_readRange_22B h x1 x2 x3 S kc ks g Z22) : xm_W K kc ks 22 [(0, xm_r (some h)), (1, xm_r x1), (2, xm_i x2), (3, xm_i x3)] [] S := by
  unfold wp_X8_readRange_22B at h1
  refine x_iload_n C 3 dX8_readRange_22 rfl rfl ?_
  refine x_bipush (v := (nI 40)) C dX8_readRange_23 (by decide) ?_
  refine x_icmp_gt (tgt := 136) C dX8_readRange_25 (by decide) (fun z9 => ?_) (fun z9 => ?_)
  · have h1 := h1.1 z9
    refine x_keep (L' := [(0, xm_r (some h)), (1, xm_r x1)]) C [0, 1] rfl ?_
    exact kp_X8_readRange_136 h x1 S kc ks C N hg  h1
  · have h1 := h1.2 z9
    refine x_iload_n C 2 dX8_readRange_28 rfl rfl ?_
    refine x_if_eq (tgt := 45) C dX8_readRange_29 (by decide) (fun z9 => ?_) (fun z9 => ?_)
    · have h1 := h1.1 z9
      exact kp_X8_readRange_45 h x1 x2 x3 S kc ks C N hg hZ22 h1
    · have h1 := h1.2 z9
      refine x_aload_n C 0 dX8_readRange_32 rfl rfl ?_
      refine x_bipush (v := (nI 42)) C dX8_readRange_33 (by decide) ?_
      obtain ⟨ht38, h1⟩ := h1
      obtain ⟨hc39, hc40, h1⟩ := h1
      refine x_callV (rm' := rm_X8_takes) (n := h) C (kp_X8_takes_met h1) lk_38 gw_264 gw_265 xv_8 rfl rfl ht38 rfl (Nat.le_of_ble_eq_true rfl) ⟨Nat.le_of_ble_eq_true rfl, Nat.le_of_ble_eq_true rfl, hc39, hc40⟩ dX8_readRange_35 xm_kx (xm_ki (fun r42 S41 h1 => ?_))
      refine x_if_eq (tgt := 45) C dX8_readRange_38 (by decide) (fun z9 => ?_) (fun z9 => ?_)
      · have h1 := h1.1 z9
        exact kp_X8_readRange_45 h x1 x2 x3 S41 kc ks C N hg hZ22 h1
      · have h1 := h1.2 z9
        refine x_iconst (v := (1 : Int32)) C dX8_readRange_41 (by decide) ?_
        refine x_goto (tgt := 46) C dX8_readRange_42 (by decide) ?_
        exact kp_X8_readRange_46 h x1 x2 x3 (1 : Int32) S41 kc ks C N hg hZ22 h1
theorem kp_X8_readRange_22 {K : xm_K} (h : Nat) (x1 : Option Nat) (x2 : Int32) (x3 : Int32) (S : xm_S) (kc ks : Nat) {g : Option Nat → xm_S → Prop} (C : xm_Cx K cX8_readRange RX8 6 (some ((FieldType.object "Portsmith$Range"))) rm_X8_readRange) (N : xm_Nx K) (hg : ∀ v S, g v S → xm_q K (some (xm_r v)) S)  (h1 : wp_X8_readRange_22 h x1 x2 x3 S kc ks g) : xm_W K kc ks 22 [(0, xm_r (some h)), (1, xm_r x1), (2, xm_i x2), (3, xm_i x3)] [] S :=
  h1 (fun x1 x2 x3 S kc ks => xm_W K kc ks 22 [(0, xm_r (some h)), (1, xm_r x1), (2, xm_i x2), (3, xm_i x3)] [] S) (fun x1 x2 x3 S kc ks hb => kp_X8_readRange_22B h x1 x2 x3 S kc ks C N hg (fun x1 x2 x3 S kc ks hz => hz) hb)
def wp_X8_readRange (h : Nat)  (S : xm_S) (g : Option Nat → xm_S → Prop) : Prop :=
  0 + 1 ≤ 130 ∧ 0 + 2 ≤ 450 ∧ ∃ n43, st_t S n43 = none ∧ ∀ S47, S47 = st_nw S n43 (6, 0) → (0 + 1) + 1 ≤ 130 ∧ (0 + 2) + 20 ≤ 450 ∧ wp_X6_init n43 S47 (fun S51 => st_t S51 h = some (8, 0) ∧ ∀ S54, S54 = st_pi S51 h 2 (0 : Int32) → ∀ S56, S56 = st_pi S54 h 3 (0 : Int32) → wp_X8_readRange_22 h (some n43) (1 : Int32) (0 : Int32) S56 ((0 + 1) + 1) ((0 + 2) + 20) g)
set_option maxRecDepth 100000 in
set_option maxHeartbeats 4000000 in
theorem kp_X8_readRange {K : xm_K} (h : Nat)  (S : xm_S) {g : Option Nat → xm_S → Prop} (C : xm_Cx K cX8_readRange RX8 6 (some ((FieldType.object "Portsmith$Range"))) rm_X8_readRange) (N : xm_Nx K) (hg : ∀ v S, g v S → xm_q K (some (xm_r v)) S)  (h1 : wp_X8_readRange h  S g) : xm_W K 0 0 0 [(0, xm_r (some h))] [] S := by
  unfold wp_X8_readRange at h1
  obtain ⟨hc45, hc46, h1⟩ := h1
  obtain ⟨n43, hn44, h1⟩ := h1
  refine x_new (n := n43) C xc_6 gw_298 hn44 hc45 hc46 dX8_readRange_0 ?_
  refine x_topS (fun S47 e48 => ?_)
  have h1 := h1 S47 e48
  refine x_dup_r C dX8_readRange_3 ?_
  obtain ⟨hc49, hc50, h1⟩ := h1
  refine x_callIN (rm' := rm_X6_init) (n := n43) RX11 C (kp_X6_init_met h1) (by decide +kernel) gw_223 gw_299 ⟨by decide, by decide, by decide +kernel⟩ gw_300 rfl rfl rfl (Nat.le_of_ble_eq_true rfl) ⟨Nat.le_of_ble_eq_true rfl, Nat.le_of_ble_eq_true rfl, hc49, hc50⟩ dX8_readRange_4 xm_kx (xm_kv (fun S51 h1 => ?_))
  refine x_astore_n (L' := [(1, xm_r (some n43)), (0, xm_r (some h))]) C dX8_readRange_7 rfl (by decide) rfl ?_
  refine x_iconst (v := (1 : Int32)) C dX8_readRange_8 (by decide) ?_
  refine x_istore_n (L' := [(2, xm_i (1 : Int32)), (1, xm_r (some n43)), (0, xm_r (some h))]) C dX8_readRange_9 rfl (by decide) rfl ?_
  refine x_aload_n C 2 dX8_readRange_10 rfl rfl ?_
  refine x_iconst (v := (0 : Int32)) C dX8_readRange_11 (by decide) ?_
  obtain ⟨ht53, h1⟩ := h1
  refine x_putf_i (n := h) C rfl ht53 fd_89 xc_8 (by decide) rfl ⟨rfl, rfl⟩ dX8_readRange_12 ?_
  refine x_topS (fun S54 e55 => ?_)
  have h1 := h1 S54 e55
  refine x_aload_n C 2 dX8_readRange_15 rfl rfl ?_
  refine x_iconst (v := (0 : Int32)) C dX8_readRange_16 (by decide) ?_
  refine x_putf_i (n := h) C rfl (tk_p e55 ht53) fd_88 xc_8 (by decide) rfl (xm_nz (by decide)) dX8_readRange_17 ?_
  refine x_topS (fun S56 e57 => ?_)
  have h1 := h1 S56 e57
  refine x_iconst (v := (0 : Int32)) C dX8_readRange_20 (by decide) ?_
  refine x_istore_n (L' := [(3, xm_i (0 : Int32)), (2, xm_i (1 : Int32)), (1, xm_r (some n43)), (0, xm_r (some h))]) C dX8_readRange_21 rfl (by decide) rfl ?_
  refine x_keep (L' := [(0, xm_r (some h)), (1, xm_r (some n43)), (2, xm_i (1 : Int32)), (3, xm_i (0 : Int32))]) C [3, 2, 1, 0] rfl ?_
  exact kp_X8_readRange_22 h (some n43) (1 : Int32) (0 : Int32) S56 ((0 + 1) + 1) ((0 + 2) + 20) C N hg  h1
theorem kp_X8_readRange_met {h : Nat}  {S : xm_S} {g : Option Nat → xm_S → Prop}  (h1 : wp_X8_readRange h  S g) : xm_Met yX8_readRange cX8_readRange 6 (some ((FieldType.object "Portsmith$Range"))) rm_X8_readRange [xm_r (some h)] S (xm_qr g) xm_nox :=
  xm_ofW RX8 (by decide +kernel) rfl (Nat.le_of_ble_eq_true rfl) (fun K C N hq hx hi => kp_X8_readRange h  S C N (fun v S h => by rw [hq]; exact ⟨v, rfl, h⟩)  h1)
def rm_X8_faultPlace : Room := { frames := 5, cells := 130, slots := 450, locals := 129 }
theorem dX8_faultPlace_0 : decode cX8_faultPlace 0 = .ok (.aload_n 0, 1) := by decide +kernel
theorem dX8_faultPlace_1 : decode cX8_faultPlace 1 = .ok (.invokevirtual 26, 3) := by decide +kernel
theorem dX8_faultPlace_4 : decode cX8_faultPlace 4 = .ok (.ifnonnull 10, 3) := by decide +kernel
theorem dX8_faultPlace_7 : decode cX8_faultPlace 7 = .ok (.aload_n 0, 1) := by decide +kernel
theorem dX8_faultPlace_8 : decode cX8_faultPlace 8 = .ok (.getfield 19, 3) := by decide +kernel
theorem dX8_faultPlace_11 : decode cX8_faultPlace 11 = .ok (.goto 4, 3) := by decide +kernel
theorem dX8_faultPlace_14 : decode cX8_faultPlace 14 = .ok (.iconst (-1), 1) := by decide +kernel
theorem dX8_faultPlace_15 : decode cX8_faultPlace 15 = .ok (.ireturn, 1) := by decide +kernel
def wp_X8_faultPlace_15 (h : Nat) (s0 : Int32) (S : xm_S) (g : Int32 → xm_S → Prop) : Prop :=
  g s0 S
set_option maxRecDepth 100000 in
set_option maxHeartbeats 4000000 in
theorem kp_X8_faultPlace_15 {K : xm_K} (h : Nat) (s0 : Int32) (S : xm_S) {g : Int32 → xm_S → Prop} (C : xm_Cx K cX8_faultPlace RX8 1 (some (FieldType.int)) rm_X8_faultPlace) (N : xm_Nx K) (hg : ∀ v S, g v S → xm_q K (some (xm_i v)) S)  (h1 : wp_X8_faultPlace_15 h s0 S g) : xm_W K 130 450 15 [] [xm_i s0] S := by
  unfold wp_X8_faultPlace_15 at h1
  exact x_iret C (Nat.le_of_ble_eq_true rfl) (Nat.le_of_ble_eq_true rfl) rfl dX8_faultPlace_15 (hg _ _ h1)
def wp_X8_faultPlace (h : Nat)  (S : xm_S) (g : Int32 → xm_S → Prop) : Prop :=
  st_t S h = some (8, 0) ∧ wp_X8_readRange h S (fun r3 S2 => (¬ r3 = none → wp_X8_faultPlace_15 h (-1 : Int32) S2 g) ∧ (r3 = none → st_t S2 h = some (8, 0) ∧ wp_X8_faultPlace_15 h (st_i S2 h 2) S2 g))
set_option maxRecDepth 100000 in
set_option maxHeartbeats 4000000 in
theorem kp_X8_faultPlace {K : xm_K} (h : Nat)  (S : xm_S) {g : Int32 → xm_S → Prop} (C : xm_Cx K cX8_faultPlace RX8 1 (some (FieldType.int)) rm_X8_faultPlace) (N : xm_Nx K) (hg : ∀ v S, g v S → xm_q K (some (xm_i v)) S)  (h1 : wp_X8_faultPlace h  S g) : xm_W K 0 0 0 [(0, xm_r (some h))] [] S := by
  unfold wp_X8_faultPlace at h1
  refine x_aload_n C 0 dX8_faultPlace_0 rfl rfl ?_
  obtain ⟨ht1, h1⟩ := h1
  refine x_callV (rm' := rm_X8_readRange) (n := h) C (kp_X8_readRange_met h1) lk_47 gw_303 gw_304 xv_8 rfl rfl ht1 rfl (Nat.le_of_ble_eq_true rfl) ⟨Nat.le_of_ble_eq_true rfl, Nat.le_of_ble_eq_true rfl, (Nat.le_of_ble_eq_true rfl), (Nat.le_of_ble_eq_true rfl)⟩ dX8_faultPlace_1 xm_kx (xm_kr (fun r3 S2 h1 => ?_))
  refine x_ifnonnull (tgt := 14) C dX8_faultPlace_4 (by decide) (fun z9 => ?_) (fun z9 => ?_)
  · have h1 := h1.1 z9
    refine x_iconst (v := (-1 : Int32)) C dX8_faultPlace_14 (by decide) ?_
    refine x_keep (L' := []) C [] rfl ?_
    exact kp_X8_faultPlace_15 h (-1 : Int32) S2 C N hg  h1
  · have h1 := h1.2 z9
    refine x_aload_n C 0 dX8_faultPlace_7 rfl rfl ?_
    obtain ⟨ht4, h1⟩ := h1
    refine x_getf_i (n := h) C rfl ht4 fd_89 (by decide) dX8_faultPlace_8 ?_
    refine x_goto (tgt := 15) C dX8_faultPlace_11 (by decide) ?_
    refine x_keep (L' := []) C [] rfl ?_
    exact kp_X8_faultPlace_15 h (st_i S2 h 2) S2 C N hg  h1
theorem kp_X8_faultPlace_met {h : Nat}  {S : xm_S} {g : Int32 → xm_S → Prop}  (h1 : wp_X8_faultPlace h  S g) : xm_Met yX8_faultPlace cX8_faultPlace 1 (some (FieldType.int)) rm_X8_faultPlace [xm_r (some h)] S (xm_qi g) xm_nox :=
  xm_ofW RX8 (by decide +kernel) rfl (Nat.le_of_ble_eq_true rfl) (fun K C N hq hx hi => kp_X8_faultPlace h  S C N (fun v S h => by rw [hq]; exact ⟨v, rfl, h⟩)  h1)
def rm_X8_init : Room := { frames := 1, cells := 1, slots := 40, locals := 20 }
theorem dX8_init_0 : decode cX8_init 0 = .ok (.aload_n 0, 1) := by decide +kernel
theorem dX8_init_1 : decode cX8_init 1 = .ok (.invokespecial 3, 3) := by decide +kernel
theorem dX8_init_4 : decode cX8_init 4 = .ok (.aload_n 0, 1) := by decide +kernel
theorem dX8_init_5 : decode cX8_init 5 = .ok (.bipush 40, 2) := by decide +kernel
theorem dX8_init_7 : decode cX8_init 7 = .ok (.newarray .char, 2) := by decide +kernel
theorem dX8_init_9 : decode cX8_init 9 = .ok (.putfield 9, 3) := by decide +kernel
theorem dX8_init_12 : decode cX8_init 12 = .ok (.aload_n 0, 1) := by decide +kernel
theorem dX8_init_13 : decode cX8_init 13 = .ok (.iconst 0, 1) := by decide +kernel
theorem dX8_init_14 : decode cX8_init 14 = .ok (.putfield 15, 3) := by decide +kernel
theorem dX8_init_17 : decode cX8_init 17 = .ok (.aload_n 0, 1) := by decide +kernel
theorem dX8_init_18 : decode cX8_init 18 = .ok (.iconst 0, 1) := by decide +kernel
theorem dX8_init_19 : decode cX8_init 19 = .ok (.putfield 19, 3) := by decide +kernel
theorem dX8_init_22 : decode cX8_init 22 = .ok (.aload_n 0, 1) := by decide +kernel
theorem dX8_init_23 : decode cX8_init 23 = .ok (.iconst 0, 1) := by decide +kernel
theorem dX8_init_24 : decode cX8_init 24 = .ok (.putfield 22, 3) := by decide +kernel
theorem dX8_init_27 : decode cX8_init 27 = .ok (.return_, 1) := by decide +kernel
def wp_X8_init (h : Nat)  (S : xm_S) (g : xm_S → Prop) : Prop :=
  ∃ n1, st_t S n1 = none ∧ ∀ S3, S3 = st_nw S n1 (102, 40) → st_t S3 h = some (8, 0) ∧ ∀ S6, S6 = st_pr S3 h 0 (some n1) → ∀ S8, S8 = st_pi S6 h 1 (0 : Int32) → ∀ S10, S10 = st_pi S8 h 2 (0 : Int32) → ∀ S12, S12 = st_pi S10 h 3 (0 : Int32) → g S12
set_option maxRecDepth 100000 in
set_option maxHeartbeats 4000000 in
theorem kp_X8_init {K : xm_K} (h : Nat)  (S : xm_S) {g : xm_S → Prop} (C : xm_Cx K cX8_init RX8 1 none rm_X8_init) (N : xm_Nx K) (hini : xm_init K) (hg : ∀ S, g S → xm_q K none S)  (h1 : wp_X8_init h  S g) : xm_W K 0 0 0 [(0, xm_r (some h))] [] S := by
  unfold wp_X8_init at h1
  refine x_aload_n C 0 dX8_init_0 rfl rfl ?_
  refine x_objInit (n := h) C rfl gw_305 (Nat.le_of_ble_eq_true rfl) (Nat.le_of_ble_eq_true rfl) (Nat.le_of_ble_eq_true rfl) dX8_init_1 gw_1 gw_2 ?_
  refine x_aload_n C 0 dX8_init_4 rfl rfl ?_
  refine x_bipush (v := (nI 40)) C dX8_init_5 (by decide) ?_
  obtain ⟨n1, hn2, h1⟩ := h1
  refine x_newa_c (n := n1) (len := 40) C gw_306 (by decide) (by decide) hn2 (Nat.le_of_ble_eq_true rfl) (Nat.le_of_ble_eq_true rfl) dX8_init_7 ?_
  refine x_topS (fun S3 e4 => ?_)
  have h1 := h1 S3 e4
  obtain ⟨ht5, h1⟩ := h1
  refine x_putfF_r (n := h) C rfl ht5 fd_87 xc_8 (by decide) rfl hini rfl (xm_nr rfl) dX8_init_9 ?_
  refine x_topS (fun S6 e7 => ?_)
  have h1 := h1 S6 e7
  refine x_aload_n C 0 dX8_init_12 rfl rfl ?_
  refine x_iconst (v := (0 : Int32)) C dX8_init_13 (by decide) ?_
  refine x_putf_i (n := h) C rfl (tk_p e7 ht5) fd_86 xc_8 (by decide) rfl ⟨rfl, rfl⟩ dX8_init_14 ?_
  refine x_topS (fun S8 e9 => ?_)
  have h1 := h1 S8 e9
  refine x_aload_n C 0 dX8_init_17 rfl rfl ?_
  refine x_iconst (v := (0 : Int32)) C dX8_init_18 (by decide) ?_
  refine x_putf_i (n := h) C rfl (tk_p e9 (tk_p e7 ht5)) fd_89 xc_8 (by decide) rfl ⟨rfl, rfl⟩ dX8_init_19 ?_
  refine x_topS (fun S10 e11 => ?_)
  have h1 := h1 S10 e11
  refine x_aload_n C 0 dX8_init_22 rfl rfl ?_
  refine x_iconst (v := (0 : Int32)) C dX8_init_23 (by decide) ?_
  refine x_putf_i (n := h) C rfl (tk_p e11 (tk_p e9 (tk_p e7 ht5))) fd_88 xc_8 (by decide) rfl (xm_nz (by decide)) dX8_init_24 ?_
  refine x_topS (fun S12 e13 => ?_)
  have h1 := h1 S12 e13
  exact x_vret C (Nat.le_of_ble_eq_true rfl) (Nat.le_of_ble_eq_true rfl) rfl dX8_init_27 (hg _ h1)
theorem kp_X8_init_met {h : Nat}  {S : xm_S} {g : xm_S → Prop}  (h1 : wp_X8_init h  S g) : xm_Met yX8_init cX8_init 1 none rm_X8_init [xm_r (some h)] S (xm_qv g) xm_nox :=
  xm_ofW RX8 (by decide +kernel) rfl (Nat.le_of_ble_eq_true rfl) (fun K C N hq hx hi => kp_X8_init h  S C N (hi rfl) (fun S h => by rw [hq]; exact ⟨rfl, h⟩)  h1)
def rm_X10_addFile : Room := { frames := 1, cells := 0, slots := 0, locals := 20 }
theorem dX10_addFile_0 : decode cX10_addFile 0 = .ok (.aload_n 0, 1) := by decide +kernel
theorem dX10_addFile_1 : decode cX10_addFile 1 = .ok (.getfield 54, 3) := by decide +kernel
theorem dX10_addFile_4 : decode cX10_addFile 4 = .ok (.iconst 3, 1) := by decide +kernel
theorem dX10_addFile_5 : decode cX10_addFile 5 = .ok (.if_icmp .ge 43, 3) := by decide +kernel
theorem dX10_addFile_8 : decode cX10_addFile 8 = .ok (.aload_n 0, 1) := by decide +kernel
theorem dX10_addFile_9 : decode cX10_addFile 9 = .ok (.getfield 44, 3) := by decide +kernel
theorem dX10_addFile_12 : decode cX10_addFile 12 = .ok (.aload_n 0, 1) := by decide +kernel
theorem dX10_addFile_13 : decode cX10_addFile 13 = .ok (.getfield 54, 3) := by decide +kernel
theorem dX10_addFile_16 : decode cX10_addFile 16 = .ok (.iload_n 1, 1) := by decide +kernel
theorem dX10_addFile_17 : decode cX10_addFile 17 = .ok (.iastore, 1) := by decide +kernel
theorem dX10_addFile_18 : decode cX10_addFile 18 = .ok (.aload_n 0, 1) := by decide +kernel
theorem dX10_addFile_19 : decode cX10_addFile 19 = .ok (.getfield 47, 3) := by decide +kernel
theorem dX10_addFile_22 : decode cX10_addFile 22 = .ok (.aload_n 0, 1) := by decide +kernel
theorem dX10_addFile_23 : decode cX10_addFile 23 = .ok (.getfield 54, 3) := by decide +kernel
theorem dX10_addFile_26 : decode cX10_addFile 26 = .ok (.iload_n 2, 1) := by decide +kernel
theorem dX10_addFile_27 : decode cX10_addFile 27 = .ok (.iastore, 1) := by decide +kernel
theorem dX10_addFile_28 : decode cX10_addFile 28 = .ok (.aload_n 0, 1) := by decide +kernel
theorem dX10_addFile_29 : decode cX10_addFile 29 = .ok (.getfield 50, 3) := by decide +kernel
theorem dX10_addFile_32 : decode cX10_addFile 32 = .ok (.aload_n 0, 1) := by decide +kernel
theorem dX10_addFile_33 : decode cX10_addFile 33 = .ok (.getfield 54, 3) := by decide +kernel
theorem dX10_addFile_36 : decode cX10_addFile 36 = .ok (.iload_n 3, 1) := by decide +kernel
theorem dX10_addFile_37 : decode cX10_addFile 37 = .ok (.bastore, 1) := by decide +kernel
theorem dX10_addFile_38 : decode cX10_addFile 38 = .ok (.aload_n 0, 1) := by decide +kernel
theorem dX10_addFile_39 : decode cX10_addFile 39 = .ok (.dup, 1) := by decide +kernel
theorem dX10_addFile_40 : decode cX10_addFile 40 = .ok (.getfield 54, 3) := by decide +kernel
theorem dX10_addFile_43 : decode cX10_addFile 43 = .ok (.iconst 1, 1) := by decide +kernel
theorem dX10_addFile_44 : decode cX10_addFile 44 = .ok (.iadd, 1) := by decide +kernel
theorem dX10_addFile_45 : decode cX10_addFile 45 = .ok (.putfield 54, 3) := by decide +kernel
theorem dX10_addFile_48 : decode cX10_addFile 48 = .ok (.return_, 1) := by decide +kernel
def wp_X10_addFile_48 (h : Nat)  (S : xm_S) (g : xm_S → Prop) : Prop :=
  g S
set_option maxRecDepth 100000 in
set_option maxHeartbeats 4000000 in
theorem kp_X10_addFile_48 {K : xm_K} (h : Nat)  (S : xm_S) {g : xm_S → Prop} (C : xm_Cx K cX10_addFile RX10 4 none rm_X10_addFile) (N : xm_Nx K) (hg : ∀ S, g S → xm_q K none S)  (h1 : wp_X10_addFile_48 h  S g) : xm_W K 0 0 48 [] [] S := by
  unfold wp_X10_addFile_48 at h1
  exact x_vret C (Nat.le_of_ble_eq_true rfl) (Nat.le_of_ble_eq_true rfl) rfl dX10_addFile_48 (hg _ h1)
def wp_X10_addFile (h : Nat) (x1 : Int32) (x2 : Int32) (x3 : Int32) (S : xm_S) (g : xm_S → Prop) : Prop :=
  st_t S h = some (10, 0) ∧ ((nI 3) ≤ (st_i S h 16) → wp_X10_addFile_48 h S g) ∧ (¬ (nI 3) ≤ (st_i S h 16) → ∃ n2, (st_r S h 13) = some n2 ∧ ∃ z5, st_t S n2 = some (100, z5) ∧ vp_in (st_i S h 16) z5 ∧ ∀ S7, S7 = st_pi S n2 ((st_i S h 16)).toNatClampNeg x1 → ∃ n9, (st_r S7 h 14) = some n9 ∧ ∃ z12, st_t S7 n9 = some (100, z12) ∧ vp_in (st_i S7 h 16) z12 ∧ ∀ S14, S14 = st_pi S7 n9 ((st_i S7 h 16)).toNatClampNeg x2 → ∃ n16, (st_r S14 h 15) = some n16 ∧ ∃ z19, st_t S14 n16 = some (101, z19) ∧ vp_in (st_i S14 h 16) z19 ∧ (x3 = 0 ∨ x3 = 1) ∧ ∀ S22, S22 = st_pi S14 n16 ((st_i S14 h 16)).toNatClampNeg x3 → ∀ S24, S24 = st_pi S22 h 16 ((st_i S22 h 16) + (1 : Int32)) → wp_X10_addFile_48 h S24 g)
set_option maxRecDepth 100000 in
set_option maxHeartbeats 4000000 in
theorem kp_X10_addFile {K : xm_K} (h : Nat) (x1 : Int32) (x2 : Int32) (x3 : Int32) (S : xm_S) {g : xm_S → Prop} (C : xm_Cx K cX10_addFile RX10 4 none rm_X10_addFile) (N : xm_Nx K) (hg : ∀ S, g S → xm_q K none S)  (h1 : wp_X10_addFile h x1 x2 x3 S g) : xm_W K 0 0 0 [(0, xm_r (some h)), (1, xm_i x1), (2, xm_i x2), (3, xm_i x3)] [] S := by
  unfold wp_X10_addFile at h1
  refine x_aload_n C 0 dX10_addFile_0 rfl rfl ?_
  obtain ⟨ht1, h1⟩ := h1
  refine x_getf_i (n := h) C rfl ht1 fd_93 (by decide) dX10_addFile_1 ?_
  refine x_iconst (v := (nI 3)) C dX10_addFile_4 (by decide) ?_
  refine x_icmp_ge (tgt := 48) C dX10_addFile_5 (by decide) (fun z9 => ?_) (fun z9 => ?_)
  · have h1 := h1.1 z9
    refine x_keep (L' := []) C [] rfl ?_
    exact kp_X10_addFile_48 h S C N hg  h1
  · have h1 := h1.2 z9
    refine x_aload_n C 0 dX10_addFile_8 rfl rfl ?_
    refine x_getf_r (n := h) C rfl ht1 fd_94 (by decide) dX10_addFile_9 ?_
    refine x_aload_n C 0 dX10_addFile_12 rfl rfl ?_
    refine x_getf_i (n := h) C rfl ht1 fd_93 (by decide) dX10_addFile_13 ?_
    refine x_iload_n C 1 dX10_addFile_16 rfl rfl ?_
    obtain ⟨n2, hr3, h1⟩ := h1
    obtain ⟨z5, ht4, h1⟩ := h1
    obtain ⟨hi6, h1⟩ := h1
    refine x_iast (n := n2) C hr3 ht4 hi6 dX10_addFile_17 ?_
    refine x_topS (fun S7 e8 => ?_)
    have h1 := h1 S7 e8
    refine x_aload_n C 0 dX10_addFile_18 rfl rfl ?_
    refine x_getf_r (n := h) C rfl (tk_p e8 ht1) fd_95 (by decide) dX10_addFile_19 ?_
    refine x_aload_n C 0 dX10_addFile_22 rfl rfl ?_
    refine x_getf_i (n := h) C rfl (tk_p e8 ht1) fd_93 (by decide) dX10_addFile_23 ?_
    refine x_iload_n C 2 dX10_addFile_26 rfl rfl ?_
    obtain ⟨n9, hr10, h1⟩ := h1
    obtain ⟨z12, ht11, h1⟩ := h1
    obtain ⟨hi13, h1⟩ := h1
    refine x_iast (n := n9) C hr10 ht11 hi13 dX10_addFile_27 ?_
    refine x_topS (fun S14 e15 => ?_)
    have h1 := h1 S14 e15
    refine x_aload_n C 0 dX10_addFile_28 rfl rfl ?_
    refine x_getf_r (n := h) C rfl (tk_p e15 (tk_p e8 ht1)) fd_96 (by decide) dX10_addFile_29 ?_
    refine x_aload_n C 0 dX10_addFile_32 rfl rfl ?_
    refine x_getf_i (n := h) C rfl (tk_p e15 (tk_p e8 ht1)) fd_93 (by decide) dX10_addFile_33 ?_
    refine x_iload_n C 3 dX10_addFile_36 rfl rfl ?_
    obtain ⟨n16, hr17, h1⟩ := h1
    obtain ⟨z19, ht18, h1⟩ := h1
    obtain ⟨hi20, h1⟩ := h1
    obtain ⟨hz21, h1⟩ := h1
    refine x_zast (n := n16) C hr17 ht18 hi20 hz21 dX10_addFile_37 ?_
    refine x_topS (fun S22 e23 => ?_)
    have h1 := h1 S22 e23
    refine x_aload_n C 0 dX10_addFile_38 rfl rfl ?_
    refine x_dup_r C dX10_addFile_39 ?_
    refine x_getf_i (n := h) C rfl (tk_p e23 (tk_p e15 (tk_p e8 ht1))) fd_93 (by decide) dX10_addFile_40 ?_
    refine x_iconst (v := (1 : Int32)) C dX10_addFile_43 (by decide) ?_
    refine x_iadd C dX10_addFile_44 ?_
    refine x_putf_i (n := h) C rfl (tk_p e23 (tk_p e15 (tk_p e8 ht1))) fd_93 xc_10 (by decide) rfl ⟨rfl, rfl⟩ dX10_addFile_45 ?_
    refine x_topS (fun S24 e25 => ?_)
    have h1 := h1 S24 e25
    refine x_keep (L' := []) C [] rfl ?_
    exact kp_X10_addFile_48 h S24 C N hg  h1
theorem kp_X10_addFile_met {h : Nat} {x1 : Int32} {x2 : Int32} {x3 : Int32} {S : xm_S} {g : xm_S → Prop}  (h1 : wp_X10_addFile h x1 x2 x3 S g) : xm_Met yX10_addFile cX10_addFile 4 none rm_X10_addFile [xm_r (some h), xm_i x1, xm_i x2, xm_i x3] S (xm_qv g) xm_nox :=
  xm_ofW RX10 (by decide +kernel) rfl (Nat.le_of_ble_eq_true rfl) (fun K C N hq hx hi => kp_X10_addFile h x1 x2 x3 S C N (fun S h => by rw [hq]; exact ⟨rfl, h⟩)  h1)
def rm_X10_givenBy : Room := { frames := 1, cells := 0, slots := 0, locals := 20 }
theorem dX10_givenBy_0 : decode cX10_givenBy 0 = .ok (.aload_n 0, 1) := by decide +kernel
theorem dX10_givenBy_1 : decode cX10_givenBy 1 = .ok (.getfield 57, 3) := by decide +kernel
theorem dX10_givenBy_4 : decode cX10_givenBy 4 = .ok (.iload_n 1, 1) := by decide +kernel
theorem dX10_givenBy_5 : decode cX10_givenBy 5 = .ok (.iaload, 1) := by decide +kernel
theorem dX10_givenBy_6 : decode cX10_givenBy 6 = .ok (.iconst (-1), 1) := by decide +kernel
theorem dX10_givenBy_7 : decode cX10_givenBy 7 = .ok (.if_icmp .ne 10, 3) := by decide +kernel
theorem dX10_givenBy_10 : decode cX10_givenBy 10 = .ok (.aload_n 0, 1) := by decide +kernel
theorem dX10_givenBy_11 : decode cX10_givenBy 11 = .ok (.getfield 75, 3) := by decide +kernel
theorem dX10_givenBy_14 : decode cX10_givenBy 14 = .ok (.goto 9, 3) := by decide +kernel
theorem dX10_givenBy_17 : decode cX10_givenBy 17 = .ok (.aload_n 0, 1) := by decide +kernel
theorem dX10_givenBy_18 : decode cX10_givenBy 18 = .ok (.getfield 57, 3) := by decide +kernel
theorem dX10_givenBy_21 : decode cX10_givenBy 21 = .ok (.iload_n 1, 1) := by decide +kernel
theorem dX10_givenBy_22 : decode cX10_givenBy 22 = .ok (.iaload, 1) := by decide +kernel
theorem dX10_givenBy_23 : decode cX10_givenBy 23 = .ok (.ireturn, 1) := by decide +kernel
def wp_X10_givenBy_23 (h : Nat) (s0 : Int32) (S : xm_S) (g : Int32 → xm_S → Prop) : Prop :=
  g s0 S
set_option maxRecDepth 100000 in
set_option maxHeartbeats 4000000 in
theorem kp_X10_givenBy_23 {K : xm_K} (h : Nat) (s0 : Int32) (S : xm_S) {g : Int32 → xm_S → Prop} (C : xm_Cx K cX10_givenBy RX10 2 (some (FieldType.int)) rm_X10_givenBy) (N : xm_Nx K) (hg : ∀ v S, g v S → xm_q K (some (xm_i v)) S)  (h1 : wp_X10_givenBy_23 h s0 S g) : xm_W K 0 0 23 [] [xm_i s0] S := by
  unfold wp_X10_givenBy_23 at h1
  exact x_iret C (Nat.le_of_ble_eq_true rfl) (Nat.le_of_ble_eq_true rfl) rfl dX10_givenBy_23 (hg _ _ h1)
def wp_X10_givenBy (h : Nat) (x1 : Int32) (S : xm_S) (g : Int32 → xm_S → Prop) : Prop :=
  st_t S h = some (10, 0) ∧ ∃ n2, (st_r S h 17) = some n2 ∧ ∃ z5, st_t S n2 = some (100, z5) ∧ vp_in x1 z5 ∧ (¬ (st_i S n2 (x1).toNatClampNeg) = (-1 : Int32) → ∃ n7, (st_r S h 17) = some n7 ∧ ∃ z10, st_t S n7 = some (100, z10) ∧ vp_in x1 z10 ∧ wp_X10_givenBy_23 h (st_i S n7 (x1).toNatClampNeg) S g) ∧ ((st_i S n2 (x1).toNatClampNeg) = (-1 : Int32) → wp_X10_givenBy_23 h (st_i S h 3) S g)
set_option maxRecDepth 100000 in
set_option maxHeartbeats 4000000 in
theorem kp_X10_givenBy {K : xm_K} (h : Nat) (x1 : Int32) (S : xm_S) {g : Int32 → xm_S → Prop} (C : xm_Cx K cX10_givenBy RX10 2 (some (FieldType.int)) rm_X10_givenBy) (N : xm_Nx K) (hg : ∀ v S, g v S → xm_q K (some (xm_i v)) S)  (h1 : wp_X10_givenBy h x1 S g) : xm_W K 0 0 0 [(0, xm_r (some h)), (1, xm_i x1)] [] S := by
  unfold wp_X10_givenBy at h1
  refine x_aload_n C 0 dX10_givenBy_0 rfl rfl ?_
  obtain ⟨ht1, h1⟩ := h1
  refine x_getf_r (n := h) C rfl ht1 fd_97 (by decide) dX10_givenBy_1 ?_
  refine x_iload_n C 1 dX10_givenBy_4 rfl rfl ?_
  obtain ⟨n2, hr3, h1⟩ := h1
  obtain ⟨z5, ht4, h1⟩ := h1
  obtain ⟨hi6, h1⟩ := h1
  refine x_iald (n := n2) C hr3 ht4 hi6 dX10_givenBy_5 ?_
  refine x_iconst (v := (-1 : Int32)) C dX10_givenBy_6 (by decide) ?_
  refine x_icmp_ne (tgt := 17) C dX10_givenBy_7 (by decide) (fun z9 => ?_) (fun z9 => ?_)
  · have h1 := h1.1 z9
    refine x_aload_n C 0 dX10_givenBy_17 rfl rfl ?_
    refine x_getf_r (n := h) C rfl ht1 fd_97 (by decide) dX10_givenBy_18 ?_
    refine x_iload_n C 1 dX10_givenBy_21 rfl rfl ?_
    obtain ⟨n7, hr8, h1⟩ := h1
    obtain ⟨z10, ht9, h1⟩ := h1
    obtain ⟨hi11, h1⟩ := h1
    refine x_iald (n := n7) C hr8 ht9 hi11 dX10_givenBy_22 ?_
    refine x_keep (L' := []) C [] rfl ?_
    exact kp_X10_givenBy_23 h (st_i S n7 (x1).toNatClampNeg) S C N hg  h1
  · have h1 := h1.2 z9
    refine x_aload_n C 0 dX10_givenBy_10 rfl rfl ?_
    refine x_getf_i (n := h) C rfl ht1 fd_98 (by decide) dX10_givenBy_11 ?_
    refine x_goto (tgt := 23) C dX10_givenBy_14 (by decide) ?_
    refine x_keep (L' := []) C [] rfl ?_
    exact kp_X10_givenBy_23 h (st_i S h 3) S C N hg  h1
theorem kp_X10_givenBy_met {h : Nat} {x1 : Int32} {S : xm_S} {g : Int32 → xm_S → Prop}  (h1 : wp_X10_givenBy h x1 S g) : xm_Met yX10_givenBy cX10_givenBy 2 (some (FieldType.int)) rm_X10_givenBy [xm_r (some h), xm_i x1] S (xm_qi g) xm_nox :=
  xm_ofW RX10 (by decide +kernel) rfl (Nat.le_of_ble_eq_true rfl) (fun K C N hq hx hi => kp_X10_givenBy h x1 S C N (fun v S h => by rw [hq]; exact ⟨v, rfl, h⟩)  h1)
def rm_X10_hasFileAt : Room := { frames := 1, cells := 0, slots := 0, locals := 20 }
theorem dX10_hasFileAt_0 : decode cX10_hasFileAt 0 = .ok (.iconst 0, 1) := by decide +kernel
theorem dX10_hasFileAt_1 : decode cX10_hasFileAt 1 = .ok (.istore_n 2, 1) := by decide +kernel
theorem dX10_hasFileAt_2 : decode cX10_hasFileAt 2 = .ok (.iload_n 2, 1) := by decide +kernel
theorem dX10_hasFileAt_3 : decode cX10_hasFileAt 3 = .ok (.aload_n 0, 1) := by decide +kernel
theorem dX10_hasFileAt_4 : decode cX10_hasFileAt 4 = .ok (.getfield 54, 3) := by decide +kernel
theorem dX10_hasFileAt_7 : decode cX10_hasFileAt 7 = .ok (.if_icmp .ge 21, 3) := by decide +kernel
theorem dX10_hasFileAt_10 : decode cX10_hasFileAt 10 = .ok (.aload_n 0, 1) := by decide +kernel
theorem dX10_hasFileAt_11 : decode cX10_hasFileAt 11 = .ok (.getfield 44, 3) := by decide +kernel
theorem dX10_hasFileAt_14 : decode cX10_hasFileAt 14 = .ok (.iload_n 2, 1) := by decide +kernel
theorem dX10_hasFileAt_15 : decode cX10_hasFileAt 15 = .ok (.iaload, 1) := by decide +kernel
theorem dX10_hasFileAt_16 : decode cX10_hasFileAt 16 = .ok (.iload_n 1, 1) := by decide +kernel
theorem dX10_hasFileAt_17 : decode cX10_hasFileAt 17 = .ok (.if_icmp .ne 5, 3) := by decide +kernel
theorem dX10_hasFileAt_20 : decode cX10_hasFileAt 20 = .ok (.iconst 1, 1) := by decide +kernel
theorem dX10_hasFileAt_21 : decode cX10_hasFileAt 21 = .ok (.ireturn, 1) := by decide +kernel
theorem dX10_hasFileAt_22 : decode cX10_hasFileAt 22 = .ok (.iinc 2 1, 3) := by decide +kernel
theorem dX10_hasFileAt_25 : decode cX10_hasFileAt 25 = .ok (.goto (-23), 3) := by decide +kernel
theorem dX10_hasFileAt_28 : decode cX10_hasFileAt 28 = .ok (.iconst 0, 1) := by decide +kernel
theorem dX10_hasFileAt_29 : decode cX10_hasFileAt 29 = .ok (.ireturn, 1) := by decide +kernel
def wp_X10_hasFileAt_2B (h : Nat) (x1 : Int32) (x2 : Int32) (S : xm_S) (g : Int32 → xm_S → Prop) (Z2 : Int32 → Int32 → xm_S → Prop) : Prop :=
  st_t S h = some (10, 0) ∧ ((st_i S h 16) ≤ x2 → g (0 : Int32) S) ∧ (¬ (st_i S h 16) ≤ x2 → ∃ n2, (st_r S h 13) = some n2 ∧ ∃ z5, st_t S n2 = some (100, z5) ∧ vp_in x2 z5 ∧ (¬ (st_i S n2 (x2).toNatClampNeg) = x1 → ∀ y7, y7 = (x2 + (1 : Int32)) → Z2 x1 y7 S) ∧ ((st_i S n2 (x2).toNatClampNeg) = x1 → g (1 : Int32) S))
def wp_X10_hasFileAt_2 (h : Nat) (x1 : Int32) (x2 : Int32) (S : xm_S) (g : Int32 → xm_S → Prop) : Prop :=
  ∀ Z2 : Int32 → Int32 → xm_S → Prop, (∀ x1 x2 S, wp_X10_hasFileAt_2B h x1 x2 S g Z2 → Z2 x1 x2 S) → Z2 x1 x2 S
set_option maxRecDepth 100000 in
set_option maxHeartbeats 4000000 in
theorem kp_X10_hasFileAt_2B {K : xm_K} (h : Nat) (x1 : Int32) (x2 : Int32) (S : xm_S) {g : Int32 → xm_S → Prop} {Z2 : Int32 → Int32 → xm_S → Prop} (C : xm_Cx K cX10_hasFileAt RX10 3 (some (FieldType.boolean)) rm_X10_hasFileAt) (N : xm_Nx K) (hg : ∀ v S, g v S → xm_q K (some (xm_i v)) S) (hZ2 : ∀ x1 x2 S, Z2 x1 x2 S → xm_W K 0 0 2 [(0, xm_r (some h)), (1, xm_i x1), (2, xm_i x2)] [] S) (h1 : wp_X10_hasFileAt_2B h x1 x2 S g Z2) : xm_W K 0 0 2 [(0, xm_r (some h)), (1, xm_i x1), (2, xm_i x2)] [] S := by
  unfold wp_X10_hasFileAt_2B at h1
  refine x_iload_n C 2 dX10_hasFileAt_2 rfl rfl ?_
  refine x_aload_n C 0 dX10_hasFileAt_3 rfl rfl ?_
  obtain ⟨ht1, h1⟩ := h1
  refine x_getf_i (n := h) C rfl ht1 fd_93 (by decide) dX10_hasFileAt_4 ?_
  refine x_icmp_ge (tgt := 28) C dX10_hasFileAt_7 (by decide) (fun z9 => ?_) (fun z9 => ?_)
  · have h1 := h1.1 z9
    refine x_iconst (v := (0 : Int32)) C dX10_hasFileAt_28 (by decide) ?_
    exact x_zret C (Nat.le_of_ble_eq_true rfl) (Nat.le_of_ble_eq_true rfl) rfl (by decide) dX10_hasFileAt_29 (hg _ _ h1)
  · have h1 := h1.2 z9
    refine x_aload_n C 0 dX10_hasFileAt_10 rfl rfl ?_
    refine x_getf_r (n := h) C rfl ht1 fd_94 (by decide) dX10_hasFileAt_11 ?_
    refine x_iload_n C 2 dX10_hasFileAt_14 rfl rfl ?_
    obtain ⟨n2, hr3, h1⟩ := h1
    obtain ⟨z5, ht4, h1⟩ := h1
    obtain ⟨hi6, h1⟩ := h1
    refine x_iald (n := n2) C hr3 ht4 hi6 dX10_hasFileAt_15 ?_
    refine x_iload_n C 1 dX10_hasFileAt_16 rfl rfl ?_
    refine x_icmp_ne (tgt := 22) C dX10_hasFileAt_17 (by decide) (fun z9 => ?_) (fun z9 => ?_)
    · have h1 := h1.1 z9
      obtain ⟨y7, e8⟩ : ∃ y7, y7 = (x2 + (1 : Int32)) := ⟨_, rfl⟩
      have h1 := h1 y7 e8
      refine x_iinc (v := y7) (L' := [(2, xm_i y7), (0, xm_r (some h)), (1, xm_i x1)]) C 2 dX10_hasFileAt_22 rfl (by rw [e8]; rfl) (by decide) rfl ?_
      refine x_goto (tgt := 2) C dX10_hasFileAt_25 (by decide) ?_
      refine x_keep (L' := [(0, xm_r (some h)), (1, xm_i x1), (2, xm_i y7)]) C [1, 2, 0] rfl ?_
      exact hZ2 x1 y7 S h1
    · have h1 := h1.2 z9
      refine x_iconst (v := (1 : Int32)) C dX10_hasFileAt_20 (by decide) ?_
      exact x_zret C (Nat.le_of_ble_eq_true rfl) (Nat.le_of_ble_eq_true rfl) rfl (by decide) dX10_hasFileAt_21 (hg _ _ h1)
theorem kp_X10_hasFileAt_2 {K : xm_K} (h : Nat) (x1 : Int32) (x2 : Int32) (S : xm_S) {g : Int32 → xm_S → Prop} (C : xm_Cx K cX10_hasFileAt RX10 3 (some (FieldType.boolean)) rm_X10_hasFileAt) (N : xm_Nx K) (hg : ∀ v S, g v S → xm_q K (some (xm_i v)) S)  (h1 : wp_X10_hasFileAt_2 h x1 x2 S g) : xm_W K 0 0 2 [(0, xm_r (some h)), (1, xm_i x1), (2, xm_i x2)] [] S :=
  h1 (fun x1 x2 S => xm_W K 0 0 2 [(0, xm_r (some h)), (1, xm_i x1), (2, xm_i x2)] [] S) (fun x1 x2 S hb => kp_X10_hasFileAt_2B h x1 x2 S C N hg (fun x1 x2 S hz => hz) hb)
def wp_X10_hasFileAt (h : Nat) (x1 : Int32) (S : xm_S) (g : Int32 → xm_S → Prop) : Prop :=
  wp_X10_hasFileAt_2 h x1 (0 : Int32) S g
set_option maxRecDepth 100000 in
set_option maxHeartbeats 4000000 in
theorem kp_X10_hasFileAt {K : xm_K} (h : Nat) (x1 : Int32) (S : xm_S) {g : Int32 → xm_S → Prop} (C : xm_Cx K cX10_hasFileAt RX10 3 (some (FieldType.boolean)) rm_X10_hasFileAt) (N : xm_Nx K) (hg : ∀ v S, g v S → xm_q K (some (xm_i v)) S)  (h1 : wp_X10_hasFileAt h x1 S g) : xm_W K 0 0 0 [(0, xm_r (some h)), (1, xm_i x1)] [] S := by
  unfold wp_X10_hasFileAt at h1
  refine x_iconst (v := (0 : Int32)) C dX10_hasFileAt_0 (by decide) ?_
  refine x_istore_n (L' := [(2, xm_i (0 : Int32)), (0, xm_r (some h)), (1, xm_i x1)]) C dX10_hasFileAt_1 rfl (by decide) rfl ?_
  refine x_keep (L' := [(0, xm_r (some h)), (1, xm_i x1), (2, xm_i (0 : Int32))]) C [1, 2, 0] rfl ?_
  exact kp_X10_hasFileAt_2 h x1 (0 : Int32) S C N hg  h1
theorem kp_X10_hasFileAt_met {h : Nat} {x1 : Int32} {S : xm_S} {g : Int32 → xm_S → Prop}  (h1 : wp_X10_hasFileAt h x1 S g) : xm_Met yX10_hasFileAt cX10_hasFileAt 3 (some (FieldType.boolean)) rm_X10_hasFileAt [xm_r (some h), xm_i x1] S (xm_qi g) xm_nox :=
  xm_ofW RX10 (by decide +kernel) rfl (Nat.le_of_ble_eq_true rfl) (fun K C N hq hx hi => kp_X10_hasFileAt h x1 S C N (fun v S h => by rw [hq]; exact ⟨v, rfl, h⟩)  h1)
def rm_X10_init : Room := { frames := 2, cells := 8, slots := 22, locals := 41 }
theorem dX10_init_0 : decode cX10_init 0 = .ok (.aload_n 0, 1) := by decide +kernel
theorem dX10_init_1 : decode cX10_init 1 = .ok (.invokespecial 3, 3) := by decide +kernel
theorem dX10_init_4 : decode cX10_init 4 = .ok (.aload_n 0, 1) := by decide +kernel
theorem dX10_init_5 : decode cX10_init 5 = .ok (.iconst 0, 1) := by decide +kernel
theorem dX10_init_6 : decode cX10_init 6 = .ok (.putfield 9, 3) := by decide +kernel
theorem dX10_init_9 : decode cX10_init 9 = .ok (.aload_n 0, 1) := by decide +kernel
theorem dX10_init_10 : decode cX10_init 10 = .ok (.iconst 0, 1) := by decide +kernel
theorem dX10_init_11 : decode cX10_init 11 = .ok (.putfield 15, 3) := by decide +kernel
theorem dX10_init_14 : decode cX10_init 14 = .ok (.aload_n 0, 1) := by decide +kernel
theorem dX10_init_15 : decode cX10_init 15 = .ok (.iconst 4, 1) := by decide +kernel
theorem dX10_init_16 : decode cX10_init 16 = .ok (.anewarray 18, 3) := by decide +kernel
theorem dX10_init_19 : decode cX10_init 19 = .ok (.putfield 20, 3) := by decide +kernel
theorem dX10_init_22 : decode cX10_init 22 = .ok (.aload_n 0, 1) := by decide +kernel
theorem dX10_init_23 : decode cX10_init 23 = .ok (.iconst 0, 1) := by decide +kernel
theorem dX10_init_24 : decode cX10_init 24 = .ok (.putfield 24, 3) := by decide +kernel
theorem dX10_init_27 : decode cX10_init 27 = .ok (.aload_n 0, 1) := by decide +kernel
theorem dX10_init_28 : decode cX10_init 28 = .ok (.iconst 2, 1) := by decide +kernel
theorem dX10_init_29 : decode cX10_init 29 = .ok (.anewarray 18, 3) := by decide +kernel
theorem dX10_init_32 : decode cX10_init 32 = .ok (.putfield 28, 3) := by decide +kernel
theorem dX10_init_35 : decode cX10_init 35 = .ok (.aload_n 0, 1) := by decide +kernel
theorem dX10_init_36 : decode cX10_init 36 = .ok (.iconst 0, 1) := by decide +kernel
theorem dX10_init_37 : decode cX10_init 37 = .ok (.putfield 31, 3) := by decide +kernel
theorem dX10_init_40 : decode cX10_init 40 = .ok (.aload_n 0, 1) := by decide +kernel
theorem dX10_init_41 : decode cX10_init 41 = .ok (.iconst 2, 1) := by decide +kernel
theorem dX10_init_42 : decode cX10_init 42 = .ok (.newarray .int, 2) := by decide +kernel
theorem dX10_init_44 : decode cX10_init 44 = .ok (.putfield 34, 3) := by decide +kernel
theorem dX10_init_47 : decode cX10_init 47 = .ok (.aload_n 0, 1) := by decide +kernel
theorem dX10_init_48 : decode cX10_init 48 = .ok (.iconst 2, 1) := by decide +kernel
theorem dX10_init_49 : decode cX10_init 49 = .ok (.newarray .int, 2) := by decide +kernel
theorem dX10_init_51 : decode cX10_init 51 = .ok (.putfield 38, 3) := by decide +kernel
theorem dX10_init_54 : decode cX10_init 54 = .ok (.aload_n 0, 1) := by decide +kernel
theorem dX10_init_55 : decode cX10_init 55 = .ok (.iconst 0, 1) := by decide +kernel
theorem dX10_init_56 : decode cX10_init 56 = .ok (.putfield 41, 3) := by decide +kernel
theorem dX10_init_59 : decode cX10_init 59 = .ok (.aload_n 0, 1) := by decide +kernel
theorem dX10_init_60 : decode cX10_init 60 = .ok (.iconst 3, 1) := by decide +kernel
theorem dX10_init_61 : decode cX10_init 61 = .ok (.newarray .int, 2) := by decide +kernel
theorem dX10_init_63 : decode cX10_init 63 = .ok (.putfield 44, 3) := by decide +kernel
theorem dX10_init_66 : decode cX10_init 66 = .ok (.aload_n 0, 1) := by decide +kernel
theorem dX10_init_67 : decode cX10_init 67 = .ok (.iconst 3, 1) := by decide +kernel
theorem dX10_init_68 : decode cX10_init 68 = .ok (.newarray .int, 2) := by decide +kernel
theorem dX10_init_70 : decode cX10_init 70 = .ok (.putfield 47, 3) := by decide +kernel
theorem dX10_init_73 : decode cX10_init 73 = .ok (.aload_n 0, 1) := by decide +kernel
theorem dX10_init_74 : decode cX10_init 74 = .ok (.iconst 3, 1) := by decide +kernel
theorem dX10_init_75 : decode cX10_init 75 = .ok (.newarray .boolean, 2) := by decide +kernel
theorem dX10_init_77 : decode cX10_init 77 = .ok (.putfield 50, 3) := by decide +kernel
theorem dX10_init_80 : decode cX10_init 80 = .ok (.aload_n 0, 1) := by decide +kernel
theorem dX10_init_81 : decode cX10_init 81 = .ok (.iconst 0, 1) := by decide +kernel
theorem dX10_init_82 : decode cX10_init 82 = .ok (.putfield 54, 3) := by decide +kernel
theorem dX10_init_85 : decode cX10_init 85 = .ok (.aload_n 0, 1) := by decide +kernel
theorem dX10_init_86 : decode cX10_init 86 = .ok (.iconst 3, 1) := by decide +kernel
theorem dX10_init_87 : decode cX10_init 87 = .ok (.newarray .int, 2) := by decide +kernel
theorem dX10_init_89 : decode cX10_init 89 = .ok (.dup, 1) := by decide +kernel
theorem dX10_init_90 : decode cX10_init 90 = .ok (.iconst 0, 1) := by decide +kernel
theorem dX10_init_91 : decode cX10_init 91 = .ok (.iconst (-1), 1) := by decide +kernel
theorem dX10_init_92 : decode cX10_init 92 = .ok (.iastore, 1) := by decide +kernel
theorem dX10_init_93 : decode cX10_init 93 = .ok (.dup, 1) := by decide +kernel
theorem dX10_init_94 : decode cX10_init 94 = .ok (.iconst 1, 1) := by decide +kernel
theorem dX10_init_95 : decode cX10_init 95 = .ok (.iconst (-1), 1) := by decide +kernel
theorem dX10_init_96 : decode cX10_init 96 = .ok (.iastore, 1) := by decide +kernel
theorem dX10_init_97 : decode cX10_init 97 = .ok (.dup, 1) := by decide +kernel
theorem dX10_init_98 : decode cX10_init 98 = .ok (.iconst 2, 1) := by decide +kernel
theorem dX10_init_99 : decode cX10_init 99 = .ok (.iconst (-1), 1) := by decide +kernel
theorem dX10_init_100 : decode cX10_init 100 = .ok (.iastore, 1) := by decide +kernel
theorem dX10_init_101 : decode cX10_init 101 = .ok (.putfield 57, 3) := by decide +kernel
theorem dX10_init_104 : decode cX10_init 104 = .ok (.aload_n 0, 1) := by decide +kernel
theorem dX10_init_105 : decode cX10_init 105 = .ok (.iload_n 1, 1) := by decide +kernel
theorem dX10_init_106 : decode cX10_init 106 = .ok (.invokestatic 60, 3) := by decide +kernel
theorem dX10_init_109 : decode cX10_init 109 = .ok (.putfield 66, 3) := by decide +kernel
theorem dX10_init_112 : decode cX10_init 112 = .ok (.aload_n 0, 1) := by decide +kernel
theorem dX10_init_113 : decode cX10_init 113 = .ok (.iload_n 2, 1) := by decide +kernel
theorem dX10_init_114 : decode cX10_init 114 = .ok (.putfield 69, 3) := by decide +kernel
theorem dX10_init_117 : decode cX10_init 117 = .ok (.aload_n 0, 1) := by decide +kernel
theorem dX10_init_118 : decode cX10_init 118 = .ok (.iload_n 3, 1) := by decide +kernel
theorem dX10_init_119 : decode cX10_init 119 = .ok (.putfield 72, 3) := by decide +kernel
theorem dX10_init_122 : decode cX10_init 122 = .ok (.aload_n 0, 1) := by decide +kernel
theorem dX10_init_123 : decode cX10_init 123 = .ok (.iload 4, 2) := by decide +kernel
theorem dX10_init_125 : decode cX10_init 125 = .ok (.putfield 75, 3) := by decide +kernel
theorem dX10_init_128 : decode cX10_init 128 = .ok (.return_, 1) := by decide +kernel
def wp_X10_init (h : Nat) (x1 : Int32) (x2 : Int32) (x3 : Int32) (x4 : Int32) (S : xm_S) (g : xm_S → Prop) : Prop :=
  st_t S h = some (10, 0) ∧ ∀ S2, S2 = st_pi S h 4 (0 : Int32) → ∀ S4, S4 = st_pi S2 h 5 (0 : Int32) → ∃ n6, st_t S4 n6 = none ∧ ∀ S8, S8 = st_nw S4 n6 (114, 4) → ∀ S10, S10 = st_pr S8 h 6 (some n6) → ∀ S12, S12 = st_pi S10 h 7 (0 : Int32) → ∃ n14, st_t S12 n14 = none ∧ ∀ S16, S16 = st_nw S12 n14 (114, 2) → ∀ S18, S18 = st_pr S16 h 8 (some n14) → ∀ S20, S20 = st_pi S18 h 9 (0 : Int32) → ∃ n22, st_t S20 n22 = none ∧ ∀ S24, S24 = st_nw S20 n22 (100, 2) → ∀ S26, S26 = st_pr S24 h 10 (some n22) → ∃ n28, st_t S26 n28 = none ∧ ∀ S30, S30 = st_nw S26 n28 (100, 2) → ∀ S32, S32 = st_pr S30 h 11 (some n28) → ∀ S34, S34 = st_pi S32 h 12 (0 : Int32) → ∃ n36, st_t S34 n36 = none ∧ ∀ S38, S38 = st_nw S34 n36 (100, 3) → ∀ S40, S40 = st_pr S38 h 13 (some n36) → ∃ n42, st_t S40 n42 = none ∧ ∀ S44, S44 = st_nw S40 n42 (100, 3) → ∀ S46, S46 = st_pr S44 h 14 (some n42) → ∃ n48, st_t S46 n48 = none ∧ ∀ S50, S50 = st_nw S46 n48 (101, 3) → ∀ S52, S52 = st_pr S50 h 15 (some n48) → ∀ S54, S54 = st_pi S52 h 16 (0 : Int32) → ∃ n56, st_t S54 n56 = none ∧ ∀ S58, S58 = st_nw S54 n56 (100, 3) → vp_in (0 : Int32) 3 ∧ ∀ S61, S61 = st_pi S58 n56 ((0 : Int32)).toNatClampNeg (-1 : Int32) → vp_in (1 : Int32) 3 ∧ ∀ S64, S64 = st_pi S61 n56 ((1 : Int32)).toNatClampNeg (-1 : Int32) → vp_in (nI 2) 3 ∧ ∀ S67, S67 = st_pi S64 n56 ((nI 2)).toNatClampNeg (-1 : Int32) → ∀ S69, S69 = st_pr S67 h 17 (some n56) → wp_X9_digitsOf x1 S69 (fun r72 S71 => st_t S71 h = some (10, 0) ∧ ∀ S74, S74 = st_pi S71 h 0 r72 → ∀ S76, S76 = st_pi S74 h 1 x2 → ∀ S78, S78 = st_pi S76 h 2 x3 → ∀ S80, S80 = st_pi S78 h 3 x4 → g S80)
set_option maxRecDepth 100000 in
set_option maxHeartbeats 4000000 in
theorem kp_X10_init {K : xm_K} (h : Nat) (x1 : Int32) (x2 : Int32) (x3 : Int32) (x4 : Int32) (S : xm_S) {g : xm_S → Prop} (C : xm_Cx K cX10_init RX10 5 none rm_X10_init) (N : xm_Nx K) (hini : xm_init K) (hg : ∀ S, g S → xm_q K none S)  (h1 : wp_X10_init h x1 x2 x3 x4 S g) : xm_W K 0 0 0 [(0, xm_r (some h)), (1, xm_i x1), (2, xm_i x2), (3, xm_i x3), (4, xm_i x4)] [] S := by
  unfold wp_X10_init at h1
  refine x_aload_n C 0 dX10_init_0 rfl rfl ?_
  refine x_objInit (n := h) C rfl gw_313 (Nat.le_of_ble_eq_true rfl) (Nat.le_of_ble_eq_true rfl) (Nat.le_of_ble_eq_true rfl) dX10_init_1 gw_1 gw_2 ?_
  refine x_aload_n C 0 dX10_init_4 rfl rfl ?_
  refine x_iconst (v := (0 : Int32)) C dX10_init_5 (by decide) ?_
  obtain ⟨ht1, h1⟩ := h1
  refine x_putf_i (n := h) C rfl ht1 fd_99 xc_10 (by decide) rfl (xm_nz (by decide)) dX10_init_6 ?_
  refine x_topS (fun S2 e3 => ?_)
  have h1 := h1 S2 e3
  refine x_aload_n C 0 dX10_init_9 rfl rfl ?_
  refine x_iconst (v := (0 : Int32)) C dX10_init_10 (by decide) ?_
  refine x_putf_i (n := h) C rfl (tk_p e3 ht1) fd_100 xc_10 (by decide) rfl (xm_nz (by decide)) dX10_init_11 ?_
  refine x_topS (fun S4 e5 => ?_)
  have h1 := h1 S4 e5
  refine x_aload_n C 0 dX10_init_14 rfl rfl ?_
  refine x_iconst (v := (nI 4)) C dX10_init_15 (by decide) ?_
  obtain ⟨n6, hn7, h1⟩ := h1
  refine x_newq (n := n6) (ci := 4) (len := 4) C gw_316 (by decide +kernel) (by decide) rfl (by decide) (by decide) hn7 (Nat.le_of_ble_eq_true rfl) (Nat.le_of_ble_eq_true rfl) dX10_init_16 ?_
  refine x_topS (fun S8 e9 => ?_)
  have h1 := h1 S8 e9
  refine x_putfF_r (n := h) C rfl (tk_n e9 hn7 (tk_p e5 (tk_p e3 ht1))) fd_101 xc_10 (by decide) rfl hini rfl (xm_nr rfl) dX10_init_19 ?_
  refine x_topS (fun S10 e11 => ?_)
  have h1 := h1 S10 e11
  refine x_aload_n C 0 dX10_init_22 rfl rfl ?_
  refine x_iconst (v := (0 : Int32)) C dX10_init_23 (by decide) ?_
  refine x_putf_i (n := h) C rfl (tk_p e11 (tk_n e9 hn7 (tk_p e5 (tk_p e3 ht1)))) fd_102 xc_10 (by decide) rfl ⟨rfl, rfl⟩ dX10_init_24 ?_
  refine x_topS (fun S12 e13 => ?_)
  have h1 := h1 S12 e13
  refine x_aload_n C 0 dX10_init_27 rfl rfl ?_
  refine x_iconst (v := (nI 2)) C dX10_init_28 (by decide) ?_
  obtain ⟨n14, hn15, h1⟩ := h1
  refine x_newq (n := n14) (ci := 4) (len := 2) C gw_316 (by decide +kernel) (by decide) rfl (by decide) (by decide) hn15 (Nat.le_of_ble_eq_true rfl) (Nat.le_of_ble_eq_true rfl) dX10_init_29 ?_
  refine x_topS (fun S16 e17 => ?_)
  have h1 := h1 S16 e17
  refine x_putfF_r (n := h) C rfl (tk_n e17 hn15 (tk_p e13 (tk_p e11 (tk_n e9 hn7 (tk_p e5 (tk_p e3 ht1)))))) fd_103 xc_10 (by decide) rfl hini rfl (xm_nr rfl) dX10_init_32 ?_
  refine x_topS (fun S18 e19 => ?_)
  have h1 := h1 S18 e19
  refine x_aload_n C 0 dX10_init_35 rfl rfl ?_
  refine x_iconst (v := (0 : Int32)) C dX10_init_36 (by decide) ?_
  refine x_putf_i (n := h) C rfl (tk_p e19 (tk_n e17 hn15 (tk_p e13 (tk_p e11 (tk_n e9 hn7 (tk_p e5 (tk_p e3 ht1))))))) fd_104 xc_10 (by decide) rfl ⟨rfl, rfl⟩ dX10_init_37 ?_
  refine x_topS (fun S20 e21 => ?_)
  have h1 := h1 S20 e21
  refine x_aload_n C 0 dX10_init_40 rfl rfl ?_
  refine x_iconst (v := (nI 2)) C dX10_init_41 (by decide) ?_
  obtain ⟨n22, hn23, h1⟩ := h1
  refine x_newa_i (n := n22) (len := 2) C gw_11 (by decide) (by decide) hn23 (Nat.le_of_ble_eq_true rfl) (Nat.le_of_ble_eq_true rfl) dX10_init_42 ?_
  refine x_topS (fun S24 e25 => ?_)
  have h1 := h1 S24 e25
  refine x_putfF_r (n := h) C rfl (tk_n e25 hn23 (tk_p e21 (tk_p e19 (tk_n e17 hn15 (tk_p e13 (tk_p e11 (tk_n e9 hn7 (tk_p e5 (tk_p e3 ht1))))))))) fd_76 xc_10 (by decide) rfl hini rfl (xm_nr rfl) dX10_init_44 ?_
  refine x_topS (fun S26 e27 => ?_)
  have h1 := h1 S26 e27
  refine x_aload_n C 0 dX10_init_47 rfl rfl ?_
  refine x_iconst (v := (nI 2)) C dX10_init_48 (by decide) ?_
  obtain ⟨n28, hn29, h1⟩ := h1
  refine x_newa_i (n := n28) (len := 2) C gw_11 (by decide) (by decide) hn29 (Nat.le_of_ble_eq_true rfl) (Nat.le_of_ble_eq_true rfl) dX10_init_49 ?_
  refine x_topS (fun S30 e31 => ?_)
  have h1 := h1 S30 e31
  refine x_putfF_r (n := h) C rfl (tk_n e31 hn29 (tk_p e27 (tk_n e25 hn23 (tk_p e21 (tk_p e19 (tk_n e17 hn15 (tk_p e13 (tk_p e11 (tk_n e9 hn7 (tk_p e5 (tk_p e3 ht1))))))))))) fd_77 xc_10 (by decide) rfl hini rfl (xm_nr rfl) dX10_init_51 ?_
  refine x_topS (fun S32 e33 => ?_)
  have h1 := h1 S32 e33
  refine x_aload_n C 0 dX10_init_54 rfl rfl ?_
  refine x_iconst (v := (0 : Int32)) C dX10_init_55 (by decide) ?_
  refine x_putf_i (n := h) C rfl (tk_p e33 (tk_n e31 hn29 (tk_p e27 (tk_n e25 hn23 (tk_p e21 (tk_p e19 (tk_n e17 hn15 (tk_p e13 (tk_p e11 (tk_n e9 hn7 (tk_p e5 (tk_p e3 ht1)))))))))))) fd_75 xc_10 (by decide) rfl ⟨rfl, rfl⟩ dX10_init_56 ?_
  refine x_topS (fun S34 e35 => ?_)
  have h1 := h1 S34 e35
  refine x_aload_n C 0 dX10_init_59 rfl rfl ?_
  refine x_iconst (v := (nI 3)) C dX10_init_60 (by decide) ?_
  obtain ⟨n36, hn37, h1⟩ := h1
  refine x_newa_i (n := n36) (len := 3) C gw_11 (by decide) (by decide) hn37 (Nat.le_of_ble_eq_true rfl) (Nat.le_of_ble_eq_true rfl) dX10_init_61 ?_
  refine x_topS (fun S38 e39 => ?_)
  have h1 := h1 S38 e39
  refine x_putfF_r (n := h) C rfl (tk_n e39 hn37 (tk_p e35 (tk_p e33 (tk_n e31 hn29 (tk_p e27 (tk_n e25 hn23 (tk_p e21 (tk_p e19 (tk_n e17 hn15 (tk_p e13 (tk_p e11 (tk_n e9 hn7 (tk_p e5 (tk_p e3 ht1)))))))))))))) fd_94 xc_10 (by decide) rfl hini rfl (xm_nr rfl) dX10_init_63 ?_
  refine x_topS (fun S40 e41 => ?_)
  have h1 := h1 S40 e41
  refine x_aload_n C 0 dX10_init_66 rfl rfl ?_
  refine x_iconst (v := (nI 3)) C dX10_init_67 (by decide) ?_
  obtain ⟨n42, hn43, h1⟩ := h1
  refine x_newa_i (n := n42) (len := 3) C gw_11 (by decide) (by decide) hn43 (Nat.le_of_ble_eq_true rfl) (Nat.le_of_ble_eq_true rfl) dX10_init_68 ?_
  refine x_topS (fun S44 e45 => ?_)
  have h1 := h1 S44 e45
  refine x_putfF_r (n := h) C rfl (tk_n e45 hn43 (tk_p e41 (tk_n e39 hn37 (tk_p e35 (tk_p e33 (tk_n e31 hn29 (tk_p e27 (tk_n e25 hn23 (tk_p e21 (tk_p e19 (tk_n e17 hn15 (tk_p e13 (tk_p e11 (tk_n e9 hn7 (tk_p e5 (tk_p e3 ht1)))))))))))))))) fd_95 xc_10 (by decide) rfl hini rfl (xm_nr rfl) dX10_init_70 ?_
  refine x_topS (fun S46 e47 => ?_)
  have h1 := h1 S46 e47
  refine x_aload_n C 0 dX10_init_73 rfl rfl ?_
  refine x_iconst (v := (nI 3)) C dX10_init_74 (by decide) ?_
  obtain ⟨n48, hn49, h1⟩ := h1
  refine x_newa_z (n := n48) (len := 3) C gw_104 (by decide) (by decide) hn49 (Nat.le_of_ble_eq_true rfl) (Nat.le_of_ble_eq_true rfl) dX10_init_75 ?_
  refine x_topS (fun S50 e51 => ?_)
  have h1 := h1 S50 e51
  refine x_putfF_r (n := h) C rfl (tk_n e51 hn49 (tk_p e47 (tk_n e45 hn43 (tk_p e41 (tk_n e39 hn37 (tk_p e35 (tk_p e33 (tk_n e31 hn29 (tk_p e27 (tk_n e25 hn23 (tk_p e21 (tk_p e19 (tk_n e17 hn15 (tk_p e13 (tk_p e11 (tk_n e9 hn7 (tk_p e5 (tk_p e3 ht1)))))))))))))))))) fd_96 xc_10 (by decide) rfl hini rfl (xm_nr rfl) dX10_init_77 ?_
  refine x_topS (fun S52 e53 => ?_)
  have h1 := h1 S52 e53
  refine x_aload_n C 0 dX10_init_80 rfl rfl ?_
  refine x_iconst (v := (0 : Int32)) C dX10_init_81 (by decide) ?_
  refine x_putf_i (n := h) C rfl (tk_p e53 (tk_n e51 hn49 (tk_p e47 (tk_n e45 hn43 (tk_p e41 (tk_n e39 hn37 (tk_p e35 (tk_p e33 (tk_n e31 hn29 (tk_p e27 (tk_n e25 hn23 (tk_p e21 (tk_p e19 (tk_n e17 hn15 (tk_p e13 (tk_p e11 (tk_n e9 hn7 (tk_p e5 (tk_p e3 ht1))))))))))))))))))) fd_93 xc_10 (by decide) rfl ⟨rfl, rfl⟩ dX10_init_82 ?_
  refine x_topS (fun S54 e55 => ?_)
  have h1 := h1 S54 e55
  refine x_aload_n C 0 dX10_init_85 rfl rfl ?_
  refine x_iconst (v := (nI 3)) C dX10_init_86 (by decide) ?_
  obtain ⟨n56, hn57, h1⟩ := h1
  refine x_newa_i (n := n56) (len := 3) C gw_11 (by decide) (by decide) hn57 (Nat.le_of_ble_eq_true rfl) (Nat.le_of_ble_eq_true rfl) dX10_init_87 ?_
  refine x_topS (fun S58 e59 => ?_)
  have h1 := h1 S58 e59
  refine x_dup_r C dX10_init_89 ?_
  refine x_iconst (v := (0 : Int32)) C dX10_init_90 (by decide) ?_
  refine x_iconst (v := (-1 : Int32)) C dX10_init_91 (by decide) ?_
  obtain ⟨hi60, h1⟩ := h1
  refine x_iast (n := n56) C rfl (tk_nn e59) hi60 dX10_init_92 ?_
  refine x_topS (fun S61 e62 => ?_)
  have h1 := h1 S61 e62
  refine x_dup_r C dX10_init_93 ?_
  refine x_iconst (v := (1 : Int32)) C dX10_init_94 (by decide) ?_
  refine x_iconst (v := (-1 : Int32)) C dX10_init_95 (by decide) ?_
  obtain ⟨hi63, h1⟩ := h1
  refine x_iast (n := n56) C rfl (tk_p e62 (tk_nn e59)) hi63 dX10_init_96 ?_
  refine x_topS (fun S64 e65 => ?_)
  have h1 := h1 S64 e65
  refine x_dup_r C dX10_init_97 ?_
  refine x_iconst (v := (nI 2)) C dX10_init_98 (by decide) ?_
  refine x_iconst (v := (-1 : Int32)) C dX10_init_99 (by decide) ?_
  obtain ⟨hi66, h1⟩ := h1
  refine x_iast (n := n56) C rfl (tk_p e65 (tk_p e62 (tk_nn e59))) hi66 dX10_init_100 ?_
  refine x_topS (fun S67 e68 => ?_)
  have h1 := h1 S67 e68
  refine x_putfF_r (n := h) C rfl (tk_p e68 (tk_p e65 (tk_p e62 (tk_n e59 hn57 (tk_p e55 (tk_p e53 (tk_n e51 hn49 (tk_p e47 (tk_n e45 hn43 (tk_p e41 (tk_n e39 hn37 (tk_p e35 (tk_p e33 (tk_n e31 hn29 (tk_p e27 (tk_n e25 hn23 (tk_p e21 (tk_p e19 (tk_n e17 hn15 (tk_p e13 (tk_p e11 (tk_n e9 hn7 (tk_p e5 (tk_p e3 ht1)))))))))))))))))))))))) fd_97 xc_10 (by decide) rfl hini rfl (xm_nr rfl) dX10_init_101 ?_
  refine x_topS (fun S69 e70 => ?_)
  have h1 := h1 S69 e70
  refine x_aload_n C 0 dX10_init_104 rfl rfl ?_
  refine x_iload_n C 1 dX10_init_105 rfl rfl ?_
  refine x_callS (rm' := rm_X9_digitsOf) C (kp_X9_digitsOf_met h1) lk_48 gw_278 rfl (Nat.le_of_ble_eq_true rfl) ⟨Nat.le_of_ble_eq_true rfl, Nat.le_of_ble_eq_true rfl, (Nat.le_of_ble_eq_true rfl), (Nat.le_of_ble_eq_true rfl)⟩ dX10_init_106 xm_kx (xm_ki (fun r72 S71 h1 => ?_))
  obtain ⟨ht73, h1⟩ := h1
  refine x_putfF_i (n := h) C rfl ht73 fd_105 xc_10 (by decide) rfl hini rfl ⟨rfl, rfl⟩ dX10_init_109 ?_
  refine x_topS (fun S74 e75 => ?_)
  have h1 := h1 S74 e75
  refine x_aload_n C 0 dX10_init_112 rfl rfl ?_
  refine x_iload_n C 2 dX10_init_113 rfl rfl ?_
  refine x_putfF_i (n := h) C rfl (tk_p e75 ht73) fd_106 xc_10 (by decide) rfl hini rfl ⟨rfl, rfl⟩ dX10_init_114 ?_
  refine x_topS (fun S76 e77 => ?_)
  have h1 := h1 S76 e77
  refine x_aload_n C 0 dX10_init_117 rfl rfl ?_
  refine x_iload_n C 3 dX10_init_118 rfl rfl ?_
  refine x_putfF_i (n := h) C rfl (tk_p e77 (tk_p e75 ht73)) fd_107 xc_10 (by decide) rfl hini rfl ⟨rfl, rfl⟩ dX10_init_119 ?_
  refine x_topS (fun S78 e79 => ?_)
  have h1 := h1 S78 e79
  refine x_aload_n C 0 dX10_init_122 rfl rfl ?_
  refine x_iload C 4 dX10_init_123 rfl ?_
  refine x_putfF_i (n := h) C rfl (tk_p e79 (tk_p e77 (tk_p e75 ht73))) fd_98 xc_10 (by decide) rfl hini rfl ⟨rfl, rfl⟩ dX10_init_125 ?_
  refine x_topS (fun S80 e81 => ?_)
  have h1 := h1 S80 e81
  exact x_vret C (Nat.le_of_ble_eq_true rfl) (Nat.le_of_ble_eq_true rfl) rfl dX10_init_128 (hg _ h1)
theorem kp_X10_init_met {h : Nat} {x1 : Int32} {x2 : Int32} {x3 : Int32} {x4 : Int32} {S : xm_S} {g : xm_S → Prop}  (h1 : wp_X10_init h x1 x2 x3 x4 S g) : xm_Met yX10_init cX10_init 5 none rm_X10_init [xm_r (some h), xm_i x1, xm_i x2, xm_i x3, xm_i x4] S (xm_qv g) xm_nox :=
  xm_ofW RX10 (by decide +kernel) rfl (Nat.le_of_ble_eq_true rfl) (fun K C N hq hx hi => kp_X10_init h x1 x2 x3 x4 S C N (hi rfl) (fun S h => by rw [hq]; exact ⟨rfl, h⟩)  h1)
def rm_X11_checkPack : Room := { frames := 6, cells := 1, slots := 6, locals := 100 }
theorem dX11_checkPack_0 : decode cX11_checkPack 0 = .ok (.iload_n 0, 1) := by decide +kernel
theorem dX11_checkPack_1 : decode cX11_checkPack 1 = .ok (.ifCond .lt 9, 3) := by decide +kernel
theorem dX11_checkPack_4 : decode cX11_checkPack 4 = .ok (.iload_n 0, 1) := by decide +kernel
theorem dX11_checkPack_5 : decode cX11_checkPack 5 = .ok (.bipush 6, 2) := by decide +kernel
theorem dX11_checkPack_7 : decode cX11_checkPack 7 = .ok (.if_icmp .lt 14, 3) := by decide +kernel
theorem dX11_checkPack_10 : decode cX11_checkPack 10 = .ok (.new 349, 3) := by decide +kernel
theorem dX11_checkPack_13 : decode cX11_checkPack 13 = .ok (.dup, 1) := by decide +kernel
theorem dX11_checkPack_14 : decode cX11_checkPack 14 = .ok (.ldc_w 351, 3) := by decide +kernel
theorem dX11_checkPack_17 : decode cX11_checkPack 17 = .ok (.invokespecial 353, 3) := by decide +kernel
theorem dX11_checkPack_20 : decode cX11_checkPack 20 = .ok (.athrow, 1) := by decide +kernel
theorem dX11_checkPack_21 : decode cX11_checkPack 21 = .ok (.return_, 1) := by decide +kernel
def wp_X11_checkPack_10  (S : xm_S) (g : xm_S → Prop) (Ex : String → xm_S → Prop) : Prop :=
  Ex xm_eI S
set_option maxRecDepth 100000 in
set_option maxHeartbeats 4000000 in
theorem kp_X11_checkPack_10 {K : xm_K}  (S : xm_S) {g : xm_S → Prop} {Ex : String → xm_S → Prop} (C : xm_Cx K cX11_checkPack RX11 1 none rm_X11_checkPack) (N : xm_Nx K) (hg : ∀ S, g S → xm_q K none S) (hEx : ∀ X S, Ex X S → xm_x K X S)  (h1 : wp_X11_checkPack_10  S g Ex) : xm_W K 0 0 10 [] [] S := by
  unfold wp_X11_checkPack_10 at h1
  exact x_throw (text := "no such package") C N th_I_in th_I_fit gw_325 gw_326 (by decide +kernel) th_I_at th_I_no th_I_ot (Nat.le_of_ble_eq_true rfl) ⟨Nat.le_of_ble_eq_true rfl, Nat.le_of_ble_eq_true rfl, (Nat.le_of_ble_eq_true rfl), (Nat.le_of_ble_eq_true rfl)⟩ dX11_checkPack_10 dX11_checkPack_13 (Or.inr ⟨dX11_checkPack_14, dX11_checkPack_17, dX11_checkPack_20⟩) (hEx _ _ h1)
def wp_X11_checkPack (x0 : Int32) (S : xm_S) (g : xm_S → Prop) (Ex : String → xm_S → Prop) : Prop :=
  (x0 < 0 → wp_X11_checkPack_10 S g Ex) ∧ (¬ x0 < 0 → (x0 < (nI 6) → g S) ∧ (¬ x0 < (nI 6) → wp_X11_checkPack_10 S g Ex))
set_option maxRecDepth 100000 in
set_option maxHeartbeats 4000000 in
theorem kp_X11_checkPack {K : xm_K} (x0 : Int32) (S : xm_S) {g : xm_S → Prop} {Ex : String → xm_S → Prop} (C : xm_Cx K cX11_checkPack RX11 1 none rm_X11_checkPack) (N : xm_Nx K) (hg : ∀ S, g S → xm_q K none S) (hEx : ∀ X S, Ex X S → xm_x K X S)  (h1 : wp_X11_checkPack x0 S g Ex) : xm_W K 0 0 0 [(0, xm_i x0)] [] S := by
  unfold wp_X11_checkPack at h1
  refine x_iload_n C 0 dX11_checkPack_0 rfl rfl ?_
  refine x_if_lt (tgt := 10) C dX11_checkPack_1 (by decide) (fun z9 => ?_) (fun z9 => ?_)
  · have h1 := h1.1 z9
    refine x_keep (L' := []) C [] rfl ?_
    exact kp_X11_checkPack_10 S C N hg hEx  h1
  · have h1 := h1.2 z9
    refine x_iload_n C 0 dX11_checkPack_4 rfl rfl ?_
    refine x_bipush (v := (nI 6)) C dX11_checkPack_5 (by decide) ?_
    refine x_icmp_lt (tgt := 21) C dX11_checkPack_7 (by decide) (fun z9 => ?_) (fun z9 => ?_)
    · have h1 := h1.1 z9
      exact x_vret C (Nat.le_of_ble_eq_true rfl) (Nat.le_of_ble_eq_true rfl) rfl dX11_checkPack_21 (hg _ h1)
    · have h1 := h1.2 z9
      refine x_keep (L' := []) C [] rfl ?_
      exact kp_X11_checkPack_10 S C N hg hEx  h1
theorem kp_X11_checkPack_met {x0 : Int32} {S : xm_S} {g : xm_S → Prop} {Ex : String → xm_S → Prop}  (h1 : wp_X11_checkPack x0 S g Ex) : xm_Met yX11_checkPack cX11_checkPack 1 none rm_X11_checkPack [xm_i x0] S (xm_qv g) Ex :=
  xm_ofW RX11 (by decide +kernel) rfl (Nat.le_of_ble_eq_true rfl) (fun K C N hq hx hi => kp_X11_checkPack x0 S C N (fun S h => by rw [hq]; exact ⟨rfl, h⟩) (fun X S h => by rw [hx]; exact h)  h1)
def rm_X11_checkRange : Room := { frames := 6, cells := 1, slots := 6, locals := 100 }
theorem dX11_checkRange_0 : decode cX11_checkRange 0 = .ok (.iload_n 0, 1) := by decide +kernel
theorem dX11_checkRange_1 : decode cX11_checkRange 1 = .ok (.iload_n 1, 1) := by decide +kernel
theorem dX11_checkRange_2 : decode cX11_checkRange 2 = .ok (.if_icmp .lt 8, 3) := by decide +kernel
theorem dX11_checkRange_5 : decode cX11_checkRange 5 = .ok (.iload_n 0, 1) := by decide +kernel
theorem dX11_checkRange_6 : decode cX11_checkRange 6 = .ok (.iload_n 2, 1) := by decide +kernel
theorem dX11_checkRange_7 : decode cX11_checkRange 7 = .ok (.if_icmp .le 14, 3) := by decide +kernel
theorem dX11_checkRange_10 : decode cX11_checkRange 10 = .ok (.new 90, 3) := by decide +kernel
theorem dX11_checkRange_13 : decode cX11_checkRange 13 = .ok (.dup, 1) := by decide +kernel
theorem dX11_checkRange_14 : decode cX11_checkRange 14 = .ok (.ldc_w 360, 3) := by decide +kernel
theorem dX11_checkRange_17 : decode cX11_checkRange 17 = .ok (.invokespecial 94, 3) := by decide +kernel
theorem dX11_checkRange_20 : decode cX11_checkRange 20 = .ok (.athrow, 1) := by decide +kernel
theorem dX11_checkRange_21 : decode cX11_checkRange 21 = .ok (.return_, 1) := by decide +kernel
def wp_X11_checkRange_10  (S : xm_S) (g : xm_S → Prop) (Ex : String → xm_S → Prop) : Prop :=
  Ex xm_eA S
set_option maxRecDepth 100000 in
set_option maxHeartbeats 4000000 in
theorem kp_X11_checkRange_10 {K : xm_K}  (S : xm_S) {g : xm_S → Prop} {Ex : String → xm_S → Prop} (C : xm_Cx K cX11_checkRange RX11 3 none rm_X11_checkRange) (N : xm_Nx K) (hg : ∀ S, g S → xm_q K none S) (hEx : ∀ X S, Ex X S → xm_x K X S)  (h1 : wp_X11_checkRange_10  S g Ex) : xm_W K 0 0 10 [] [] S := by
  unfold wp_X11_checkRange_10 at h1
  exact x_throw (text := "an argument is out of range") C N th_A_in th_A_fit gw_327 gw_328 (by decide +kernel) th_A_at th_A_no th_A_ot (Nat.le_of_ble_eq_true rfl) ⟨Nat.le_of_ble_eq_true rfl, Nat.le_of_ble_eq_true rfl, (Nat.le_of_ble_eq_true rfl), (Nat.le_of_ble_eq_true rfl)⟩ dX11_checkRange_10 dX11_checkRange_13 (Or.inr ⟨dX11_checkRange_14, dX11_checkRange_17, dX11_checkRange_20⟩) (hEx _ _ h1)
def wp_X11_checkRange (x0 : Int32) (x1 : Int32) (x2 : Int32) (S : xm_S) (g : xm_S → Prop) (Ex : String → xm_S → Prop) : Prop :=
  (x0 < x1 → wp_X11_checkRange_10 S g Ex) ∧ (¬ x0 < x1 → (x0 ≤ x2 → g S) ∧ (¬ x0 ≤ x2 → wp_X11_checkRange_10 S g Ex))
set_option maxRecDepth 100000 in
set_option maxHeartbeats 4000000 in
theorem kp_X11_checkRange {K : xm_K} (x0 : Int32) (x1 : Int32) (x2 : Int32) (S : xm_S) {g : xm_S → Prop} {Ex : String → xm_S → Prop} (C : xm_Cx K cX11_checkRange RX11 3 none rm_X11_checkRange) (N : xm_Nx K) (hg : ∀ S, g S → xm_q K none S) (hEx : ∀ X S, Ex X S → xm_x K X S)  (h1 : wp_X11_checkRange x0 x1 x2 S g Ex) : xm_W K 0 0 0 [(0, xm_i x0), (1, xm_i x1), (2, xm_i x2)] [] S := by
  unfold wp_X11_checkRange at h1
  refine x_iload_n C 0 dX11_checkRange_0 rfl rfl ?_
  refine x_iload_n C 1 dX11_checkRange_1 rfl rfl ?_
  refine x_icmp_lt (tgt := 10) C dX11_checkRange_2 (by decide) (fun z9 => ?_) (fun z9 => ?_)
  · have h1 := h1.1 z9
    refine x_keep (L' := []) C [] rfl ?_
    exact kp_X11_checkRange_10 S C N hg hEx  h1
  · have h1 := h1.2 z9
    refine x_iload_n C 0 dX11_checkRange_5 rfl rfl ?_
    refine x_iload_n C 2 dX11_checkRange_6 rfl rfl ?_
    refine x_icmp_le (tgt := 21) C dX11_checkRange_7 (by decide) (fun z9 => ?_) (fun z9 => ?_)
    · have h1 := h1.1 z9
      exact x_vret C (Nat.le_of_ble_eq_true rfl) (Nat.le_of_ble_eq_true rfl) rfl dX11_checkRange_21 (hg _ h1)
    · have h1 := h1.2 z9
      refine x_keep (L' := []) C [] rfl ?_
      exact kp_X11_checkRange_10 S C N hg hEx  h1
theorem kp_X11_checkRange_met {x0 : Int32} {x1 : Int32} {x2 : Int32} {S : xm_S} {g : xm_S → Prop} {Ex : String → xm_S → Prop}  (h1 : wp_X11_checkRange x0 x1 x2 S g Ex) : xm_Met yX11_checkRange cX11_checkRange 3 none rm_X11_checkRange [xm_i x0, xm_i x1, xm_i x2] S (xm_qv g) Ex :=
  xm_ofW RX11 (by decide +kernel) rfl (Nat.le_of_ble_eq_true rfl) (fun K C N hq hx hi => kp_X11_checkRange x0 x1 x2 S C N (fun S h => by rw [hq]; exact ⟨rfl, h⟩) (fun X S h => by rw [hx]; exact h)  h1)
def rm_X11_checkRoom : Room := { frames := 6, cells := 1, slots := 6, locals := 100 }
theorem dX11_checkRoom_0 : decode cX11_checkRoom 0 = .ok (.iload_n 0, 1) := by decide +kernel
theorem dX11_checkRoom_1 : decode cX11_checkRoom 1 = .ok (.iload_n 1, 1) := by decide +kernel
theorem dX11_checkRoom_2 : decode cX11_checkRoom 2 = .ok (.if_icmp .lt 14, 3) := by decide +kernel
theorem dX11_checkRoom_5 : decode cX11_checkRoom 5 = .ok (.new 106, 3) := by decide +kernel
theorem dX11_checkRoom_8 : decode cX11_checkRoom 8 = .ok (.dup, 1) := by decide +kernel
theorem dX11_checkRoom_9 : decode cX11_checkRoom 9 = .ok (.ldc_w 366, 3) := by decide +kernel
theorem dX11_checkRoom_12 : decode cX11_checkRoom 12 = .ok (.invokespecial 110, 3) := by decide +kernel
theorem dX11_checkRoom_15 : decode cX11_checkRoom 15 = .ok (.athrow, 1) := by decide +kernel
theorem dX11_checkRoom_16 : decode cX11_checkRoom 16 = .ok (.return_, 1) := by decide +kernel
def wp_X11_checkRoom (x0 : Int32) (x1 : Int32) (S : xm_S) (g : xm_S → Prop) (Ex : String → xm_S → Prop) : Prop :=
  (x0 < x1 → g S) ∧ (¬ x0 < x1 → Ex xm_eS S)
set_option maxRecDepth 100000 in
set_option maxHeartbeats 4000000 in
theorem kp_X11_checkRoom {K : xm_K} (x0 : Int32) (x1 : Int32) (S : xm_S) {g : xm_S → Prop} {Ex : String → xm_S → Prop} (C : xm_Cx K cX11_checkRoom RX11 2 none rm_X11_checkRoom) (N : xm_Nx K) (hg : ∀ S, g S → xm_q K none S) (hEx : ∀ X S, Ex X S → xm_x K X S)  (h1 : wp_X11_checkRoom x0 x1 S g Ex) : xm_W K 0 0 0 [(0, xm_i x0), (1, xm_i x1)] [] S := by
  unfold wp_X11_checkRoom at h1
  refine x_iload_n C 0 dX11_checkRoom_0 rfl rfl ?_
  refine x_iload_n C 1 dX11_checkRoom_1 rfl rfl ?_
  refine x_icmp_lt (tgt := 16) C dX11_checkRoom_2 (by decide) (fun z9 => ?_) (fun z9 => ?_)
  · have h1 := h1.1 z9
    exact x_vret C (Nat.le_of_ble_eq_true rfl) (Nat.le_of_ble_eq_true rfl) rfl dX11_checkRoom_16 (hg _ h1)
  · have h1 := h1.2 z9
    exact x_throw (text := "there is no room for one more") C N th_S_in th_S_fit gw_329 gw_330 (by decide +kernel) th_S_at th_S_no th_S_ot (Nat.le_of_ble_eq_true rfl) ⟨Nat.le_of_ble_eq_true rfl, Nat.le_of_ble_eq_true rfl, (Nat.le_of_ble_eq_true rfl), (Nat.le_of_ble_eq_true rfl)⟩ dX11_checkRoom_5 dX11_checkRoom_8 (Or.inr ⟨dX11_checkRoom_9, dX11_checkRoom_12, dX11_checkRoom_15⟩) (hEx _ _ h1)
theorem kp_X11_checkRoom_met {x0 : Int32} {x1 : Int32} {S : xm_S} {g : xm_S → Prop} {Ex : String → xm_S → Prop}  (h1 : wp_X11_checkRoom x0 x1 S g Ex) : xm_Met yX11_checkRoom cX11_checkRoom 2 none rm_X11_checkRoom [xm_i x0, xm_i x1] S (xm_qv g) Ex :=
  xm_ofW RX11 (by decide +kernel) rfl (Nat.le_of_ble_eq_true rfl) (fun K C N hq hx hi => kp_X11_checkRoom x0 x1 S C N (fun S h => by rw [hq]; exact ⟨rfl, h⟩) (fun X S h => by rw [hx]; exact h)  h1)
def rm_X11_tapeAsRange : Room := { frames := 6, cells := 131, slots := 456, locals := 129 }
theorem dX11_tapeAsRange_0 : decode cX11_tapeAsRange 0 = .ok (.aload_n 0, 1) := by decide +kernel
theorem dX11_tapeAsRange_1 : decode cX11_tapeAsRange 1 = .ok (.getfield 12, 3) := by decide +kernel
theorem dX11_tapeAsRange_4 : decode cX11_tapeAsRange 4 = .ok (.invokevirtual 368, 3) := by decide +kernel
theorem dX11_tapeAsRange_7 : decode cX11_tapeAsRange 7 = .ok (.astore_n 1, 1) := by decide +kernel
theorem dX11_tapeAsRange_8 : decode cX11_tapeAsRange 8 = .ok (.aload_n 1, 1) := by decide +kernel
theorem dX11_tapeAsRange_9 : decode cX11_tapeAsRange 9 = .ok (.ifnonnull 14, 3) := by decide +kernel
theorem dX11_tapeAsRange_12 : decode cX11_tapeAsRange 12 = .ok (.new 90, 3) := by decide +kernel
theorem dX11_tapeAsRange_15 : decode cX11_tapeAsRange 15 = .ok (.dup, 1) := by decide +kernel
theorem dX11_tapeAsRange_16 : decode cX11_tapeAsRange 16 = .ok (.ldc_w 371, 3) := by decide +kernel
theorem dX11_tapeAsRange_19 : decode cX11_tapeAsRange 19 = .ok (.invokespecial 94, 3) := by decide +kernel
theorem dX11_tapeAsRange_22 : decode cX11_tapeAsRange 22 = .ok (.athrow, 1) := by decide +kernel
theorem dX11_tapeAsRange_23 : decode cX11_tapeAsRange 23 = .ok (.aload_n 1, 1) := by decide +kernel
theorem dX11_tapeAsRange_24 : decode cX11_tapeAsRange 24 = .ok (.areturn, 1) := by decide +kernel
def wp_X11_tapeAsRange (h : Nat)  (S : xm_S) (g : Option Nat → xm_S → Prop) (Ex : String → xm_S → Prop) : Prop :=
  st_t S h = some (11, 0) ∧ ∃ n2, (st_r S h 0) = some n2 ∧ st_t S n2 = some (8, 0) ∧ wp_X8_readRange n2 S (fun r6 S5 => (¬ r6 = none → g r6 S5) ∧ (r6 = none → Ex xm_eA S5))
set_option maxRecDepth 100000 in
set_option maxHeartbeats 4000000 in
theorem kp_X11_tapeAsRange {K : xm_K} (h : Nat)  (S : xm_S) {g : Option Nat → xm_S → Prop} {Ex : String → xm_S → Prop} (C : xm_Cx K cX11_tapeAsRange RX11 2 (some ((FieldType.object "Portsmith$Range"))) rm_X11_tapeAsRange) (N : xm_Nx K) (hg : ∀ v S, g v S → xm_q K (some (xm_r v)) S) (hEx : ∀ X S, Ex X S → xm_x K X S)  (h1 : wp_X11_tapeAsRange h  S g Ex) : xm_W K 0 0 0 [(0, xm_r (some h))] [] S := by
  unfold wp_X11_tapeAsRange at h1
  refine x_aload_n C 0 dX11_tapeAsRange_0 rfl rfl ?_
  obtain ⟨ht1, h1⟩ := h1
  refine x_getf_r (n := h) C rfl ht1 fd_108 (by decide) dX11_tapeAsRange_1 ?_
  obtain ⟨n2, hr3, h1⟩ := h1
  obtain ⟨ht4, h1⟩ := h1
  refine x_callV (rm' := rm_X8_readRange) (n := n2) C (kp_X8_readRange_met h1) lk_49 gw_303 gw_304 xv_8 rfl hr3 ht4 rfl (Nat.le_of_ble_eq_true rfl) ⟨Nat.le_of_ble_eq_true rfl, Nat.le_of_ble_eq_true rfl, (Nat.le_of_ble_eq_true rfl), (Nat.le_of_ble_eq_true rfl)⟩ dX11_tapeAsRange_4 xm_kx (xm_kr (fun r6 S5 h1 => ?_))
  refine x_astore_n (L' := [(1, xm_r r6), (0, xm_r (some h))]) C dX11_tapeAsRange_7 rfl (by decide) rfl ?_
  refine x_aload_n C 0 dX11_tapeAsRange_8 rfl rfl ?_
  refine x_ifnonnull (tgt := 23) C dX11_tapeAsRange_9 (by decide) (fun z9 => ?_) (fun z9 => ?_)
  · have h1 := h1.1 z9
    refine x_aload_n C 0 dX11_tapeAsRange_23 rfl rfl ?_
    exact x_aret C (Nat.le_of_ble_eq_true rfl) (Nat.le_of_ble_eq_true rfl) rfl (by first | exact Or.inl ⟨_, rfl⟩ | exact Or.inr ⟨_, rfl⟩) dX11_tapeAsRange_24 (hg _ _ h1)
  · have h1 := h1.2 z9
    exact x_throw (text := "the tape has a fault") C N th_A_in th_A_fit gw_327 gw_328 (by decide +kernel) th_A_at th_A_no th_A_ot (Nat.le_of_ble_eq_true rfl) ⟨Nat.le_of_ble_eq_true rfl, Nat.le_of_ble_eq_true rfl, (Nat.le_of_ble_eq_true rfl), (Nat.le_of_ble_eq_true rfl)⟩ dX11_tapeAsRange_12 dX11_tapeAsRange_15 (Or.inr ⟨dX11_tapeAsRange_16, dX11_tapeAsRange_19, dX11_tapeAsRange_22⟩) (hEx _ _ h1)
theorem kp_X11_tapeAsRange_met {h : Nat}  {S : xm_S} {g : Option Nat → xm_S → Prop} {Ex : String → xm_S → Prop}  (h1 : wp_X11_tapeAsRange h  S g Ex) : xm_Met yX11_tapeAsRange cX11_tapeAsRange 2 (some ((FieldType.object "Portsmith$Range"))) rm_X11_tapeAsRange [xm_r (some h)] S (xm_qr g) Ex :=
  xm_ofW RX11 (by decide +kernel) rfl (Nat.le_of_ble_eq_true rfl) (fun K C N hq hx hi => kp_X11_tapeAsRange h  S C N (fun v S h => by rw [hq]; exact ⟨v, rfl, h⟩) (fun X S h => by rw [hx]; exact h)  h1)
def rm_X11_advise : Room := { frames := 7, cells := 135, slots := 477, locals := 150 }
theorem dX11_advise_0 : decode cX11_advise 0 = .ok (.iload_n 1, 1) := by decide +kernel
theorem dX11_advise_1 : decode cX11_advise 1 = .ok (.invokestatic 122, 3) := by decide +kernel
theorem dX11_advise_4 : decode cX11_advise 4 = .ok (.iload_n 2, 1) := by decide +kernel
theorem dX11_advise_5 : decode cX11_advise 5 = .ok (.iconst 1, 1) := by decide +kernel
theorem dX11_advise_6 : decode cX11_advise 6 = .ok (.bipush 9, 2) := by decide +kernel
theorem dX11_advise_8 : decode cX11_advise 8 = .ok (.invokestatic 132, 3) := by decide +kernel
theorem dX11_advise_11 : decode cX11_advise 11 = .ok (.aload_n 0, 1) := by decide +kernel
theorem dX11_advise_12 : decode cX11_advise 12 = .ok (.invokevirtual 161, 3) := by decide +kernel
theorem dX11_advise_15 : decode cX11_advise 15 = .ok (.astore_n 3, 1) := by decide +kernel
theorem dX11_advise_16 : decode cX11_advise 16 = .ok (.aload_n 0, 1) := by decide +kernel
theorem dX11_advise_17 : decode cX11_advise 17 = .ok (.getfield 41, 3) := by decide +kernel
theorem dX11_advise_20 : decode cX11_advise 20 = .ok (.bipush 6, 2) := by decide +kernel
theorem dX11_advise_22 : decode cX11_advise 22 = .ok (.invokestatic 139, 3) := by decide +kernel
theorem dX11_advise_25 : decode cX11_advise 25 = .ok (.aload_n 0, 1) := by decide +kernel
theorem dX11_advise_26 : decode cX11_advise 26 = .ok (.getfield 37, 3) := by decide +kernel
theorem dX11_advise_29 : decode cX11_advise 29 = .ok (.aload_n 0, 1) := by decide +kernel
theorem dX11_advise_30 : decode cX11_advise 30 = .ok (.getfield 41, 3) := by decide +kernel
theorem dX11_advise_33 : decode cX11_advise 33 = .ok (.new 35, 3) := by decide +kernel
theorem dX11_advise_36 : decode cX11_advise 36 = .ok (.dup, 1) := by decide +kernel
theorem dX11_advise_37 : decode cX11_advise 37 = .ok (.iload_n 1, 1) := by decide +kernel
theorem dX11_advise_38 : decode cX11_advise 38 = .ok (.aload_n 3, 1) := by decide +kernel
theorem dX11_advise_39 : decode cX11_advise 39 = .ok (.iload_n 2, 1) := by decide +kernel
theorem dX11_advise_40 : decode cX11_advise 40 = .ok (.invokespecial 241, 3) := by decide +kernel
theorem dX11_advise_43 : decode cX11_advise 43 = .ok (.aastore, 1) := by decide +kernel
theorem dX11_advise_44 : decode cX11_advise 44 = .ok (.aload_n 0, 1) := by decide +kernel
theorem dX11_advise_45 : decode cX11_advise 45 = .ok (.dup, 1) := by decide +kernel
theorem dX11_advise_46 : decode cX11_advise 46 = .ok (.getfield 41, 3) := by decide +kernel
theorem dX11_advise_49 : decode cX11_advise 49 = .ok (.iconst 1, 1) := by decide +kernel
theorem dX11_advise_50 : decode cX11_advise 50 = .ok (.iadd, 1) := by decide +kernel
theorem dX11_advise_51 : decode cX11_advise 51 = .ok (.putfield 41, 3) := by decide +kernel
theorem dX11_advise_54 : decode cX11_advise 54 = .ok (.aload_n 0, 1) := by decide +kernel
theorem dX11_advise_55 : decode cX11_advise 55 = .ok (.getfield 12, 3) := by decide +kernel
theorem dX11_advise_58 : decode cX11_advise 58 = .ok (.invokevirtual 115, 3) := by decide +kernel
theorem dX11_advise_61 : decode cX11_advise 61 = .ok (.aload_n 0, 1) := by decide +kernel
theorem dX11_advise_62 : decode cX11_advise 62 = .ok (.getfield 41, 3) := by decide +kernel
theorem dX11_advise_65 : decode cX11_advise 65 = .ok (.ireturn, 1) := by decide +kernel
def wp_X11_advise (h : Nat) (x1 : Int32) (x2 : Int32) (S : xm_S) (g : Int32 → xm_S → Prop) (Ex : String → xm_S → Prop) : Prop :=
  wp_X11_checkPack x1 S (fun S1 => wp_X11_checkRange x2 (1 : Int32) (nI 9) S1 (fun S3 => st_t S3 h = some (11, 0) ∧ wp_X11_tapeAsRange h S3 (fun r7 S6 => st_t S6 h = some (11, 0) ∧ wp_X11_checkRoom (st_i S6 h 6) (nI 6) S6 (fun S9 => st_t S9 h = some (11, 0) ∧ ∃ n12, st_t S9 n12 = none ∧ ∀ S14, S14 = st_nw S9 n12 (0, 0) → wp_X0_init n12 x1 r7 x2 S14 (fun S16 => ∃ n18, (st_r S9 h 5) = some n18 ∧ ∃ z21, st_t S16 n18 = some (110, z21) ∧ vp_in (st_i S9 h 6) z21 ∧ (∀ v9, (some n12) = some v9 → st_t S16 v9 = some (0, 0)) ∧ ∀ S24, S24 = st_pr S16 n18 ((st_i S9 h 6)).toNatClampNeg (some n12) → st_t S24 h = some (11, 0) ∧ ∀ S27, S27 = st_pi S24 h 6 ((st_i S24 h 6) + (1 : Int32)) → ∃ n29, (st_r S27 h 0) = some n29 ∧ st_t S27 n29 = some (8, 0) ∧ wp_X8_clear n29 S27 (fun S32 => st_t S32 h = some (11, 0) ∧ g (st_i S32 h 6) S32))) Ex) Ex) Ex) Ex
set_option maxRecDepth 100000 in
set_option maxHeartbeats 4000000 in
theorem kp_X11_advise {K : xm_K} (h : Nat) (x1 : Int32) (x2 : Int32) (S : xm_S) {g : Int32 → xm_S → Prop} {Ex : String → xm_S → Prop} (C : xm_Cx K cX11_advise RX11 4 (some (FieldType.int)) rm_X11_advise) (N : xm_Nx K) (hg : ∀ v S, g v S → xm_q K (some (xm_i v)) S) (hEx : ∀ X S, Ex X S → xm_x K X S)  (h1 : wp_X11_advise h x1 x2 S g Ex) : xm_W K 0 0 0 [(0, xm_r (some h)), (1, xm_i x1), (2, xm_i x2)] [] S := by
  unfold wp_X11_advise at h1
  refine x_iload_n C 1 dX11_advise_0 rfl rfl ?_
  refine x_callS (rm' := rm_X11_checkPack) C (kp_X11_checkPack_met h1) lk_50 gw_336 rfl (Nat.le_of_ble_eq_true rfl) ⟨Nat.le_of_ble_eq_true rfl, Nat.le_of_ble_eq_true rfl, (Nat.le_of_ble_eq_true rfl), (Nat.le_of_ble_eq_true rfl)⟩ dX11_advise_1 (fun X9 S9 hx9 => x_thru C N (Nat.le_of_ble_eq_true rfl) (Nat.le_of_ble_eq_true rfl) (hEx _ _ hx9)) (xm_kv (fun S1 h1 => ?_))
  refine x_iload_n C 2 dX11_advise_4 rfl rfl ?_
  refine x_iconst (v := (1 : Int32)) C dX11_advise_5 (by decide) ?_
  refine x_bipush (v := (nI 9)) C dX11_advise_6 (by decide) ?_
  refine x_callS (rm' := rm_X11_checkRange) C (kp_X11_checkRange_met h1) lk_51 gw_339 rfl (Nat.le_of_ble_eq_true rfl) ⟨Nat.le_of_ble_eq_true rfl, Nat.le_of_ble_eq_true rfl, (Nat.le_of_ble_eq_true rfl), (Nat.le_of_ble_eq_true rfl)⟩ dX11_advise_8 (fun X9 S9 hx9 => x_thru C N (Nat.le_of_ble_eq_true rfl) (Nat.le_of_ble_eq_true rfl) (hEx _ _ hx9)) (xm_kv (fun S3 h1 => ?_))
  refine x_aload_n C 0 dX11_advise_11 rfl rfl ?_
  obtain ⟨ht5, h1⟩ := h1
  refine x_callV (rm' := rm_X11_tapeAsRange) (n := h) C (kp_X11_tapeAsRange_met h1) lk_52 gw_342 gw_343 xv_11 rfl rfl ht5 rfl (Nat.le_of_ble_eq_true rfl) ⟨Nat.le_of_ble_eq_true rfl, Nat.le_of_ble_eq_true rfl, (Nat.le_of_ble_eq_true rfl), (Nat.le_of_ble_eq_true rfl)⟩ dX11_advise_12 (fun X9 S9 hx9 => x_thru C N (Nat.le_of_ble_eq_true rfl) (Nat.le_of_ble_eq_true rfl) (hEx _ _ hx9)) (xm_kr (fun r7 S6 h1 => ?_))
  refine x_astore_n (L' := [(3, xm_r r7), (0, xm_r (some h)), (1, xm_i x1), (2, xm_i x2)]) C dX11_advise_15 rfl (by decide) rfl ?_
  refine x_aload_n C 1 dX11_advise_16 rfl rfl ?_
  obtain ⟨ht8, h1⟩ := h1
  refine x_getf_i (n := h) C rfl ht8 fd_109 (by decide) dX11_advise_17 ?_
  refine x_bipush (v := (nI 6)) C dX11_advise_20 (by decide) ?_
  refine x_callS (rm' := rm_X11_checkRoom) C (kp_X11_checkRoom_met h1) lk_53 gw_347 rfl (Nat.le_of_ble_eq_true rfl) ⟨Nat.le_of_ble_eq_true rfl, Nat.le_of_ble_eq_true rfl, (Nat.le_of_ble_eq_true rfl), (Nat.le_of_ble_eq_true rfl)⟩ dX11_advise_22 (fun X9 S9 hx9 => x_thru C N (Nat.le_of_ble_eq_true rfl) (Nat.le_of_ble_eq_true rfl) (hEx _ _ hx9)) (xm_kv (fun S9 h1 => ?_))
  refine x_aload_n C 1 dX11_advise_25 rfl rfl ?_
  obtain ⟨ht11, h1⟩ := h1
  refine x_getf_r (n := h) C rfl ht11 fd_110 (by decide) dX11_advise_26 ?_
  refine x_aload_n C 1 dX11_advise_29 rfl rfl ?_
  refine x_getf_i (n := h) C rfl ht11 fd_109 (by decide) dX11_advise_30 ?_
  obtain ⟨n12, hn13, h1⟩ := h1
  refine x_new (n := n12) C xc_0 gw_349 hn13 (Nat.le_of_ble_eq_true rfl) (Nat.le_of_ble_eq_true rfl) dX11_advise_33 ?_
  refine x_topS (fun S14 e15 => ?_)
  have h1 := h1 S14 e15
  refine x_dup_r C dX11_advise_36 ?_
  refine x_iload_n C 2 dX11_advise_37 rfl rfl ?_
  refine x_aload_n C 0 dX11_advise_38 rfl rfl ?_
  refine x_iload_n C 3 dX11_advise_39 rfl rfl ?_
  refine x_callI (rm' := rm_X0_init) (n := n12) C (kp_X0_init_met h1) lk_54 gw_353 rfl rfl rfl (Nat.le_of_ble_eq_true rfl) ⟨Nat.le_of_ble_eq_true rfl, Nat.le_of_ble_eq_true rfl, (Nat.le_of_ble_eq_true rfl), (Nat.le_of_ble_eq_true rfl)⟩ dX11_advise_40 xm_kx (xm_kv (fun S16 h1 => ?_))
  obtain ⟨n18, hr19, h1⟩ := h1
  obtain ⟨z21, ht20, h1⟩ := h1
  obtain ⟨hi22, h1⟩ := h1
  obtain ⟨hv23, h1⟩ := h1
  refine x_aast (n := n18) (ci := 0) C hr19 (by decide) rfl rfl ht20 hi22 hv23 dX11_advise_43 ?_
  refine x_topS (fun S24 e25 => ?_)
  have h1 := h1 S24 e25
  refine x_aload_n C 1 dX11_advise_44 rfl rfl ?_
  refine x_dup_r C dX11_advise_45 ?_
  obtain ⟨ht26, h1⟩ := h1
  refine x_getf_i (n := h) C rfl ht26 fd_109 (by decide) dX11_advise_46 ?_
  refine x_iconst (v := (1 : Int32)) C dX11_advise_49 (by decide) ?_
  refine x_iadd C dX11_advise_50 ?_
  refine x_putf_i (n := h) C rfl ht26 fd_109 xc_11 (by decide) rfl ⟨rfl, rfl⟩ dX11_advise_51 ?_
  refine x_topS (fun S27 e28 => ?_)
  have h1 := h1 S27 e28
  refine x_aload_n C 1 dX11_advise_54 rfl rfl ?_
  refine x_getf_r (n := h) C rfl (tk_p e28 ht26) fd_108 (by decide) dX11_advise_55 ?_
  obtain ⟨n29, hr30, h1⟩ := h1
  obtain ⟨ht31, h1⟩ := h1
  refine x_callV (rm' := rm_X8_clear) (n := n29) C (kp_X8_clear_met h1) lk_55 gw_356 gw_357 xv_8 rfl hr30 ht31 rfl (Nat.le_of_ble_eq_true rfl) ⟨Nat.le_of_ble_eq_true rfl, Nat.le_of_ble_eq_true rfl, (Nat.le_of_ble_eq_true rfl), (Nat.le_of_ble_eq_true rfl)⟩ dX11_advise_58 xm_kx (xm_kv (fun S32 h1 => ?_))
  refine x_aload_n C 1 dX11_advise_61 rfl rfl ?_
  obtain ⟨ht34, h1⟩ := h1
  refine x_getf_i (n := h) C rfl ht34 fd_109 (by decide) dX11_advise_62 ?_
  exact x_iret C (Nat.le_of_ble_eq_true rfl) (Nat.le_of_ble_eq_true rfl) rfl dX11_advise_65 (hg _ _ h1)
theorem kp_X11_advise_met {h : Nat} {x1 : Int32} {x2 : Int32} {S : xm_S} {g : Int32 → xm_S → Prop} {Ex : String → xm_S → Prop}  (h1 : wp_X11_advise h x1 x2 S g Ex) : xm_Met yX11_advise cX11_advise 4 (some (FieldType.int)) rm_X11_advise [xm_r (some h), xm_i x1, xm_i x2] S (xm_qi g) Ex :=
  xm_ofW RX11 (by decide +kernel) rfl (Nat.le_of_ble_eq_true rfl) (fun K C N hq hx hi => kp_X11_advise h x1 x2 S C N (fun v S h => by rw [hq]; exact ⟨v, rfl, h⟩) (fun X S h => by rw [hx]; exact h)  h1)
def rm_X11_checkPlatform : Room := { frames := 6, cells := 1, slots := 6, locals := 100 }
theorem dX11_checkPlatform_0 : decode cX11_checkPlatform 0 = .ok (.iload_n 0, 1) := by decide +kernel
theorem dX11_checkPlatform_1 : decode cX11_checkPlatform 1 = .ok (.ifCond .lt 8, 3) := by decide +kernel
theorem dX11_checkPlatform_4 : decode cX11_checkPlatform 4 = .ok (.iload_n 0, 1) := by decide +kernel
theorem dX11_checkPlatform_5 : decode cX11_checkPlatform 5 = .ok (.iconst 3, 1) := by decide +kernel
theorem dX11_checkPlatform_6 : decode cX11_checkPlatform 6 = .ok (.if_icmp .lt 14, 3) := by decide +kernel
theorem dX11_checkPlatform_9 : decode cX11_checkPlatform 9 = .ok (.new 349, 3) := by decide +kernel
theorem dX11_checkPlatform_12 : decode cX11_checkPlatform 12 = .ok (.dup, 1) := by decide +kernel
theorem dX11_checkPlatform_13 : decode cX11_checkPlatform 13 = .ok (.ldc_w 356, 3) := by decide +kernel
theorem dX11_checkPlatform_16 : decode cX11_checkPlatform 16 = .ok (.invokespecial 353, 3) := by decide +kernel
theorem dX11_checkPlatform_19 : decode cX11_checkPlatform 19 = .ok (.athrow, 1) := by decide +kernel
theorem dX11_checkPlatform_20 : decode cX11_checkPlatform 20 = .ok (.return_, 1) := by decide +kernel
def wp_X11_checkPlatform_9  (S : xm_S) (g : xm_S → Prop) (Ex : String → xm_S → Prop) : Prop :=
  Ex xm_eI S
set_option maxRecDepth 100000 in
set_option maxHeartbeats 4000000 in
theorem kp_X11_checkPlatform_9 {K : xm_K}  (S : xm_S) {g : xm_S → Prop} {Ex : String → xm_S → Prop} (C : xm_Cx K cX11_checkPlatform RX11 1 none rm_X11_checkPlatform) (N : xm_Nx K) (hg : ∀ S, g S → xm_q K none S) (hEx : ∀ X S, Ex X S → xm_x K X S)  (h1 : wp_X11_checkPlatform_9  S g Ex) : xm_W K 0 0 9 [] [] S := by
  unfold wp_X11_checkPlatform_9 at h1
  exact x_throw (text := "no such platform") C N th_I_in th_I_fit gw_325 gw_326 (by decide +kernel) th_I_at th_I_no th_I_ot (Nat.le_of_ble_eq_true rfl) ⟨Nat.le_of_ble_eq_true rfl, Nat.le_of_ble_eq_true rfl, (Nat.le_of_ble_eq_true rfl), (Nat.le_of_ble_eq_true rfl)⟩ dX11_checkPlatform_9 dX11_checkPlatform_12 (Or.inr ⟨dX11_checkPlatform_13, dX11_checkPlatform_16, dX11_checkPlatform_19⟩) (hEx _ _ h1)
def wp_X11_checkPlatform (x0 : Int32) (S : xm_S) (g : xm_S → Prop) (Ex : String → xm_S → Prop) : Prop :=
  (x0 < 0 → wp_X11_checkPlatform_9 S g Ex) ∧ (¬ x0 < 0 → (x0 < (nI 3) → g S) ∧ (¬ x0 < (nI 3) → wp_X11_checkPlatform_9 S g Ex))
set_option maxRecDepth 100000 in
set_option maxHeartbeats 4000000 in
theorem kp_X11_checkPlatform {K : xm_K} (x0 : Int32) (S : xm_S) {g : xm_S → Prop} {Ex : String → xm_S → Prop} (C : xm_Cx K cX11_checkPlatform RX11 1 none rm_X11_checkPlatform) (N : xm_Nx K) (hg : ∀ S, g S → xm_q K none S) (hEx : ∀ X S, Ex X S → xm_x K X S)  (h1 : wp_X11_checkPlatform x0 S g Ex) : xm_W K 0 0 0 [(0, xm_i x0)] [] S := by
  unfold wp_X11_checkPlatform at h1
  refine x_iload_n C 0 dX11_checkPlatform_0 rfl rfl ?_
  refine x_if_lt (tgt := 9) C dX11_checkPlatform_1 (by decide) (fun z9 => ?_) (fun z9 => ?_)
  · have h1 := h1.1 z9
    refine x_keep (L' := []) C [] rfl ?_
    exact kp_X11_checkPlatform_9 S C N hg hEx  h1
  · have h1 := h1.2 z9
    refine x_iload_n C 0 dX11_checkPlatform_4 rfl rfl ?_
    refine x_iconst (v := (nI 3)) C dX11_checkPlatform_5 (by decide) ?_
    refine x_icmp_lt (tgt := 20) C dX11_checkPlatform_6 (by decide) (fun z9 => ?_) (fun z9 => ?_)
    · have h1 := h1.1 z9
      exact x_vret C (Nat.le_of_ble_eq_true rfl) (Nat.le_of_ble_eq_true rfl) rfl dX11_checkPlatform_20 (hg _ h1)
    · have h1 := h1.2 z9
      refine x_keep (L' := []) C [] rfl ?_
      exact kp_X11_checkPlatform_9 S C N hg hEx  h1
theorem kp_X11_checkPlatform_met {x0 : Int32} {S : xm_S} {g : xm_S → Prop} {Ex : String → xm_S → Prop}  (h1 : wp_X11_checkPlatform x0 S g Ex) : xm_Met yX11_checkPlatform cX11_checkPlatform 1 none rm_X11_checkPlatform [xm_i x0] S (xm_qv g) Ex :=
  xm_ofW RX11 (by decide +kernel) rfl (Nat.le_of_ble_eq_true rfl) (fun K C N hq hx hi => kp_X11_checkPlatform x0 S C N (fun S h => by rw [hq]; exact ⟨rfl, h⟩) (fun X S h => by rw [hx]; exact h)  h1)
def rm_X11_isIncluded : Room := { frames := 3, cells := 0, slots := 0, locals := 69 }
theorem dX11_isIncluded_0 : decode cX11_isIncluded 0 = .ok (.iload_n 3, 1) := by decide +kernel
theorem dX11_isIncluded_1 : decode cX11_isIncluded 1 = .ok (.iconst (-1), 1) := by decide +kernel
theorem dX11_isIncluded_2 : decode cX11_isIncluded 2 = .ok (.if_icmp .eq 37, 3) := by decide +kernel
theorem dX11_isIncluded_5 : decode cX11_isIncluded 5 = .ok (.aload_n 1, 1) := by decide +kernel
theorem dX11_isIncluded_6 : decode cX11_isIncluded 6 = .ok (.aload_n 0, 1) := by decide +kernel
theorem dX11_isIncluded_7 : decode cX11_isIncluded 7 = .ok (.getfield 18, 3) := by decide +kernel
theorem dX11_isIncluded_10 : decode cX11_isIncluded 10 = .ok (.iload_n 2, 1) := by decide +kernel
theorem dX11_isIncluded_11 : decode cX11_isIncluded 11 = .ok (.aaload, 1) := by decide +kernel
theorem dX11_isIncluded_12 : decode cX11_isIncluded 12 = .ok (.getfield 143, 3) := by decide +kernel
theorem dX11_isIncluded_15 : decode cX11_isIncluded 15 = .ok (.iload_n 3, 1) := by decide +kernel
theorem dX11_isIncluded_16 : decode cX11_isIncluded 16 = .ok (.aaload, 1) := by decide +kernel
theorem dX11_isIncluded_17 : decode cX11_isIncluded 17 = .ok (.getfield 203, 3) := by decide +kernel
theorem dX11_isIncluded_20 : decode cX11_isIncluded 20 = .ok (.aload_n 0, 1) := by decide +kernel
theorem dX11_isIncluded_21 : decode cX11_isIncluded 21 = .ok (.getfield 18, 3) := by decide +kernel
theorem dX11_isIncluded_24 : decode cX11_isIncluded 24 = .ok (.iload_n 2, 1) := by decide +kernel
theorem dX11_isIncluded_25 : decode cX11_isIncluded 25 = .ok (.aaload, 1) := by decide +kernel
theorem dX11_isIncluded_26 : decode cX11_isIncluded 26 = .ok (.getfield 128, 3) := by decide +kernel
theorem dX11_isIncluded_29 : decode cX11_isIncluded 29 = .ok (.invokevirtual 206, 3) := by decide +kernel
theorem dX11_isIncluded_32 : decode cX11_isIncluded 32 = .ok (.ifCond .eq 7, 3) := by decide +kernel
theorem dX11_isIncluded_35 : decode cX11_isIncluded 35 = .ok (.iconst 1, 1) := by decide +kernel
theorem dX11_isIncluded_36 : decode cX11_isIncluded 36 = .ok (.goto 4, 3) := by decide +kernel
theorem dX11_isIncluded_39 : decode cX11_isIncluded 39 = .ok (.iconst 0, 1) := by decide +kernel
theorem dX11_isIncluded_40 : decode cX11_isIncluded 40 = .ok (.ireturn, 1) := by decide +kernel
def wp_X11_isIncluded_40 (h : Nat) (s0 : Int32) (S : xm_S) (g : Int32 → xm_S → Prop) : Prop :=
  (s0 = 0 ∨ s0 = 1) ∧ g s0 S
set_option maxRecDepth 100000 in
set_option maxHeartbeats 4000000 in
theorem kp_X11_isIncluded_40 {K : xm_K} (h : Nat) (s0 : Int32) (S : xm_S) {g : Int32 → xm_S → Prop} (C : xm_Cx K cX11_isIncluded RX11 4 (some (FieldType.boolean)) rm_X11_isIncluded) (N : xm_Nx K) (hg : ∀ v S, g v S → xm_q K (some (xm_i v)) S)  (h1 : wp_X11_isIncluded_40 h s0 S g) : xm_W K 0 0 40 [] [xm_i s0] S := by
  unfold wp_X11_isIncluded_40 at h1
  exact x_zret C (Nat.le_of_ble_eq_true rfl) (Nat.le_of_ble_eq_true rfl) rfl h1.1 dX11_isIncluded_40 (hg _ _ h1.2)
def wp_X11_isIncluded_39 (h : Nat)  (S : xm_S) (g : Int32 → xm_S → Prop) : Prop :=
  wp_X11_isIncluded_40 h (0 : Int32) S g
set_option maxRecDepth 100000 in
set_option maxHeartbeats 4000000 in
theorem kp_X11_isIncluded_39 {K : xm_K} (h : Nat)  (S : xm_S) {g : Int32 → xm_S → Prop} (C : xm_Cx K cX11_isIncluded RX11 4 (some (FieldType.boolean)) rm_X11_isIncluded) (N : xm_Nx K) (hg : ∀ v S, g v S → xm_q K (some (xm_i v)) S)  (h1 : wp_X11_isIncluded_39 h  S g) : xm_W K 0 0 39 [] [] S := by
  unfold wp_X11_isIncluded_39 at h1
  refine x_iconst (v := (0 : Int32)) C dX11_isIncluded_39 (by decide) ?_
  exact kp_X11_isIncluded_40 h (0 : Int32) S C N hg  h1
def wp_X11_isIncluded (h : Nat) (x1 : Option Nat) (x2 : Int32) (x3 : Int32) (S : xm_S) (g : Int32 → xm_S → Prop) : Prop :=
  (x3 = (-1 : Int32) → wp_X11_isIncluded_39 h S g) ∧ (¬ x3 = (-1 : Int32) → st_t S h = some (11, 0) ∧ ∃ n2, (st_r S h 1) = some n2 ∧ ∃ z5, st_t S n2 = some (115, z5) ∧ vp_in x2 z5 ∧ ∃ n7, (st_r S n2 (x2).toNatClampNeg) = some n7 ∧ st_t S n7 = some (5, 0) ∧ ∃ n10, (st_r S n7 1) = some n10 ∧ ∃ z13, st_t S n10 = some (120, z13) ∧ vp_in x3 z13 ∧ ∃ n15, (st_r S n10 (x3).toNatClampNeg) = some n15 ∧ st_t S n15 = some (10, 0) ∧ ∃ n18, (st_r S h 1) = some n18 ∧ ∃ z21, st_t S n18 = some (115, z21) ∧ vp_in x2 z21 ∧ ∃ n23, (st_r S n18 (x2).toNatClampNeg) = some n23 ∧ st_t S n23 = some (5, 0) ∧ ∃ n26, x1 = some n26 ∧ st_t S n26 = some (6, 0) ∧ wp_X6_includes n26 (st_i S n15 0) (st_i S n23 0) S (fun r30 S29 => (r30 = 0 → wp_X11_isIncluded_39 h S29 g) ∧ (¬ r30 = 0 → wp_X11_isIncluded_40 h (1 : Int32) S29 g)))
set_option maxRecDepth 100000 in
set_option maxHeartbeats 4000000 in
theorem kp_X11_isIncluded {K : xm_K} (h : Nat) (x1 : Option Nat) (x2 : Int32) (x3 : Int32) (S : xm_S) {g : Int32 → xm_S → Prop} (C : xm_Cx K cX11_isIncluded RX11 4 (some (FieldType.boolean)) rm_X11_isIncluded) (N : xm_Nx K) (hg : ∀ v S, g v S → xm_q K (some (xm_i v)) S)  (h1 : wp_X11_isIncluded h x1 x2 x3 S g) : xm_W K 0 0 0 [(0, xm_r (some h)), (1, xm_r x1), (2, xm_i x2), (3, xm_i x3)] [] S := by
  unfold wp_X11_isIncluded at h1
  refine x_iload_n C 3 dX11_isIncluded_0 rfl rfl ?_
  refine x_iconst (v := (-1 : Int32)) C dX11_isIncluded_1 (by decide) ?_
  refine x_icmp_eq (tgt := 39) C dX11_isIncluded_2 (by decide) (fun z9 => ?_) (fun z9 => ?_)
  · have h1 := h1.1 z9
    refine x_keep (L' := []) C [] rfl ?_
    exact kp_X11_isIncluded_39 h S C N hg  h1
  · have h1 := h1.2 z9
    refine x_aload_n C 1 dX11_isIncluded_5 rfl rfl ?_
    refine x_aload_n C 0 dX11_isIncluded_6 rfl rfl ?_
    obtain ⟨ht1, h1⟩ := h1
    refine x_getf_r (n := h) C rfl ht1 fd_111 (by decide) dX11_isIncluded_7 ?_
    refine x_iload_n C 2 dX11_isIncluded_10 rfl rfl ?_
    obtain ⟨n2, hr3, h1⟩ := h1
    obtain ⟨z5, ht4, h1⟩ := h1
    obtain ⟨hi6, h1⟩ := h1
    refine x_aald (n := n2) C hr3 (by decide) rfl ht4 hi6 dX11_isIncluded_11 ?_
    obtain ⟨n7, hr8, h1⟩ := h1
    obtain ⟨ht9, h1⟩ := h1
    refine x_getf_r (n := n7) C hr8 ht9 fd_112 (by decide) dX11_isIncluded_12 ?_
    refine x_iload_n C 3 dX11_isIncluded_15 rfl rfl ?_
    obtain ⟨n10, hr11, h1⟩ := h1
    obtain ⟨z13, ht12, h1⟩ := h1
    obtain ⟨hi14, h1⟩ := h1
    refine x_aald (n := n10) C hr11 (by decide) rfl ht12 hi14 dX11_isIncluded_16 ?_
    obtain ⟨n15, hr16, h1⟩ := h1
    obtain ⟨ht17, h1⟩ := h1
    refine x_getf_i (n := n15) C hr16 ht17 fd_113 (by decide) dX11_isIncluded_17 ?_
    refine x_aload_n C 0 dX11_isIncluded_20 rfl rfl ?_
    refine x_getf_r (n := h) C rfl ht1 fd_111 (by decide) dX11_isIncluded_21 ?_
    refine x_iload_n C 2 dX11_isIncluded_24 rfl rfl ?_
    obtain ⟨n18, hr19, h1⟩ := h1
    obtain ⟨z21, ht20, h1⟩ := h1
    obtain ⟨hi22, h1⟩ := h1
    refine x_aald (n := n18) C hr19 (by decide) rfl ht20 hi22 dX11_isIncluded_25 ?_
    obtain ⟨n23, hr24, h1⟩ := h1
    obtain ⟨ht25, h1⟩ := h1
    refine x_getf_i (n := n23) C hr24 ht25 fd_114 (by decide) dX11_isIncluded_26 ?_
    obtain ⟨n26, hr27, h1⟩ := h1
    obtain ⟨ht28, h1⟩ := h1
    refine x_callV (rm' := rm_X6_includes) (n := n26) C (kp_X6_includes_met h1) lk_56 gw_225 gw_226 xv_6 rfl hr27 ht28 rfl (Nat.le_of_ble_eq_true rfl) ⟨Nat.le_of_ble_eq_true rfl, Nat.le_of_ble_eq_true rfl, (Nat.le_of_ble_eq_true rfl), (Nat.le_of_ble_eq_true rfl)⟩ dX11_isIncluded_29 xm_kx (xm_ki (fun r30 S29 h1 => ?_))
    refine x_if_eq (tgt := 39) C dX11_isIncluded_32 (by decide) (fun z9 => ?_) (fun z9 => ?_)
    · have h1 := h1.1 z9
      refine x_keep (L' := []) C [] rfl ?_
      exact kp_X11_isIncluded_39 h S29 C N hg  h1
    · have h1 := h1.2 z9
      refine x_iconst (v := (1 : Int32)) C dX11_isIncluded_35 (by decide) ?_
      refine x_goto (tgt := 40) C dX11_isIncluded_36 (by decide) ?_
      refine x_keep (L' := []) C [] rfl ?_
      exact kp_X11_isIncluded_40 h (1 : Int32) S29 C N hg  h1
theorem kp_X11_isIncluded_met {h : Nat} {x1 : Option Nat} {x2 : Int32} {x3 : Int32} {S : xm_S} {g : Int32 → xm_S → Prop}  (h1 : wp_X11_isIncluded h x1 x2 x3 S g) : xm_Met yX11_isIncluded cX11_isIncluded 4 (some (FieldType.boolean)) rm_X11_isIncluded [xm_r (some h), xm_r x1, xm_i x2, xm_i x3] S (xm_qi g) xm_nox :=
  xm_ofW RX11 (by decide +kernel) rfl (Nat.le_of_ble_eq_true rfl) (fun K C N hq hx hi => kp_X11_isIncluded h x1 x2 x3 S C N (fun v S h => by rw [hq]; exact ⟨v, rfl, h⟩)  h1)
def rm_X11_advised : Room := { frames := 7, cells := 2, slots := 12, locals := 122 }
theorem dX11_advised_0 : decode cX11_advised 0 = .ok (.iload_n 1, 1) := by decide +kernel
theorem dX11_advised_1 : decode cX11_advised 1 = .ok (.invokestatic 212, 3) := by decide +kernel
theorem dX11_advised_4 : decode cX11_advised 4 = .ok (.iload_n 2, 1) := by decide +kernel
theorem dX11_advised_5 : decode cX11_advised 5 = .ok (.iconst 1, 1) := by decide +kernel
theorem dX11_advised_6 : decode cX11_advised 6 = .ok (.bipush 9, 2) := by decide +kernel
theorem dX11_advised_8 : decode cX11_advised 8 = .ok (.invokestatic 132, 3) := by decide +kernel
theorem dX11_advised_11 : decode cX11_advised 11 = .ok (.iconst 0, 1) := by decide +kernel
theorem dX11_advised_12 : decode cX11_advised 12 = .ok (.istore_n 3, 1) := by decide +kernel
theorem dX11_advised_13 : decode cX11_advised 13 = .ok (.iconst 0, 1) := by decide +kernel
theorem dX11_advised_14 : decode cX11_advised 14 = .ok (.istore 4, 2) := by decide +kernel
theorem dX11_advised_16 : decode cX11_advised 16 = .ok (.iload 4, 2) := by decide +kernel
theorem dX11_advised_18 : decode cX11_advised 18 = .ok (.aload_n 0, 1) := by decide +kernel
theorem dX11_advised_19 : decode cX11_advised 19 = .ok (.getfield 41, 3) := by decide +kernel
theorem dX11_advised_22 : decode cX11_advised 22 = .ok (.if_icmp .ge 70, 3) := by decide +kernel
theorem dX11_advised_25 : decode cX11_advised 25 = .ok (.aload_n 0, 1) := by decide +kernel
theorem dX11_advised_26 : decode cX11_advised 26 = .ok (.getfield 37, 3) := by decide +kernel
theorem dX11_advised_29 : decode cX11_advised 29 = .ok (.iload 4, 2) := by decide +kernel
theorem dX11_advised_31 : decode cX11_advised 31 = .ok (.aaload, 1) := by decide +kernel
theorem dX11_advised_32 : decode cX11_advised 32 = .ok (.astore 5, 2) := by decide +kernel
theorem dX11_advised_34 : decode cX11_advised 34 = .ok (.aload_n 0, 1) := by decide +kernel
theorem dX11_advised_35 : decode cX11_advised 35 = .ok (.getfield 46, 3) := by decide +kernel
theorem dX11_advised_38 : decode cX11_advised 38 = .ok (.iload_n 1, 1) := by decide +kernel
theorem dX11_advised_39 : decode cX11_advised 39 = .ok (.aaload, 1) := by decide +kernel
theorem dX11_advised_40 : decode cX11_advised 40 = .ok (.aload 5, 2) := by decide +kernel
theorem dX11_advised_42 : decode cX11_advised 42 = .ok (.getfield 244, 3) := by decide +kernel
theorem dX11_advised_45 : decode cX11_advised 45 = .ok (.iaload, 1) := by decide +kernel
theorem dX11_advised_46 : decode cX11_advised 46 = .ok (.istore 6, 2) := by decide +kernel
theorem dX11_advised_48 : decode cX11_advised 48 = .ok (.aload 5, 2) := by decide +kernel
theorem dX11_advised_50 : decode cX11_advised 50 = .ok (.getfield 247, 3) := by decide +kernel
theorem dX11_advised_53 : decode cX11_advised 53 = .ok (.iload_n 2, 1) := by decide +kernel
theorem dX11_advised_54 : decode cX11_advised 54 = .ok (.if_icmp .lt 32, 3) := by decide +kernel
theorem dX11_advised_57 : decode cX11_advised 57 = .ok (.aload_n 0, 1) := by decide +kernel
theorem dX11_advised_58 : decode cX11_advised 58 = .ok (.aload 5, 2) := by decide +kernel
theorem dX11_advised_60 : decode cX11_advised 60 = .ok (.getfield 250, 3) := by decide +kernel
theorem dX11_advised_63 : decode cX11_advised 63 = .ok (.aload 5, 2) := by decide +kernel
theorem dX11_advised_65 : decode cX11_advised 65 = .ok (.getfield 244, 3) := by decide +kernel
theorem dX11_advised_68 : decode cX11_advised 68 = .ok (.iload 6, 2) := by decide +kernel
theorem dX11_advised_70 : decode cX11_advised 70 = .ok (.invokevirtual 254, 3) := by decide +kernel
theorem dX11_advised_73 : decode cX11_advised 73 = .ok (.ifCond .eq 13, 3) := by decide +kernel
theorem dX11_advised_76 : decode cX11_advised 76 = .ok (.iload_n 3, 1) := by decide +kernel
theorem dX11_advised_77 : decode cX11_advised 77 = .ok (.iconst 1, 1) := by decide +kernel
theorem dX11_advised_78 : decode cX11_advised 78 = .ok (.aload 5, 2) := by decide +kernel
theorem dX11_advised_80 : decode cX11_advised 80 = .ok (.getfield 244, 3) := by decide +kernel
theorem dX11_advised_83 : decode cX11_advised 83 = .ok (.ishl, 1) := by decide +kernel
theorem dX11_advised_84 : decode cX11_advised 84 = .ok (.ior, 1) := by decide +kernel
theorem dX11_advised_85 : decode cX11_advised 85 = .ok (.istore_n 3, 1) := by decide +kernel
theorem dX11_advised_86 : decode cX11_advised 86 = .ok (.iinc 4 1, 3) := by decide +kernel
theorem dX11_advised_89 : decode cX11_advised 89 = .ok (.goto (-73), 3) := by decide +kernel
theorem dX11_advised_92 : decode cX11_advised 92 = .ok (.iload_n 3, 1) := by decide +kernel
theorem dX11_advised_93 : decode cX11_advised 93 = .ok (.ireturn, 1) := by decide +kernel
def wp_X11_advised_86 (h : Nat) (x1 : Int32) (x2 : Int32) (x3 : Int32) (x4 : Int32) (S : xm_S) (g : Int32 → xm_S → Prop) (Ex : String → xm_S → Prop) (Z16 : Int32 → Int32 → Int32 → Int32 → xm_S → Prop) : Prop :=
  ∀ y1, y1 = (x4 + (1 : Int32)) → Z16 x1 x2 x3 y1 S
set_option maxRecDepth 100000 in
set_option maxHeartbeats 4000000 in
theorem kp_X11_advised_86 {K : xm_K} (h : Nat) (x1 : Int32) (x2 : Int32) (x3 : Int32) (x4 : Int32) (S : xm_S) {g : Int32 → xm_S → Prop} {Ex : String → xm_S → Prop} {Z16 : Int32 → Int32 → Int32 → Int32 → xm_S → Prop} (C : xm_Cx K cX11_advised RX11 7 (some (FieldType.int)) rm_X11_advised) (N : xm_Nx K) (hg : ∀ v S, g v S → xm_q K (some (xm_i v)) S) (hEx : ∀ X S, Ex X S → xm_x K X S) (hZ16 : ∀ x1 x2 x3 x4 S, Z16 x1 x2 x3 x4 S → xm_W K 2 12 16 [(0, xm_r (some h)), (1, xm_i x1), (2, xm_i x2), (3, xm_i x3), (4, xm_i x4)] [] S) (h1 : wp_X11_advised_86 h x1 x2 x3 x4 S g Ex Z16) : xm_W K 2 12 86 [(0, xm_r (some h)), (1, xm_i x1), (2, xm_i x2), (3, xm_i x3), (4, xm_i x4)] [] S := by
  unfold wp_X11_advised_86 at h1
  obtain ⟨y1, e2⟩ : ∃ y1, y1 = (x4 + (1 : Int32)) := ⟨_, rfl⟩
  have h1 := h1 y1 e2
  refine x_iinc (v := y1) (L' := [(4, xm_i y1), (0, xm_r (some h)), (1, xm_i x1), (2, xm_i x2), (3, xm_i x3)]) C 4 dX11_advised_86 rfl (by rw [e2]; rfl) (by decide) rfl ?_
  refine x_goto (tgt := 16) C dX11_advised_89 (by decide) ?_
  refine x_keep (L' := [(0, xm_r (some h)), (1, xm_i x1), (2, xm_i x2), (3, xm_i x3), (4, xm_i y1)]) C [1, 2, 3, 4, 0] rfl ?_
  exact hZ16 x1 x2 x3 y1 S h1
def wp_X11_advised_16B (h : Nat) (x1 : Int32) (x2 : Int32) (x3 : Int32) (x4 : Int32) (S : xm_S) (g : Int32 → xm_S → Prop) (Ex : String → xm_S → Prop) (Z16 : Int32 → Int32 → Int32 → Int32 → xm_S → Prop) : Prop :=
  st_t S h = some (11, 0) ∧ ((st_i S h 6) ≤ x4 → g x3 S) ∧ (¬ (st_i S h 6) ≤ x4 → ∃ n4, (st_r S h 5) = some n4 ∧ ∃ z7, st_t S n4 = some (110, z7) ∧ vp_in x4 z7 ∧ ∃ n9, (st_r S h 7) = some n9 ∧ ∃ z12, st_t S n9 = some (104, z12) ∧ vp_in x1 z12 ∧ ∃ n14, (st_r S n4 (x4).toNatClampNeg) = some n14 ∧ st_t S n14 = some (0, 0) ∧ ∃ n17, (st_r S n9 (x1).toNatClampNeg) = some n17 ∧ ∃ z20, st_t S n17 = some (100, z20) ∧ vp_in (st_i S n14 0) z20 ∧ ∀ y22, y22 = (st_i S n17 ((st_i S n14 0)).toNatClampNeg) → ∃ n24, (st_r S n4 (x4).toNatClampNeg) = some n24 ∧ st_t S n24 = some (0, 0) ∧ ((st_i S n24 2) < x2 → wp_X11_advised_86 h x1 x2 x3 x4 S g Ex Z16) ∧ (¬ (st_i S n24 2) < x2 → ∃ n27, (st_r S n4 (x4).toNatClampNeg) = some n27 ∧ st_t S n27 = some (0, 0) ∧ ∃ n30, (st_r S n4 (x4).toNatClampNeg) = some n30 ∧ st_t S n30 = some (0, 0) ∧ wp_X11_isIncluded h (st_r S n27 1) (st_i S n30 0) y22 S (fun r34 S33 => (r34 = 0 → wp_X11_advised_86 h x1 x2 x3 x4 S33 g Ex Z16) ∧ (¬ r34 = 0 → ∃ n35, (st_r S n4 (x4).toNatClampNeg) = some n35 ∧ st_t S33 n35 = some (0, 0) ∧ ∀ y38, y38 = (x3 ||| ((1 : Int32) <<< ((st_i S33 n35 0) &&& 31))) → wp_X11_advised_86 h x1 x2 y38 x4 S33 g Ex Z16))))
def wp_X11_advised_16 (h : Nat) (x1 : Int32) (x2 : Int32) (x3 : Int32) (x4 : Int32) (S : xm_S) (g : Int32 → xm_S → Prop) (Ex : String → xm_S → Prop) : Prop :=
  ∀ Z16 : Int32 → Int32 → Int32 → Int32 → xm_S → Prop, (∀ x1 x2 x3 x4 S, wp_X11_advised_16B h x1 x2 x3 x4 S g Ex Z16 → Z16 x1 x2 x3 x4 S) → Z16 x1 x2 x3 x4 S
set_option maxRecDepth 100000 in
set_option maxHeartbeats 4000000 in
theorem kp_X11_advised_16B {K : xm_K} (h : Nat) (x1 : Int32) (x2 : Int32) (x3 : Int32) (x4 : Int32) (S : xm_S) {g : Int32 → xm_S → Prop} {Ex : String → xm_S → Prop} {Z16 : Int32 → Int32 → Int32 → Int32 → xm_S → Prop} (C : xm_Cx K cX11_advised RX11 7 (some (FieldType.int)) rm_X11_advised) (N : xm_Nx K) (hg : ∀ v S, g v S → xm_q K (some (xm_i v)) S) (hEx : ∀ X S, Ex X S → xm_x K X S) (hZ16 : ∀ x1 x2 x3 x4 S, Z16 x1 x2 x3 x4 S → xm_W K 2 12 16 [(0, xm_r (some h)), (1, xm_i x1), (2, xm_i x2), (3, xm_i x3), (4, xm_i x4)] [] S) (h1 : wp_X11_advised_16B h x1 x2 x3 x4 S g Ex Z16) : xm_W K 2 12 16 [(0, xm_r (some h)), (1, xm_i x1), (2, xm_i x2), (3, xm_i x3), (4, xm_i x4)] [] S := by
  unfold wp_X11_advised_16B at h1
  refine x_iload C 4 dX11_advised_16 rfl ?_
  refine x_aload_n C 0 dX11_advised_18 rfl rfl ?_
  obtain ⟨ht3, h1⟩ := h1
  refine x_getf_i (n := h) C rfl ht3 fd_109 (by decide) dX11_advised_19 ?_
  refine x_icmp_ge (tgt := 92) C dX11_advised_22 (by decide) (fun z9 => ?_) (fun z9 => ?_)
  · have h1 := h1.1 z9
    refine x_iload_n C 3 dX11_advised_92 rfl rfl ?_
    exact x_iret C (Nat.le_of_ble_eq_true rfl) (Nat.le_of_ble_eq_true rfl) rfl dX11_advised_93 (hg _ _ h1)
  · have h1 := h1.2 z9
    refine x_aload_n C 0 dX11_advised_25 rfl rfl ?_
    refine x_getf_r (n := h) C rfl ht3 fd_110 (by decide) dX11_advised_26 ?_
    refine x_iload C 4 dX11_advised_29 rfl ?_
    obtain ⟨n4, hr5, h1⟩ := h1
    obtain ⟨z7, ht6, h1⟩ := h1
    obtain ⟨hi8, h1⟩ := h1
    refine x_aald (n := n4) C hr5 (by decide) rfl ht6 hi8 dX11_advised_31 ?_
    refine x_astore (L' := [(5, xm_r (st_r S n4 (x4).toNatClampNeg)), (0, xm_r (some h)), (1, xm_i x1), (2, xm_i x2), (3, xm_i x3), (4, xm_i x4)]) C dX11_advised_32 (by decide) rfl ?_
    refine x_aload_n C 1 dX11_advised_34 rfl rfl ?_
    refine x_getf_r (n := h) C rfl ht3 fd_115 (by decide) dX11_advised_35 ?_
    refine x_iload_n C 2 dX11_advised_38 rfl rfl ?_
    obtain ⟨n9, hr10, h1⟩ := h1
    obtain ⟨z12, ht11, h1⟩ := h1
    obtain ⟨hi13, h1⟩ := h1
    refine x_aald (n := n9) C hr10 (by decide) rfl ht11 hi13 dX11_advised_39 ?_
    refine x_aload C 0 dX11_advised_40 rfl ?_
    obtain ⟨n14, hr15, h1⟩ := h1
    obtain ⟨ht16, h1⟩ := h1
    refine x_getf_i (n := n14) C hr15 ht16 fd_116 (by decide) dX11_advised_42 ?_
    obtain ⟨n17, hr18, h1⟩ := h1
    obtain ⟨z20, ht19, h1⟩ := h1
    obtain ⟨hi21, h1⟩ := h1
    refine x_iald (n := n17) C hr18 ht19 hi21 dX11_advised_45 ?_
    refine x_topi (fun y22 e23 => ?_)
    have h1 := h1 y22 e23
    refine x_istore (L' := [(6, xm_i y22), (5, xm_r (st_r S n4 (x4).toNatClampNeg)), (0, xm_r (some h)), (1, xm_i x1), (2, xm_i x2), (3, xm_i x3), (4, xm_i x4)]) C dX11_advised_46 (by decide) rfl ?_
    refine x_aload C 1 dX11_advised_48 rfl ?_
    obtain ⟨n24, hr25, h1⟩ := h1
    obtain ⟨ht26, h1⟩ := h1
    refine x_getf_i (n := n24) C hr25 ht26 fd_117 (by decide) dX11_advised_50 ?_
    refine x_iload_n C 4 dX11_advised_53 rfl rfl ?_
    refine x_icmp_lt (tgt := 86) C dX11_advised_54 (by decide) (fun z9 => ?_) (fun z9 => ?_)
    · have h1 := h1.1 z9
      refine x_keep (L' := [(0, xm_r (some h)), (1, xm_i x1), (2, xm_i x2), (3, xm_i x3), (4, xm_i x4)]) C [2, 3, 4, 5, 6] rfl ?_
      exact kp_X11_advised_86 h x1 x2 x3 x4 S C N hg hEx hZ16 h1
    · have h1 := h1.2 z9
      refine x_aload_n C 2 dX11_advised_57 rfl rfl ?_
      refine x_aload C 1 dX11_advised_58 rfl ?_
      obtain ⟨n27, hr28, h1⟩ := h1
      obtain ⟨ht29, h1⟩ := h1
      refine x_getf_r (n := n27) C hr28 ht29 fd_118 (by decide) dX11_advised_60 ?_
      refine x_aload C 1 dX11_advised_63 rfl ?_
      obtain ⟨n30, hr31, h1⟩ := h1
      obtain ⟨ht32, h1⟩ := h1
      refine x_getf_i (n := n30) C hr31 ht32 fd_116 (by decide) dX11_advised_65 ?_
      refine x_iload C 0 dX11_advised_68 rfl ?_
      refine x_callV (rm' := rm_X11_isIncluded) (n := h) C (kp_X11_isIncluded_met h1) lk_57 gw_369 gw_370 xv_11 rfl rfl ht3 rfl (Nat.le_of_ble_eq_true rfl) ⟨Nat.le_of_ble_eq_true rfl, Nat.le_of_ble_eq_true rfl, (Nat.le_of_ble_eq_true rfl), (Nat.le_of_ble_eq_true rfl)⟩ dX11_advised_70 xm_kx (xm_ki (fun r34 S33 h1 => ?_))
      refine x_if_eq (tgt := 86) C dX11_advised_73 (by decide) (fun z9 => ?_) (fun z9 => ?_)
      · have h1 := h1.1 z9
        refine x_keep (L' := [(0, xm_r (some h)), (1, xm_i x1), (2, xm_i x2), (3, xm_i x3), (4, xm_i x4)]) C [2, 3, 4, 5, 6] rfl ?_
        exact kp_X11_advised_86 h x1 x2 x3 x4 S33 C N hg hEx hZ16 h1
      · have h1 := h1.2 z9
        refine x_iload_n C 5 dX11_advised_76 rfl rfl ?_
        refine x_iconst (v := (1 : Int32)) C dX11_advised_77 (by decide) ?_
        refine x_aload C 1 dX11_advised_78 rfl ?_
        obtain ⟨n35, hr36, h1⟩ := h1
        obtain ⟨ht37, h1⟩ := h1
        refine x_getf_i (n := n35) C hr36 ht37 fd_116 (by decide) dX11_advised_80 ?_
        refine x_ishl C dX11_advised_83 ?_
        refine x_ior C dX11_advised_84 ?_
        refine x_topi (fun y38 e39 => ?_)
        have h1 := h1 y38 e39
        refine x_istore_n (L' := [(3, xm_i y38), (6, xm_i y22), (5, xm_r (st_r S n4 (x4).toNatClampNeg)), (0, xm_r (some h)), (1, xm_i x1), (2, xm_i x2), (4, xm_i x4)]) C dX11_advised_85 rfl (by decide) rfl ?_
        refine x_keep (L' := [(0, xm_r (some h)), (1, xm_i x1), (2, xm_i x2), (3, xm_i y38), (4, xm_i x4)]) C [3, 4, 5, 0, 6] rfl ?_
        exact kp_X11_advised_86 h x1 x2 y38 x4 S33 C N hg hEx hZ16 h1
theorem kp_X11_advised_16 {K : xm_K} (h : Nat) (x1 : Int32) (x2 : Int32) (x3 : Int32) (x4 : Int32) (S : xm_S) {g : Int32 → xm_S → Prop} {Ex : String → xm_S → Prop} (C : xm_Cx K cX11_advised RX11 7 (some (FieldType.int)) rm_X11_advised) (N : xm_Nx K) (hg : ∀ v S, g v S → xm_q K (some (xm_i v)) S) (hEx : ∀ X S, Ex X S → xm_x K X S)  (h1 : wp_X11_advised_16 h x1 x2 x3 x4 S g Ex) : xm_W K 2 12 16 [(0, xm_r (some h)), (1, xm_i x1), (2, xm_i x2), (3, xm_i x3), (4, xm_i x4)] [] S :=
  h1 (fun x1 x2 x3 x4 S => xm_W K 2 12 16 [(0, xm_r (some h)), (1, xm_i x1), (2, xm_i x2), (3, xm_i x3), (4, xm_i x4)] [] S) (fun x1 x2 x3 x4 S hb => kp_X11_advised_16B h x1 x2 x3 x4 S C N hg hEx (fun x1 x2 x3 x4 S hz => hz) hb)
def wp_X11_advised (h : Nat) (x1 : Int32) (x2 : Int32) (S : xm_S) (g : Int32 → xm_S → Prop) (Ex : String → xm_S → Prop) : Prop :=
  wp_X11_checkPlatform x1 S (fun S40 => wp_X11_checkRange x2 (1 : Int32) (nI 9) S40 (fun S42 => wp_X11_advised_16 h x1 x2 (0 : Int32) (0 : Int32) S42 g Ex) Ex) Ex
set_option maxRecDepth 100000 in
set_option maxHeartbeats 4000000 in
theorem kp_X11_advised {K : xm_K} (h : Nat) (x1 : Int32) (x2 : Int32) (S : xm_S) {g : Int32 → xm_S → Prop} {Ex : String → xm_S → Prop} (C : xm_Cx K cX11_advised RX11 7 (some (FieldType.int)) rm_X11_advised) (N : xm_Nx K) (hg : ∀ v S, g v S → xm_q K (some (xm_i v)) S) (hEx : ∀ X S, Ex X S → xm_x K X S)  (h1 : wp_X11_advised h x1 x2 S g Ex) : xm_W K 0 0 0 [(0, xm_r (some h)), (1, xm_i x1), (2, xm_i x2)] [] S := by
  unfold wp_X11_advised at h1
  refine x_iload_n C 1 dX11_advised_0 rfl rfl ?_
  refine x_callS (rm' := rm_X11_checkPlatform) C (kp_X11_checkPlatform_met h1) lk_58 gw_373 rfl (Nat.le_of_ble_eq_true rfl) ⟨Nat.le_of_ble_eq_true rfl, Nat.le_of_ble_eq_true rfl, (Nat.le_of_ble_eq_true rfl), (Nat.le_of_ble_eq_true rfl)⟩ dX11_advised_1 (fun X9 S9 hx9 => x_thru C N (Nat.le_of_ble_eq_true rfl) (Nat.le_of_ble_eq_true rfl) (hEx _ _ hx9)) (xm_kv (fun S40 h1 => ?_))
  refine x_iload_n C 2 dX11_advised_4 rfl rfl ?_
  refine x_iconst (v := (1 : Int32)) C dX11_advised_5 (by decide) ?_
  refine x_bipush (v := (nI 9)) C dX11_advised_6 (by decide) ?_
  refine x_callS (rm' := rm_X11_checkRange) C (kp_X11_checkRange_met h1) lk_51 gw_339 rfl (Nat.le_of_ble_eq_true rfl) ⟨Nat.le_of_ble_eq_true rfl, Nat.le_of_ble_eq_true rfl, (Nat.le_of_ble_eq_true rfl), (Nat.le_of_ble_eq_true rfl)⟩ dX11_advised_8 (fun X9 S9 hx9 => x_thru C N (Nat.le_of_ble_eq_true rfl) (Nat.le_of_ble_eq_true rfl) (hEx _ _ hx9)) (xm_kv (fun S42 h1 => ?_))
  refine x_iconst (v := (0 : Int32)) C dX11_advised_11 (by decide) ?_
  refine x_istore_n (L' := [(3, xm_i (0 : Int32)), (0, xm_r (some h)), (1, xm_i x1), (2, xm_i x2)]) C dX11_advised_12 rfl (by decide) rfl ?_
  refine x_iconst (v := (0 : Int32)) C dX11_advised_13 (by decide) ?_
  refine x_istore (L' := [(4, xm_i (0 : Int32)), (3, xm_i (0 : Int32)), (0, xm_r (some h)), (1, xm_i x1), (2, xm_i x2)]) C dX11_advised_14 (by decide) rfl ?_
  refine x_keep (L' := [(0, xm_r (some h)), (1, xm_i x1), (2, xm_i x2), (3, xm_i (0 : Int32)), (4, xm_i (0 : Int32))]) C [2, 3, 4, 1, 0] rfl ?_
  exact kp_X11_advised_16 h x1 x2 (0 : Int32) (0 : Int32) S42 C N hg hEx  h1
theorem kp_X11_advised_met {h : Nat} {x1 : Int32} {x2 : Int32} {S : xm_S} {g : Int32 → xm_S → Prop} {Ex : String → xm_S → Prop}  (h1 : wp_X11_advised h x1 x2 S g Ex) : xm_Met yX11_advised cX11_advised 7 (some (FieldType.int)) rm_X11_advised [xm_r (some h), xm_i x1, xm_i x2] S (xm_qi g) Ex :=
  xm_ofW RX11 (by decide +kernel) rfl (Nat.le_of_ble_eq_true rfl) (fun K C N hq hx hi => kp_X11_advised h x1 x2 S C N (fun v S h => by rw [hq]; exact ⟨v, rfl, h⟩) (fun X S h => by rw [hx]; exact h)  h1)
