def rm_L_compare : Room := { frames := 9, cells := 4, slots := 24, locals := 165 }
theorem dL_compare_0 : decode cL_compare 0 = .ok (.aload 4, 2) := by decide +kernel
theorem dL_compare_2 : decode cL_compare 2 = .ok (.iconst 0, 1) := by decide +kernel
theorem dL_compare_3 : decode cL_compare 3 = .ok (.aload_n 0, 1) := by decide +kernel
theorem dL_compare_4 : decode cL_compare 4 = .ok (.iload_n 1, 1) := by decide +kernel
theorem dL_compare_5 : decode cL_compare 5 = .ok (.iload_n 2, 1) := by decide +kernel
theorem dL_compare_6 : decode cL_compare 6 = .ok (.iload_n 3, 1) := by decide +kernel
theorem dL_compare_7 : decode cL_compare 7 = .ok (.invokevirtual 43, 3) := by decide +kernel
theorem dL_compare_10 : decode cL_compare 10 = .ok (.i2l, 1) := by decide +kernel
theorem dL_compare_11 : decode cL_compare 11 = .ok (.lastore, 1) := by decide +kernel
theorem dL_compare_12 : decode cL_compare 12 = .ok (.goto 7, 3) := by decide +kernel
theorem dL_compare_15 : decode cL_compare 15 = .ok (.astore 5, 2) := by decide +kernel
theorem dL_compare_17 : decode cL_compare 17 = .ok (.iconst 1, 1) := by decide +kernel
theorem dL_compare_18 : decode cL_compare 18 = .ok (.ireturn, 1) := by decide +kernel
theorem dL_compare_19 : decode cL_compare 19 = .ok (.iconst 0, 1) := by decide +kernel
theorem dL_compare_20 : decode cL_compare 20 = .ok (.ireturn, 1) := by decide +kernel
def wp_L_compare (x0 : Option Nat) (x1 : Int32) (x2 : Int32) (x3 : Int32) (x4 : Option Nat) (S : xm_S) (g : Int32 → xm_S → Prop) : Prop :=
  ∃ n1, x0 = some n1 ∧ st_t S n1 = some (11, 0) ∧ wp_X11_compare n1 x1 x2 x3 S (fun r5 S4 => ∃ n6, x4 = some n6 ∧ ∃ z9, st_t S4 n6 = some (103, z9) ∧ vp_in (0 : Int32) z9 ∧ ∀ S11, S11 = st_pl S4 n6 ((0 : Int32)).toNatClampNeg ((r5).toInt64) → g (0 : Int32) S11) (fun X9 S9 => (X9 = xm_eI ∧ g (1 : Int32) S9))
set_option maxRecDepth 100000 in
set_option maxHeartbeats 4000000 in
theorem kp_L_compare {K : xm_K} (x0 : Option Nat) (x1 : Int32) (x2 : Int32) (x3 : Int32) (x4 : Option Nat) (S : xm_S) {g : Int32 → xm_S → Prop} (C : xm_Cx K cL_compare RL 6 (some (FieldType.int)) rm_L_compare) (N : xm_Hx K [(0, 12, 15, 21)]) (hg : ∀ v S, g v S → xm_q K (some (xm_i v)) S)  (h1 : wp_L_compare x0 x1 x2 x3 x4 S g) : xm_W K 0 0 0 [(0, xm_r x0), (1, xm_i x1), (2, xm_i x2), (3, xm_i x3), (4, xm_r x4)] [] S := by
  unfold wp_L_compare at h1
  refine x_aload C 4 dL_compare_0 rfl ?_
  refine x_iconst (v := (0 : Int32)) C dL_compare_2 (by decide) ?_
  refine x_aload_n C 0 dL_compare_3 rfl rfl ?_
  refine x_iload_n C 1 dL_compare_4 rfl rfl ?_
  refine x_iload_n C 2 dL_compare_5 rfl rfl ?_
  refine x_iload_n C 3 dL_compare_6 rfl rfl ?_
  obtain ⟨n1, hr2, h1⟩ := h1
  obtain ⟨ht3, h1⟩ := h1
  refine x_callV (rm' := rm_X11_compare) (n := n1) C (kp_X11_compare_met h1) lk_138 gw_804 gw_805 xv_11 rfl hr2 ht3 rfl (Nat.le_of_ble_eq_true rfl) ⟨Nat.le_of_ble_eq_true rfl, Nat.le_of_ble_eq_true rfl, (Nat.le_of_ble_eq_true rfl), (Nat.le_of_ble_eq_true rfl)⟩ dL_compare_7 (fun X9 S9 hx9 => ?_) (xm_ki (fun r5 S4 h1 => ?_))
  · obtain ⟨rfl, h1⟩ := hx9
    refine x_catch (hh := [(0, 12, 15, 21)]) (pre := []) (suf := []) (a := 0) (b := 12) (hp := 15) (ct := 21) C N th_I_in rfl (fun _ h => absurd h List.not_mem_nil) (by decide) (by decide) gw_791 (fun q9 => ?_)
    refine x_astore_w (L' := [(5, xm_w0 q9), (0, xm_r x0), (1, xm_i x1), (2, xm_i x2), (3, xm_i x3), (4, xm_r x4)]) C dL_compare_15 (by decide) rfl ?_
    refine x_iconst (v := (1 : Int32)) C dL_compare_17 (by decide) ?_
    exact x_iret C (Nat.le_of_ble_eq_true rfl) (Nat.le_of_ble_eq_true rfl) rfl dL_compare_18 (hg _ _ h1)
  · skip
    refine x_i2l C dL_compare_10 ?_
    obtain ⟨n6, hr7, h1⟩ := h1
    obtain ⟨z9, ht8, h1⟩ := h1
    obtain ⟨hi10, h1⟩ := h1
    refine x_last (n := n6) C hr7 ht8 hi10 dL_compare_11 ?_
    refine x_topS (fun S11 e12 => ?_)
    have h1 := h1 S11 e12
    refine x_goto (tgt := 19) C dL_compare_12 (by decide) ?_
    refine x_iconst (v := (0 : Int32)) C dL_compare_19 (by decide) ?_
    exact x_iret C (Nat.le_of_ble_eq_true rfl) (Nat.le_of_ble_eq_true rfl) rfl dL_compare_20 (hg _ _ h1)
theorem kp_L_compare_met {x0 : Option Nat} {x1 : Int32} {x2 : Int32} {x3 : Int32} {x4 : Option Nat} {S : xm_S} {g : Int32 → xm_S → Prop} (h1 : wp_L_compare x0 x1 x2 x3 x4 S g) : xm_MetH yL_compare cL_compare 6 (some (FieldType.int)) [(0, 12, 15, 21)] rm_L_compare [xm_r x0, xm_i x1, xm_i x2, xm_i x3, xm_r x4] S (xm_qi g) xm_nox :=
  xm_ofWH RL (by decide +kernel) rfl (Nat.le_of_ble_eq_true rfl) (fun K C N hq hx => kp_L_compare x0 x1 x2 x3 x4 S C N (fun v S h => by rw [hq]; exact ⟨v, rfl, h⟩)  h1)
def rm_L_conflict : Room := { frames := 9, cells := 137, slots := 492, locals := 175 }
theorem dL_conflict_0 : decode cL_conflict 0 = .ok (.aload 4, 2) := by decide +kernel
theorem dL_conflict_2 : decode cL_conflict 2 = .ok (.iconst 0, 1) := by decide +kernel
theorem dL_conflict_3 : decode cL_conflict 3 = .ok (.aload_n 0, 1) := by decide +kernel
theorem dL_conflict_4 : decode cL_conflict 4 = .ok (.iload_n 1, 1) := by decide +kernel
theorem dL_conflict_5 : decode cL_conflict 5 = .ok (.iload_n 2, 1) := by decide +kernel
theorem dL_conflict_6 : decode cL_conflict 6 = .ok (.iload_n 3, 1) := by decide +kernel
theorem dL_conflict_7 : decode cL_conflict 7 = .ok (.invokevirtual 31, 3) := by decide +kernel
theorem dL_conflict_10 : decode cL_conflict 10 = .ok (.i2l, 1) := by decide +kernel
theorem dL_conflict_11 : decode cL_conflict 11 = .ok (.lastore, 1) := by decide +kernel
theorem dL_conflict_12 : decode cL_conflict 12 = .ok (.goto 15, 3) := by decide +kernel
theorem dL_conflict_15 : decode cL_conflict 15 = .ok (.astore 5, 2) := by decide +kernel
theorem dL_conflict_17 : decode cL_conflict 17 = .ok (.iconst 1, 1) := by decide +kernel
theorem dL_conflict_18 : decode cL_conflict 18 = .ok (.ireturn, 1) := by decide +kernel
theorem dL_conflict_19 : decode cL_conflict 19 = .ok (.astore 5, 2) := by decide +kernel
theorem dL_conflict_21 : decode cL_conflict 21 = .ok (.iconst 2, 1) := by decide +kernel
theorem dL_conflict_22 : decode cL_conflict 22 = .ok (.ireturn, 1) := by decide +kernel
theorem dL_conflict_23 : decode cL_conflict 23 = .ok (.astore 5, 2) := by decide +kernel
theorem dL_conflict_25 : decode cL_conflict 25 = .ok (.iconst 3, 1) := by decide +kernel
theorem dL_conflict_26 : decode cL_conflict 26 = .ok (.ireturn, 1) := by decide +kernel
theorem dL_conflict_27 : decode cL_conflict 27 = .ok (.iconst 0, 1) := by decide +kernel
theorem dL_conflict_28 : decode cL_conflict 28 = .ok (.ireturn, 1) := by decide +kernel
def wp_L_conflict (x0 : Option Nat) (x1 : Int32) (x2 : Int32) (x3 : Int32) (x4 : Option Nat) (S : xm_S) (g : Int32 → xm_S → Prop) : Prop :=
  ∃ n1, x0 = some n1 ∧ st_t S n1 = some (11, 0) ∧ wp_X11_conflict n1 x1 x2 x3 S (fun r5 S4 => ∃ n6, x4 = some n6 ∧ ∃ z9, st_t S4 n6 = some (103, z9) ∧ vp_in (0 : Int32) z9 ∧ ∀ S11, S11 = st_pl S4 n6 ((0 : Int32)).toNatClampNeg ((r5).toInt64) → g (0 : Int32) S11) (fun X9 S9 => (X9 = xm_eI ∧ g (1 : Int32) S9) ∨ (X9 = xm_eA ∧ g (nI 2) S9) ∨ (X9 = xm_eS ∧ g (nI 3) S9))
set_option maxRecDepth 100000 in
set_option maxHeartbeats 4000000 in
theorem kp_L_conflict {K : xm_K} (x0 : Option Nat) (x1 : Int32) (x2 : Int32) (x3 : Int32) (x4 : Option Nat) (S : xm_S) {g : Int32 → xm_S → Prop} (C : xm_Cx K cL_conflict RL 6 (some (FieldType.int)) rm_L_conflict) (N : xm_Hx K [(0, 12, 15, 21), (0, 12, 19, 13), (0, 12, 23, 15)]) (hg : ∀ v S, g v S → xm_q K (some (xm_i v)) S)  (h1 : wp_L_conflict x0 x1 x2 x3 x4 S g) : xm_W K 0 0 0 [(0, xm_r x0), (1, xm_i x1), (2, xm_i x2), (3, xm_i x3), (4, xm_r x4)] [] S := by
  unfold wp_L_conflict at h1
  refine x_aload C 4 dL_conflict_0 rfl ?_
  refine x_iconst (v := (0 : Int32)) C dL_conflict_2 (by decide) ?_
  refine x_aload_n C 0 dL_conflict_3 rfl rfl ?_
  refine x_iload_n C 1 dL_conflict_4 rfl rfl ?_
  refine x_iload_n C 2 dL_conflict_5 rfl rfl ?_
  refine x_iload_n C 3 dL_conflict_6 rfl rfl ?_
  obtain ⟨n1, hr2, h1⟩ := h1
  obtain ⟨ht3, h1⟩ := h1
  refine x_callV (rm' := rm_X11_conflict) (n := n1) C (kp_X11_conflict_met h1) lk_139 gw_808 gw_809 xv_11 rfl hr2 ht3 rfl (Nat.le_of_ble_eq_true rfl) ⟨Nat.le_of_ble_eq_true rfl, Nat.le_of_ble_eq_true rfl, (Nat.le_of_ble_eq_true rfl), (Nat.le_of_ble_eq_true rfl)⟩ dL_conflict_7 (fun X9 S9 hx9 => ?_) (xm_ki (fun r5 S4 h1 => ?_))
  · rcases hx9 with ⟨rfl, h1⟩ | ⟨rfl, h1⟩ | ⟨rfl, h1⟩
    · refine x_catch (hh := [(0, 12, 15, 21), (0, 12, 19, 13), (0, 12, 23, 15)]) (pre := []) (suf := [(0, 12, 19, 13), (0, 12, 23, 15)]) (a := 0) (b := 12) (hp := 15) (ct := 21) C N th_I_in rfl (fun _ h => absurd h List.not_mem_nil) (by decide) (by decide) gw_791 (fun q9 => ?_)
      refine x_astore_w (L' := [(5, xm_w0 q9), (0, xm_r x0), (1, xm_i x1), (2, xm_i x2), (3, xm_i x3), (4, xm_r x4)]) C dL_conflict_15 (by decide) rfl ?_
      refine x_iconst (v := (1 : Int32)) C dL_conflict_17 (by decide) ?_
      exact x_iret C (Nat.le_of_ble_eq_true rfl) (Nat.le_of_ble_eq_true rfl) rfl dL_conflict_18 (hg _ _ h1)
    · refine x_catch (hh := [(0, 12, 15, 21), (0, 12, 19, 13), (0, 12, 23, 15)]) (pre := [(0, 12, 15, 21)]) (suf := [(0, 12, 23, 15)]) (a := 0) (b := 12) (hp := 19) (ct := 13) C N th_A_in rfl (List.forall_mem_cons.mpr ⟨⟨by decide, xm_eI, th_I_in, by decide +kernel, gw_791⟩, fun _ h => absurd h List.not_mem_nil⟩) (by decide) (by decide) gw_792 (fun q9 => ?_)
      refine x_astore_w (L' := [(5, xm_w0 q9), (0, xm_r x0), (1, xm_i x1), (2, xm_i x2), (3, xm_i x3), (4, xm_r x4)]) C dL_conflict_19 (by decide) rfl ?_
      refine x_iconst (v := (nI 2)) C dL_conflict_21 (by decide) ?_
      exact x_iret C (Nat.le_of_ble_eq_true rfl) (Nat.le_of_ble_eq_true rfl) rfl dL_conflict_22 (hg _ _ h1)
    · refine x_catch (hh := [(0, 12, 15, 21), (0, 12, 19, 13), (0, 12, 23, 15)]) (pre := [(0, 12, 15, 21), (0, 12, 19, 13)]) (suf := []) (a := 0) (b := 12) (hp := 23) (ct := 15) C N th_S_in rfl (List.forall_mem_cons.mpr ⟨⟨by decide, xm_eI, th_I_in, by decide +kernel, gw_791⟩, List.forall_mem_cons.mpr ⟨⟨by decide, xm_eA, th_A_in, by decide +kernel, gw_792⟩, fun _ h => absurd h List.not_mem_nil⟩⟩) (by decide) (by decide) gw_793 (fun q9 => ?_)
      refine x_astore_w (L' := [(5, xm_w0 q9), (0, xm_r x0), (1, xm_i x1), (2, xm_i x2), (3, xm_i x3), (4, xm_r x4)]) C dL_conflict_23 (by decide) rfl ?_
      refine x_iconst (v := (nI 3)) C dL_conflict_25 (by decide) ?_
      exact x_iret C (Nat.le_of_ble_eq_true rfl) (Nat.le_of_ble_eq_true rfl) rfl dL_conflict_26 (hg _ _ h1)
  · skip
    refine x_i2l C dL_conflict_10 ?_
    obtain ⟨n6, hr7, h1⟩ := h1
    obtain ⟨z9, ht8, h1⟩ := h1
    obtain ⟨hi10, h1⟩ := h1
    refine x_last (n := n6) C hr7 ht8 hi10 dL_conflict_11 ?_
    refine x_topS (fun S11 e12 => ?_)
    have h1 := h1 S11 e12
    refine x_goto (tgt := 27) C dL_conflict_12 (by decide) ?_
    refine x_iconst (v := (0 : Int32)) C dL_conflict_27 (by decide) ?_
    exact x_iret C (Nat.le_of_ble_eq_true rfl) (Nat.le_of_ble_eq_true rfl) rfl dL_conflict_28 (hg _ _ h1)
theorem kp_L_conflict_met {x0 : Option Nat} {x1 : Int32} {x2 : Int32} {x3 : Int32} {x4 : Option Nat} {S : xm_S} {g : Int32 → xm_S → Prop} (h1 : wp_L_conflict x0 x1 x2 x3 x4 S g) : xm_MetH yL_conflict cL_conflict 6 (some (FieldType.int)) [(0, 12, 15, 21), (0, 12, 19, 13), (0, 12, 23, 15)] rm_L_conflict [xm_r x0, xm_i x1, xm_i x2, xm_i x3, xm_r x4] S (xm_qi g) xm_nox :=
  xm_ofWH RL (by decide +kernel) rfl (Nat.le_of_ble_eq_true rfl) (fun K C N hq hx => kp_L_conflict x0 x1 x2 x3 x4 S C N (fun v S h => by rw [hq]; exact ⟨v, rfl, h⟩)  h1)
def rm_L_divert : Room := { frames := 8, cells := 4, slots := 24, locals := 145 }
theorem dL_divert_0 : decode cL_divert 0 = .ok (.aload 4, 2) := by decide +kernel
theorem dL_divert_2 : decode cL_divert 2 = .ok (.iconst 0, 1) := by decide +kernel
theorem dL_divert_3 : decode cL_divert 3 = .ok (.aload_n 0, 1) := by decide +kernel
theorem dL_divert_4 : decode cL_divert 4 = .ok (.iload_n 1, 1) := by decide +kernel
theorem dL_divert_5 : decode cL_divert 5 = .ok (.iload_n 2, 1) := by decide +kernel
theorem dL_divert_6 : decode cL_divert 6 = .ok (.iload_n 3, 1) := by decide +kernel
theorem dL_divert_7 : decode cL_divert 7 = .ok (.invokevirtual 111, 3) := by decide +kernel
theorem dL_divert_10 : decode cL_divert 10 = .ok (.i2l, 1) := by decide +kernel
theorem dL_divert_11 : decode cL_divert 11 = .ok (.lastore, 1) := by decide +kernel
theorem dL_divert_12 : decode cL_divert 12 = .ok (.goto 11, 3) := by decide +kernel
theorem dL_divert_15 : decode cL_divert 15 = .ok (.astore 5, 2) := by decide +kernel
theorem dL_divert_17 : decode cL_divert 17 = .ok (.iconst 1, 1) := by decide +kernel
theorem dL_divert_18 : decode cL_divert 18 = .ok (.ireturn, 1) := by decide +kernel
theorem dL_divert_19 : decode cL_divert 19 = .ok (.astore 5, 2) := by decide +kernel
theorem dL_divert_21 : decode cL_divert 21 = .ok (.iconst 2, 1) := by decide +kernel
theorem dL_divert_22 : decode cL_divert 22 = .ok (.ireturn, 1) := by decide +kernel
theorem dL_divert_23 : decode cL_divert 23 = .ok (.iconst 0, 1) := by decide +kernel
theorem dL_divert_24 : decode cL_divert 24 = .ok (.ireturn, 1) := by decide +kernel
def wp_L_divert (x0 : Option Nat) (x1 : Int32) (x2 : Int32) (x3 : Int32) (x4 : Option Nat) (S : xm_S) (g : Int32 → xm_S → Prop) : Prop :=
  ∃ n1, x0 = some n1 ∧ st_t S n1 = some (11, 0) ∧ wp_X11_divert n1 x1 x2 x3 S (fun r5 S4 => ∃ n6, x4 = some n6 ∧ ∃ z9, st_t S4 n6 = some (103, z9) ∧ vp_in (0 : Int32) z9 ∧ ∀ S11, S11 = st_pl S4 n6 ((0 : Int32)).toNatClampNeg ((r5).toInt64) → g (0 : Int32) S11) (fun X9 S9 => (X9 = xm_eI ∧ g (1 : Int32) S9) ∨ (X9 = xm_eA ∧ g (nI 2) S9))
set_option maxRecDepth 100000 in
set_option maxHeartbeats 4000000 in
theorem kp_L_divert {K : xm_K} (x0 : Option Nat) (x1 : Int32) (x2 : Int32) (x3 : Int32) (x4 : Option Nat) (S : xm_S) {g : Int32 → xm_S → Prop} (C : xm_Cx K cL_divert RL 6 (some (FieldType.int)) rm_L_divert) (N : xm_Hx K [(0, 12, 15, 21), (0, 12, 19, 13)]) (hg : ∀ v S, g v S → xm_q K (some (xm_i v)) S)  (h1 : wp_L_divert x0 x1 x2 x3 x4 S g) : xm_W K 0 0 0 [(0, xm_r x0), (1, xm_i x1), (2, xm_i x2), (3, xm_i x3), (4, xm_r x4)] [] S := by
  unfold wp_L_divert at h1
  refine x_aload C 4 dL_divert_0 rfl ?_
  refine x_iconst (v := (0 : Int32)) C dL_divert_2 (by decide) ?_
  refine x_aload_n C 0 dL_divert_3 rfl rfl ?_
  refine x_iload_n C 1 dL_divert_4 rfl rfl ?_
  refine x_iload_n C 2 dL_divert_5 rfl rfl ?_
  refine x_iload_n C 3 dL_divert_6 rfl rfl ?_
  obtain ⟨n1, hr2, h1⟩ := h1
  obtain ⟨ht3, h1⟩ := h1
  refine x_callV (rm' := rm_X11_divert) (n := n1) C (kp_X11_divert_met h1) lk_140 gw_812 gw_813 xv_11 rfl hr2 ht3 rfl (Nat.le_of_ble_eq_true rfl) ⟨Nat.le_of_ble_eq_true rfl, Nat.le_of_ble_eq_true rfl, (Nat.le_of_ble_eq_true rfl), (Nat.le_of_ble_eq_true rfl)⟩ dL_divert_7 (fun X9 S9 hx9 => ?_) (xm_ki (fun r5 S4 h1 => ?_))
  · rcases hx9 with ⟨rfl, h1⟩ | ⟨rfl, h1⟩
    · refine x_catch (hh := [(0, 12, 15, 21), (0, 12, 19, 13)]) (pre := []) (suf := [(0, 12, 19, 13)]) (a := 0) (b := 12) (hp := 15) (ct := 21) C N th_I_in rfl (fun _ h => absurd h List.not_mem_nil) (by decide) (by decide) gw_791 (fun q9 => ?_)
      refine x_astore_w (L' := [(5, xm_w0 q9), (0, xm_r x0), (1, xm_i x1), (2, xm_i x2), (3, xm_i x3), (4, xm_r x4)]) C dL_divert_15 (by decide) rfl ?_
      refine x_iconst (v := (1 : Int32)) C dL_divert_17 (by decide) ?_
      exact x_iret C (Nat.le_of_ble_eq_true rfl) (Nat.le_of_ble_eq_true rfl) rfl dL_divert_18 (hg _ _ h1)
    · refine x_catch (hh := [(0, 12, 15, 21), (0, 12, 19, 13)]) (pre := [(0, 12, 15, 21)]) (suf := []) (a := 0) (b := 12) (hp := 19) (ct := 13) C N th_A_in rfl (List.forall_mem_cons.mpr ⟨⟨by decide, xm_eI, th_I_in, by decide +kernel, gw_791⟩, fun _ h => absurd h List.not_mem_nil⟩) (by decide) (by decide) gw_792 (fun q9 => ?_)
      refine x_astore_w (L' := [(5, xm_w0 q9), (0, xm_r x0), (1, xm_i x1), (2, xm_i x2), (3, xm_i x3), (4, xm_r x4)]) C dL_divert_19 (by decide) rfl ?_
      refine x_iconst (v := (nI 2)) C dL_divert_21 (by decide) ?_
      exact x_iret C (Nat.le_of_ble_eq_true rfl) (Nat.le_of_ble_eq_true rfl) rfl dL_divert_22 (hg _ _ h1)
  · skip
    refine x_i2l C dL_divert_10 ?_
    obtain ⟨n6, hr7, h1⟩ := h1
    obtain ⟨z9, ht8, h1⟩ := h1
    obtain ⟨hi10, h1⟩ := h1
    refine x_last (n := n6) C hr7 ht8 hi10 dL_divert_11 ?_
    refine x_topS (fun S11 e12 => ?_)
    have h1 := h1 S11 e12
    refine x_goto (tgt := 23) C dL_divert_12 (by decide) ?_
    refine x_iconst (v := (0 : Int32)) C dL_divert_23 (by decide) ?_
    exact x_iret C (Nat.le_of_ble_eq_true rfl) (Nat.le_of_ble_eq_true rfl) rfl dL_divert_24 (hg _ _ h1)
theorem kp_L_divert_met {x0 : Option Nat} {x1 : Int32} {x2 : Int32} {x3 : Int32} {x4 : Option Nat} {S : xm_S} {g : Int32 → xm_S → Prop} (h1 : wp_L_divert x0 x1 x2 x3 x4 S g) : xm_MetH yL_divert cL_divert 6 (some (FieldType.int)) [(0, 12, 15, 21), (0, 12, 19, 13)] rm_L_divert [xm_r x0, xm_i x1, xm_i x2, xm_i x3, xm_r x4] S (xm_qi g) xm_nox :=
  xm_ofWH RL (by decide +kernel) rfl (Nat.le_of_ble_eq_true rfl) (fun K C N hq hx => kp_L_divert x0 x1 x2 x3 x4 S C N (fun v S h => by rw [hq]; exact ⟨v, rfl, h⟩)  h1)
def rm_L_edit : Room := { frames := 8, cells := 3, slots := 18, locals := 145 }
theorem dL_edit_0 : decode cL_edit 0 = .ok (.aload_n 3, 1) := by decide +kernel
theorem dL_edit_1 : decode cL_edit 1 = .ok (.iconst 0, 1) := by decide +kernel
theorem dL_edit_2 : decode cL_edit 2 = .ok (.aload_n 0, 1) := by decide +kernel
theorem dL_edit_3 : decode cL_edit 3 = .ok (.iload_n 1, 1) := by decide +kernel
theorem dL_edit_4 : decode cL_edit 4 = .ok (.iload_n 2, 1) := by decide +kernel
theorem dL_edit_5 : decode cL_edit 5 = .ok (.invokevirtual 117, 3) := by decide +kernel
theorem dL_edit_8 : decode cL_edit 8 = .ok (.i2l, 1) := by decide +kernel
theorem dL_edit_9 : decode cL_edit 9 = .ok (.lastore, 1) := by decide +kernel
theorem dL_edit_10 : decode cL_edit 10 = .ok (.goto 11, 3) := by decide +kernel
theorem dL_edit_13 : decode cL_edit 13 = .ok (.astore 4, 2) := by decide +kernel
theorem dL_edit_15 : decode cL_edit 15 = .ok (.iconst 1, 1) := by decide +kernel
theorem dL_edit_16 : decode cL_edit 16 = .ok (.ireturn, 1) := by decide +kernel
theorem dL_edit_17 : decode cL_edit 17 = .ok (.astore 4, 2) := by decide +kernel
theorem dL_edit_19 : decode cL_edit 19 = .ok (.iconst 2, 1) := by decide +kernel
theorem dL_edit_20 : decode cL_edit 20 = .ok (.ireturn, 1) := by decide +kernel
theorem dL_edit_21 : decode cL_edit 21 = .ok (.iconst 0, 1) := by decide +kernel
theorem dL_edit_22 : decode cL_edit 22 = .ok (.ireturn, 1) := by decide +kernel
def wp_L_edit (x0 : Option Nat) (x1 : Int32) (x2 : Int32) (x3 : Option Nat) (S : xm_S) (g : Int32 → xm_S → Prop) : Prop :=
  ∃ n1, x0 = some n1 ∧ st_t S n1 = some (11, 0) ∧ wp_X11_edit n1 x1 x2 S (fun r5 S4 => ∃ n6, x3 = some n6 ∧ ∃ z9, st_t S4 n6 = some (103, z9) ∧ vp_in (0 : Int32) z9 ∧ ∀ S11, S11 = st_pl S4 n6 ((0 : Int32)).toNatClampNeg ((r5).toInt64) → g (0 : Int32) S11) (fun X9 S9 => (X9 = xm_eA ∧ g (1 : Int32) S9) ∨ (X9 = xm_eS ∧ g (nI 2) S9))
set_option maxRecDepth 100000 in
set_option maxHeartbeats 4000000 in
theorem kp_L_edit {K : xm_K} (x0 : Option Nat) (x1 : Int32) (x2 : Int32) (x3 : Option Nat) (S : xm_S) {g : Int32 → xm_S → Prop} (C : xm_Cx K cL_edit RL 5 (some (FieldType.int)) rm_L_edit) (N : xm_Hx K [(0, 10, 13, 13), (0, 10, 17, 15)]) (hg : ∀ v S, g v S → xm_q K (some (xm_i v)) S)  (h1 : wp_L_edit x0 x1 x2 x3 S g) : xm_W K 0 0 0 [(0, xm_r x0), (1, xm_i x1), (2, xm_i x2), (3, xm_r x3)] [] S := by
  unfold wp_L_edit at h1
  refine x_aload_n C 3 dL_edit_0 rfl rfl ?_
  refine x_iconst (v := (0 : Int32)) C dL_edit_1 (by decide) ?_
  refine x_aload_n C 0 dL_edit_2 rfl rfl ?_
  refine x_iload_n C 1 dL_edit_3 rfl rfl ?_
  refine x_iload_n C 2 dL_edit_4 rfl rfl ?_
  obtain ⟨n1, hr2, h1⟩ := h1
  obtain ⟨ht3, h1⟩ := h1
  refine x_callV (rm' := rm_X11_edit) (n := n1) C (kp_X11_edit_met h1) lk_141 gw_816 gw_817 xv_11 rfl hr2 ht3 rfl (Nat.le_of_ble_eq_true rfl) ⟨Nat.le_of_ble_eq_true rfl, Nat.le_of_ble_eq_true rfl, (Nat.le_of_ble_eq_true rfl), (Nat.le_of_ble_eq_true rfl)⟩ dL_edit_5 (fun X9 S9 hx9 => ?_) (xm_ki (fun r5 S4 h1 => ?_))
  · rcases hx9 with ⟨rfl, h1⟩ | ⟨rfl, h1⟩
    · refine x_catch (hh := [(0, 10, 13, 13), (0, 10, 17, 15)]) (pre := []) (suf := [(0, 10, 17, 15)]) (a := 0) (b := 10) (hp := 13) (ct := 13) C N th_A_in rfl (fun _ h => absurd h List.not_mem_nil) (by decide) (by decide) gw_792 (fun q9 => ?_)
      refine x_astore_w (L' := [(4, xm_w0 q9), (0, xm_r x0), (1, xm_i x1), (2, xm_i x2), (3, xm_r x3)]) C dL_edit_13 (by decide) rfl ?_
      refine x_iconst (v := (1 : Int32)) C dL_edit_15 (by decide) ?_
      exact x_iret C (Nat.le_of_ble_eq_true rfl) (Nat.le_of_ble_eq_true rfl) rfl dL_edit_16 (hg _ _ h1)
    · refine x_catch (hh := [(0, 10, 13, 13), (0, 10, 17, 15)]) (pre := [(0, 10, 13, 13)]) (suf := []) (a := 0) (b := 10) (hp := 17) (ct := 15) C N th_S_in rfl (List.forall_mem_cons.mpr ⟨⟨by decide, xm_eA, th_A_in, by decide +kernel, gw_792⟩, fun _ h => absurd h List.not_mem_nil⟩) (by decide) (by decide) gw_793 (fun q9 => ?_)
      refine x_astore_w (L' := [(4, xm_w0 q9), (0, xm_r x0), (1, xm_i x1), (2, xm_i x2), (3, xm_r x3)]) C dL_edit_17 (by decide) rfl ?_
      refine x_iconst (v := (nI 2)) C dL_edit_19 (by decide) ?_
      exact x_iret C (Nat.le_of_ble_eq_true rfl) (Nat.le_of_ble_eq_true rfl) rfl dL_edit_20 (hg _ _ h1)
  · skip
    refine x_i2l C dL_edit_8 ?_
    obtain ⟨n6, hr7, h1⟩ := h1
    obtain ⟨z9, ht8, h1⟩ := h1
    obtain ⟨hi10, h1⟩ := h1
    refine x_last (n := n6) C hr7 ht8 hi10 dL_edit_9 ?_
    refine x_topS (fun S11 e12 => ?_)
    have h1 := h1 S11 e12
    refine x_goto (tgt := 21) C dL_edit_10 (by decide) ?_
    refine x_iconst (v := (0 : Int32)) C dL_edit_21 (by decide) ?_
    exact x_iret C (Nat.le_of_ble_eq_true rfl) (Nat.le_of_ble_eq_true rfl) rfl dL_edit_22 (hg _ _ h1)
theorem kp_L_edit_met {x0 : Option Nat} {x1 : Int32} {x2 : Int32} {x3 : Option Nat} {S : xm_S} {g : Int32 → xm_S → Prop} (h1 : wp_L_edit x0 x1 x2 x3 S g) : xm_MetH yL_edit cL_edit 5 (some (FieldType.int)) [(0, 10, 13, 13), (0, 10, 17, 15)] rm_L_edit [xm_r x0, xm_i x1, xm_i x2, xm_r x3] S (xm_qi g) xm_nox :=
  xm_ofWH RL (by decide +kernel) rfl (Nat.le_of_ble_eq_true rfl) (fun K C N hq hx => kp_L_edit x0 x1 x2 x3 S C N (fun v S h => by rw [hq]; exact ⟨v, rfl, h⟩)  h1)
def rm_L_fetch : Room := { frames := 9, cells := 2, slots := 12, locals := 166 }
theorem dL_fetch_0 : decode cL_fetch 0 = .ok (.aload_n 3, 1) := by decide +kernel
theorem dL_fetch_1 : decode cL_fetch 1 = .ok (.iconst 0, 1) := by decide +kernel
theorem dL_fetch_2 : decode cL_fetch 2 = .ok (.aload_n 0, 1) := by decide +kernel
theorem dL_fetch_3 : decode cL_fetch 3 = .ok (.iload_n 1, 1) := by decide +kernel
theorem dL_fetch_4 : decode cL_fetch 4 = .ok (.iload_n 2, 1) := by decide +kernel
theorem dL_fetch_5 : decode cL_fetch 5 = .ok (.invokevirtual 101, 3) := by decide +kernel
theorem dL_fetch_8 : decode cL_fetch 8 = .ok (.i2l, 1) := by decide +kernel
theorem dL_fetch_9 : decode cL_fetch 9 = .ok (.lastore, 1) := by decide +kernel
theorem dL_fetch_10 : decode cL_fetch 10 = .ok (.goto 7, 3) := by decide +kernel
theorem dL_fetch_13 : decode cL_fetch 13 = .ok (.astore 4, 2) := by decide +kernel
theorem dL_fetch_15 : decode cL_fetch 15 = .ok (.iconst 1, 1) := by decide +kernel
theorem dL_fetch_16 : decode cL_fetch 16 = .ok (.ireturn, 1) := by decide +kernel
theorem dL_fetch_17 : decode cL_fetch 17 = .ok (.iconst 0, 1) := by decide +kernel
theorem dL_fetch_18 : decode cL_fetch 18 = .ok (.ireturn, 1) := by decide +kernel
def wp_L_fetch (x0 : Option Nat) (x1 : Int32) (x2 : Int32) (x3 : Option Nat) (S : xm_S) (g : Int32 → xm_S → Prop) : Prop :=
  ∃ n1, x0 = some n1 ∧ st_t S n1 = some (11, 0) ∧ wp_X11_fetch n1 x1 x2 S (fun r5 S4 => ∃ n6, x3 = some n6 ∧ ∃ z9, st_t S4 n6 = some (103, z9) ∧ vp_in (0 : Int32) z9 ∧ ∀ S11, S11 = st_pl S4 n6 ((0 : Int32)).toNatClampNeg ((r5).toInt64) → g (0 : Int32) S11) (fun X9 S9 => (X9 = xm_eI ∧ g (1 : Int32) S9))
set_option maxRecDepth 100000 in
set_option maxHeartbeats 4000000 in
theorem kp_L_fetch {K : xm_K} (x0 : Option Nat) (x1 : Int32) (x2 : Int32) (x3 : Option Nat) (S : xm_S) {g : Int32 → xm_S → Prop} (C : xm_Cx K cL_fetch RL 5 (some (FieldType.int)) rm_L_fetch) (N : xm_Hx K [(0, 10, 13, 21)]) (hg : ∀ v S, g v S → xm_q K (some (xm_i v)) S)  (h1 : wp_L_fetch x0 x1 x2 x3 S g) : xm_W K 0 0 0 [(0, xm_r x0), (1, xm_i x1), (2, xm_i x2), (3, xm_r x3)] [] S := by
  unfold wp_L_fetch at h1
  refine x_aload_n C 3 dL_fetch_0 rfl rfl ?_
  refine x_iconst (v := (0 : Int32)) C dL_fetch_1 (by decide) ?_
  refine x_aload_n C 0 dL_fetch_2 rfl rfl ?_
  refine x_iload_n C 1 dL_fetch_3 rfl rfl ?_
  refine x_iload_n C 2 dL_fetch_4 rfl rfl ?_
  obtain ⟨n1, hr2, h1⟩ := h1
  obtain ⟨ht3, h1⟩ := h1
  refine x_callV (rm' := rm_X11_fetch) (n := n1) C (kp_X11_fetch_met h1) lk_142 gw_820 gw_821 xv_11 rfl hr2 ht3 rfl (Nat.le_of_ble_eq_true rfl) ⟨Nat.le_of_ble_eq_true rfl, Nat.le_of_ble_eq_true rfl, (Nat.le_of_ble_eq_true rfl), (Nat.le_of_ble_eq_true rfl)⟩ dL_fetch_5 (fun X9 S9 hx9 => ?_) (xm_ki (fun r5 S4 h1 => ?_))
  · obtain ⟨rfl, h1⟩ := hx9
    refine x_catch (hh := [(0, 10, 13, 21)]) (pre := []) (suf := []) (a := 0) (b := 10) (hp := 13) (ct := 21) C N th_I_in rfl (fun _ h => absurd h List.not_mem_nil) (by decide) (by decide) gw_791 (fun q9 => ?_)
    refine x_astore_w (L' := [(4, xm_w0 q9), (0, xm_r x0), (1, xm_i x1), (2, xm_i x2), (3, xm_r x3)]) C dL_fetch_13 (by decide) rfl ?_
    refine x_iconst (v := (1 : Int32)) C dL_fetch_15 (by decide) ?_
    exact x_iret C (Nat.le_of_ble_eq_true rfl) (Nat.le_of_ble_eq_true rfl) rfl dL_fetch_16 (hg _ _ h1)
  · skip
    refine x_i2l C dL_fetch_8 ?_
    obtain ⟨n6, hr7, h1⟩ := h1
    obtain ⟨z9, ht8, h1⟩ := h1
    obtain ⟨hi10, h1⟩ := h1
    refine x_last (n := n6) C hr7 ht8 hi10 dL_fetch_9 ?_
    refine x_topS (fun S11 e12 => ?_)
    have h1 := h1 S11 e12
    refine x_goto (tgt := 17) C dL_fetch_10 (by decide) ?_
    refine x_iconst (v := (0 : Int32)) C dL_fetch_17 (by decide) ?_
    exact x_iret C (Nat.le_of_ble_eq_true rfl) (Nat.le_of_ble_eq_true rfl) rfl dL_fetch_18 (hg _ _ h1)
theorem kp_L_fetch_met {x0 : Option Nat} {x1 : Int32} {x2 : Int32} {x3 : Option Nat} {S : xm_S} {g : Int32 → xm_S → Prop} (h1 : wp_L_fetch x0 x1 x2 x3 S g) : xm_MetH yL_fetch cL_fetch 5 (some (FieldType.int)) [(0, 10, 13, 21)] rm_L_fetch [xm_r x0, xm_i x1, xm_i x2, xm_r x3] S (xm_qi g) xm_nox :=
  xm_ofWH RL (by decide +kernel) rfl (Nat.le_of_ble_eq_true rfl) (fun K C N hq hx => kp_L_fetch x0 x1 x2 x3 S C N (fun v S h => by rw [hq]; exact ⟨v, rfl, h⟩)  h1)
def rm_L_file : Room := { frames := 9, cells := 5, slots := 30, locals := 168 }
theorem dL_file_0 : decode cL_file 0 = .ok (.aload 6, 2) := by decide +kernel
theorem dL_file_2 : decode cL_file 2 = .ok (.iconst 0, 1) := by decide +kernel
theorem dL_file_3 : decode cL_file 3 = .ok (.aload_n 0, 1) := by decide +kernel
theorem dL_file_4 : decode cL_file 4 = .ok (.iload_n 1, 1) := by decide +kernel
theorem dL_file_5 : decode cL_file 5 = .ok (.iload_n 2, 1) := by decide +kernel
theorem dL_file_6 : decode cL_file 6 = .ok (.iload_n 3, 1) := by decide +kernel
theorem dL_file_7 : decode cL_file 7 = .ok (.iload 4, 2) := by decide +kernel
theorem dL_file_9 : decode cL_file 9 = .ok (.iload 5, 2) := by decide +kernel
theorem dL_file_11 : decode cL_file 11 = .ok (.invokevirtual 107, 3) := by decide +kernel
theorem dL_file_14 : decode cL_file 14 = .ok (.i2l, 1) := by decide +kernel
theorem dL_file_15 : decode cL_file 15 = .ok (.lastore, 1) := by decide +kernel
theorem dL_file_16 : decode cL_file 16 = .ok (.goto 15, 3) := by decide +kernel
theorem dL_file_19 : decode cL_file 19 = .ok (.astore 7, 2) := by decide +kernel
theorem dL_file_21 : decode cL_file 21 = .ok (.iconst 1, 1) := by decide +kernel
theorem dL_file_22 : decode cL_file 22 = .ok (.ireturn, 1) := by decide +kernel
theorem dL_file_23 : decode cL_file 23 = .ok (.astore 7, 2) := by decide +kernel
theorem dL_file_25 : decode cL_file 25 = .ok (.iconst 2, 1) := by decide +kernel
theorem dL_file_26 : decode cL_file 26 = .ok (.ireturn, 1) := by decide +kernel
theorem dL_file_27 : decode cL_file 27 = .ok (.astore 7, 2) := by decide +kernel
theorem dL_file_29 : decode cL_file 29 = .ok (.iconst 3, 1) := by decide +kernel
theorem dL_file_30 : decode cL_file 30 = .ok (.ireturn, 1) := by decide +kernel
theorem dL_file_31 : decode cL_file 31 = .ok (.iconst 0, 1) := by decide +kernel
theorem dL_file_32 : decode cL_file 32 = .ok (.ireturn, 1) := by decide +kernel
def wp_L_file (x0 : Option Nat) (x1 : Int32) (x2 : Int32) (x3 : Int32) (x4 : Int32) (x5 : Int32) (x6 : Option Nat) (S : xm_S) (g : Int32 → xm_S → Prop) : Prop :=
  ∃ n1, x0 = some n1 ∧ st_t S n1 = some (11, 0) ∧ wp_X11_file n1 x1 x2 x3 x4 x5 S (fun r5 S4 => ∃ n6, x6 = some n6 ∧ ∃ z9, st_t S4 n6 = some (103, z9) ∧ vp_in (0 : Int32) z9 ∧ ∀ S11, S11 = st_pl S4 n6 ((0 : Int32)).toNatClampNeg ((r5).toInt64) → g (0 : Int32) S11) (fun X9 S9 => (X9 = xm_eI ∧ g (1 : Int32) S9) ∨ (X9 = xm_eA ∧ g (nI 2) S9) ∨ (X9 = xm_eS ∧ g (nI 3) S9))
set_option maxRecDepth 100000 in
set_option maxHeartbeats 4000000 in
theorem kp_L_file {K : xm_K} (x0 : Option Nat) (x1 : Int32) (x2 : Int32) (x3 : Int32) (x4 : Int32) (x5 : Int32) (x6 : Option Nat) (S : xm_S) {g : Int32 → xm_S → Prop} (C : xm_Cx K cL_file RL 8 (some (FieldType.int)) rm_L_file) (N : xm_Hx K [(0, 16, 19, 21), (0, 16, 23, 13), (0, 16, 27, 15)]) (hg : ∀ v S, g v S → xm_q K (some (xm_i v)) S)  (h1 : wp_L_file x0 x1 x2 x3 x4 x5 x6 S g) : xm_W K 0 0 0 [(0, xm_r x0), (1, xm_i x1), (2, xm_i x2), (3, xm_i x3), (4, xm_i x4), (5, xm_i x5), (6, xm_r x6)] [] S := by
  unfold wp_L_file at h1
  refine x_aload C 6 dL_file_0 rfl ?_
  refine x_iconst (v := (0 : Int32)) C dL_file_2 (by decide) ?_
  refine x_aload_n C 0 dL_file_3 rfl rfl ?_
  refine x_iload_n C 1 dL_file_4 rfl rfl ?_
  refine x_iload_n C 2 dL_file_5 rfl rfl ?_
  refine x_iload_n C 3 dL_file_6 rfl rfl ?_
  refine x_iload C 4 dL_file_7 rfl ?_
  refine x_iload C 5 dL_file_9 rfl ?_
  obtain ⟨n1, hr2, h1⟩ := h1
  obtain ⟨ht3, h1⟩ := h1
  refine x_callV (rm' := rm_X11_file) (n := n1) C (kp_X11_file_met h1) lk_143 gw_824 gw_825 xv_11 rfl hr2 ht3 rfl (Nat.le_of_ble_eq_true rfl) ⟨Nat.le_of_ble_eq_true rfl, Nat.le_of_ble_eq_true rfl, (Nat.le_of_ble_eq_true rfl), (Nat.le_of_ble_eq_true rfl)⟩ dL_file_11 (fun X9 S9 hx9 => ?_) (xm_ki (fun r5 S4 h1 => ?_))
  · rcases hx9 with ⟨rfl, h1⟩ | ⟨rfl, h1⟩ | ⟨rfl, h1⟩
    · refine x_catch (hh := [(0, 16, 19, 21), (0, 16, 23, 13), (0, 16, 27, 15)]) (pre := []) (suf := [(0, 16, 23, 13), (0, 16, 27, 15)]) (a := 0) (b := 16) (hp := 19) (ct := 21) C N th_I_in rfl (fun _ h => absurd h List.not_mem_nil) (by decide) (by decide) gw_791 (fun q9 => ?_)
      refine x_astore_w (L' := [(7, xm_w0 q9), (0, xm_r x0), (1, xm_i x1), (2, xm_i x2), (3, xm_i x3), (4, xm_i x4), (5, xm_i x5), (6, xm_r x6)]) C dL_file_19 (by decide) rfl ?_
      refine x_iconst (v := (1 : Int32)) C dL_file_21 (by decide) ?_
      exact x_iret C (Nat.le_of_ble_eq_true rfl) (Nat.le_of_ble_eq_true rfl) rfl dL_file_22 (hg _ _ h1)
    · refine x_catch (hh := [(0, 16, 19, 21), (0, 16, 23, 13), (0, 16, 27, 15)]) (pre := [(0, 16, 19, 21)]) (suf := [(0, 16, 27, 15)]) (a := 0) (b := 16) (hp := 23) (ct := 13) C N th_A_in rfl (List.forall_mem_cons.mpr ⟨⟨by decide, xm_eI, th_I_in, by decide +kernel, gw_791⟩, fun _ h => absurd h List.not_mem_nil⟩) (by decide) (by decide) gw_792 (fun q9 => ?_)
      refine x_astore_w (L' := [(7, xm_w0 q9), (0, xm_r x0), (1, xm_i x1), (2, xm_i x2), (3, xm_i x3), (4, xm_i x4), (5, xm_i x5), (6, xm_r x6)]) C dL_file_23 (by decide) rfl ?_
      refine x_iconst (v := (nI 2)) C dL_file_25 (by decide) ?_
      exact x_iret C (Nat.le_of_ble_eq_true rfl) (Nat.le_of_ble_eq_true rfl) rfl dL_file_26 (hg _ _ h1)
    · refine x_catch (hh := [(0, 16, 19, 21), (0, 16, 23, 13), (0, 16, 27, 15)]) (pre := [(0, 16, 19, 21), (0, 16, 23, 13)]) (suf := []) (a := 0) (b := 16) (hp := 27) (ct := 15) C N th_S_in rfl (List.forall_mem_cons.mpr ⟨⟨by decide, xm_eI, th_I_in, by decide +kernel, gw_791⟩, List.forall_mem_cons.mpr ⟨⟨by decide, xm_eA, th_A_in, by decide +kernel, gw_792⟩, fun _ h => absurd h List.not_mem_nil⟩⟩) (by decide) (by decide) gw_793 (fun q9 => ?_)
      refine x_astore_w (L' := [(7, xm_w0 q9), (0, xm_r x0), (1, xm_i x1), (2, xm_i x2), (3, xm_i x3), (4, xm_i x4), (5, xm_i x5), (6, xm_r x6)]) C dL_file_27 (by decide) rfl ?_
      refine x_iconst (v := (nI 3)) C dL_file_29 (by decide) ?_
      exact x_iret C (Nat.le_of_ble_eq_true rfl) (Nat.le_of_ble_eq_true rfl) rfl dL_file_30 (hg _ _ h1)
  · skip
    refine x_i2l C dL_file_14 ?_
    obtain ⟨n6, hr7, h1⟩ := h1
    obtain ⟨z9, ht8, h1⟩ := h1
    obtain ⟨hi10, h1⟩ := h1
    refine x_last (n := n6) C hr7 ht8 hi10 dL_file_15 ?_
    refine x_topS (fun S11 e12 => ?_)
    have h1 := h1 S11 e12
    refine x_goto (tgt := 31) C dL_file_16 (by decide) ?_
    refine x_iconst (v := (0 : Int32)) C dL_file_31 (by decide) ?_
    exact x_iret C (Nat.le_of_ble_eq_true rfl) (Nat.le_of_ble_eq_true rfl) rfl dL_file_32 (hg _ _ h1)
theorem kp_L_file_met {x0 : Option Nat} {x1 : Int32} {x2 : Int32} {x3 : Int32} {x4 : Int32} {x5 : Int32} {x6 : Option Nat} {S : xm_S} {g : Int32 → xm_S → Prop} (h1 : wp_L_file x0 x1 x2 x3 x4 x5 x6 S g) : xm_MetH yL_file cL_file 8 (some (FieldType.int)) [(0, 16, 19, 21), (0, 16, 23, 13), (0, 16, 27, 15)] rm_L_file [xm_r x0, xm_i x1, xm_i x2, xm_i x3, xm_i x4, xm_i x5, xm_r x6] S (xm_qi g) xm_nox :=
  xm_ofWH RL (by decide +kernel) rfl (Nat.le_of_ble_eq_true rfl) (fun K C N hq hx => kp_L_file x0 x1 x2 x3 x4 x5 x6 S C N (fun v S h => by rw [hq]; exact ⟨v, rfl, h⟩)  h1)
def rm_L_holds : Room := { frames := 8, cells := 1, slots := 6, locals := 191 }
theorem dL_holds_0 : decode cL_holds 0 = .ok (.aload_n 2, 1) := by decide +kernel
theorem dL_holds_1 : decode cL_holds 1 = .ok (.iconst 0, 1) := by decide +kernel
theorem dL_holds_2 : decode cL_holds 2 = .ok (.aload_n 0, 1) := by decide +kernel
theorem dL_holds_3 : decode cL_holds 3 = .ok (.iload_n 1, 1) := by decide +kernel
theorem dL_holds_4 : decode cL_holds 4 = .ok (.invokevirtual 74, 3) := by decide +kernel
theorem dL_holds_7 : decode cL_holds 7 = .ok (.ifCond .eq 7, 3) := by decide +kernel
theorem dL_holds_10 : decode cL_holds 10 = .ok (.lconst 1, 1) := by decide +kernel
theorem dL_holds_11 : decode cL_holds 11 = .ok (.goto 4, 3) := by decide +kernel
theorem dL_holds_14 : decode cL_holds 14 = .ok (.lconst 0, 1) := by decide +kernel
theorem dL_holds_15 : decode cL_holds 15 = .ok (.lastore, 1) := by decide +kernel
theorem dL_holds_16 : decode cL_holds 16 = .ok (.goto 6, 3) := by decide +kernel
theorem dL_holds_19 : decode cL_holds 19 = .ok (.astore_n 3, 1) := by decide +kernel
theorem dL_holds_20 : decode cL_holds 20 = .ok (.iconst 1, 1) := by decide +kernel
theorem dL_holds_21 : decode cL_holds 21 = .ok (.ireturn, 1) := by decide +kernel
theorem dL_holds_22 : decode cL_holds 22 = .ok (.iconst 0, 1) := by decide +kernel
theorem dL_holds_23 : decode cL_holds 23 = .ok (.ireturn, 1) := by decide +kernel
def wp_L_holds_15 (s0 : Int64) (s1 : Int32) (s2 : Option Nat) (S : xm_S) (g : Int32 → xm_S → Prop) : Prop :=
  ∃ n1, s2 = some n1 ∧ ∃ z4, st_t S n1 = some (103, z4) ∧ vp_in s1 z4 ∧ ∀ S6, S6 = st_pl S n1 (s1).toNatClampNeg s0 → g (0 : Int32) S6
set_option maxRecDepth 100000 in
set_option maxHeartbeats 4000000 in
theorem kp_L_holds_15 {K : xm_K} (s0 : Int64) (s1 : Int32) (s2 : Option Nat) (S : xm_S) {g : Int32 → xm_S → Prop} (C : xm_Cx K cL_holds RL 4 (some (FieldType.int)) rm_L_holds) (N : xm_Hx K [(0, 16, 19, 21)]) (hg : ∀ v S, g v S → xm_q K (some (xm_i v)) S)  (h1 : wp_L_holds_15 s0 s1 s2 S g) : xm_W K 1 6 15 [] [xm_l s0, xm_i s1, xm_r s2] S := by
  unfold wp_L_holds_15 at h1
  obtain ⟨n1, hr2, h1⟩ := h1
  obtain ⟨z4, ht3, h1⟩ := h1
  obtain ⟨hi5, h1⟩ := h1
  refine x_last (n := n1) C hr2 ht3 hi5 dL_holds_15 ?_
  refine x_topS (fun S6 e7 => ?_)
  have h1 := h1 S6 e7
  refine x_goto (tgt := 22) C dL_holds_16 (by decide) ?_
  refine x_iconst (v := (0 : Int32)) C dL_holds_22 (by decide) ?_
  exact x_iret C (Nat.le_of_ble_eq_true rfl) (Nat.le_of_ble_eq_true rfl) rfl dL_holds_23 (hg _ _ h1)
def wp_L_holds (x0 : Option Nat) (x1 : Int32) (x2 : Option Nat) (S : xm_S) (g : Int32 → xm_S → Prop) : Prop :=
  ∃ n8, x0 = some n8 ∧ st_t S n8 = some (11, 0) ∧ wp_X11_holds n8 x1 S (fun r12 S11 => (r12 = 0 → wp_L_holds_15 (0 : Int64) (0 : Int32) x2 S11 g) ∧ (¬ r12 = 0 → wp_L_holds_15 (1 : Int64) (0 : Int32) x2 S11 g)) (fun X9 S9 => (X9 = xm_eI ∧ g (1 : Int32) S9))
set_option maxRecDepth 100000 in
set_option maxHeartbeats 4000000 in
theorem kp_L_holds {K : xm_K} (x0 : Option Nat) (x1 : Int32) (x2 : Option Nat) (S : xm_S) {g : Int32 → xm_S → Prop} (C : xm_Cx K cL_holds RL 4 (some (FieldType.int)) rm_L_holds) (N : xm_Hx K [(0, 16, 19, 21)]) (hg : ∀ v S, g v S → xm_q K (some (xm_i v)) S)  (h1 : wp_L_holds x0 x1 x2 S g) : xm_W K 0 0 0 [(0, xm_r x0), (1, xm_i x1), (2, xm_r x2)] [] S := by
  unfold wp_L_holds at h1
  refine x_aload_n C 2 dL_holds_0 rfl rfl ?_
  refine x_iconst (v := (0 : Int32)) C dL_holds_1 (by decide) ?_
  refine x_aload_n C 0 dL_holds_2 rfl rfl ?_
  refine x_iload_n C 1 dL_holds_3 rfl rfl ?_
  obtain ⟨n8, hr9, h1⟩ := h1
  obtain ⟨ht10, h1⟩ := h1
  refine x_callV (rm' := rm_X11_holds) (n := n8) C (kp_X11_holds_met h1) lk_144 gw_828 gw_829 xv_11 rfl hr9 ht10 rfl (Nat.le_of_ble_eq_true rfl) ⟨Nat.le_of_ble_eq_true rfl, Nat.le_of_ble_eq_true rfl, (Nat.le_of_ble_eq_true rfl), (Nat.le_of_ble_eq_true rfl)⟩ dL_holds_4 (fun X9 S9 hx9 => ?_) (xm_ki (fun r12 S11 h1 => ?_))
  · obtain ⟨rfl, h1⟩ := hx9
    refine x_catch (hh := [(0, 16, 19, 21)]) (pre := []) (suf := []) (a := 0) (b := 16) (hp := 19) (ct := 21) C N th_I_in rfl (fun _ h => absurd h List.not_mem_nil) (by decide) (by decide) gw_791 (fun q9 => ?_)
    refine x_astore_n_w (L' := [(3, xm_w0 q9), (0, xm_r x0), (1, xm_i x1), (2, xm_r x2)]) C dL_holds_19 rfl (by decide) rfl ?_
    refine x_iconst (v := (1 : Int32)) C dL_holds_20 (by decide) ?_
    exact x_iret C (Nat.le_of_ble_eq_true rfl) (Nat.le_of_ble_eq_true rfl) rfl dL_holds_21 (hg _ _ h1)
  · skip
    refine x_if_eq (tgt := 14) C dL_holds_7 (by decide) (fun z9 => ?_) (fun z9 => ?_)
    · have h1 := h1.1 z9
      refine x_lconst (v := (0 : Int64)) C dL_holds_14 (by decide) ?_
      refine x_keep (L' := []) C [] rfl ?_
      exact kp_L_holds_15 (0 : Int64) (0 : Int32) x2 S11 C N hg  h1
    · have h1 := h1.2 z9
      refine x_lconst (v := (1 : Int64)) C dL_holds_10 (by decide) ?_
      refine x_goto (tgt := 15) C dL_holds_11 (by decide) ?_
      refine x_keep (L' := []) C [] rfl ?_
      exact kp_L_holds_15 (1 : Int64) (0 : Int32) x2 S11 C N hg  h1
theorem kp_L_holds_met {x0 : Option Nat} {x1 : Int32} {x2 : Option Nat} {S : xm_S} {g : Int32 → xm_S → Prop} (h1 : wp_L_holds x0 x1 x2 S g) : xm_MetH yL_holds cL_holds 4 (some (FieldType.int)) [(0, 16, 19, 21)] rm_L_holds [xm_r x0, xm_i x1, xm_r x2] S (xm_qi g) xm_nox :=
  xm_ofWH RL (by decide +kernel) rfl (Nat.le_of_ble_eq_true rfl) (fun K C N hq hx => kp_L_holds x0 x1 x2 S C N (fun v S h => by rw [hq]; exact ⟨v, rfl, h⟩)  h1)
def rm_L_index : Room := { frames := 8, cells := 3, slots := 18, locals := 145 }
theorem dL_index_0 : decode cL_index 0 = .ok (.aload 4, 2) := by decide +kernel
theorem dL_index_2 : decode cL_index 2 = .ok (.iconst 0, 1) := by decide +kernel
theorem dL_index_3 : decode cL_index 3 = .ok (.aload_n 0, 1) := by decide +kernel
theorem dL_index_4 : decode cL_index 4 = .ok (.iload_n 1, 1) := by decide +kernel
theorem dL_index_5 : decode cL_index 5 = .ok (.iload_n 2, 1) := by decide +kernel
theorem dL_index_6 : decode cL_index 6 = .ok (.iload_n 3, 1) := by decide +kernel
theorem dL_index_7 : decode cL_index 7 = .ok (.invokevirtual 91, 3) := by decide +kernel
theorem dL_index_10 : decode cL_index 10 = .ok (.i2l, 1) := by decide +kernel
theorem dL_index_11 : decode cL_index 11 = .ok (.lastore, 1) := by decide +kernel
theorem dL_index_12 : decode cL_index 12 = .ok (.goto 7, 3) := by decide +kernel
theorem dL_index_15 : decode cL_index 15 = .ok (.astore 5, 2) := by decide +kernel
theorem dL_index_17 : decode cL_index 17 = .ok (.iconst 1, 1) := by decide +kernel
theorem dL_index_18 : decode cL_index 18 = .ok (.ireturn, 1) := by decide +kernel
theorem dL_index_19 : decode cL_index 19 = .ok (.iconst 0, 1) := by decide +kernel
theorem dL_index_20 : decode cL_index 20 = .ok (.ireturn, 1) := by decide +kernel
def wp_L_index (x0 : Option Nat) (x1 : Int32) (x2 : Int32) (x3 : Int32) (x4 : Option Nat) (S : xm_S) (g : Int32 → xm_S → Prop) : Prop :=
  ∃ n1, x0 = some n1 ∧ st_t S n1 = some (11, 0) ∧ wp_X11_index n1 x1 x2 x3 S (fun r5 S4 => ∃ n6, x4 = some n6 ∧ ∃ z9, st_t S4 n6 = some (103, z9) ∧ vp_in (0 : Int32) z9 ∧ ∀ S11, S11 = st_pl S4 n6 ((0 : Int32)).toNatClampNeg ((r5).toInt64) → g (0 : Int32) S11) (fun X9 S9 => (X9 = xm_eA ∧ g (1 : Int32) S9))
set_option maxRecDepth 100000 in
set_option maxHeartbeats 4000000 in
theorem kp_L_index {K : xm_K} (x0 : Option Nat) (x1 : Int32) (x2 : Int32) (x3 : Int32) (x4 : Option Nat) (S : xm_S) {g : Int32 → xm_S → Prop} (C : xm_Cx K cL_index RL 6 (some (FieldType.int)) rm_L_index) (N : xm_Hx K [(0, 12, 15, 13)]) (hg : ∀ v S, g v S → xm_q K (some (xm_i v)) S)  (h1 : wp_L_index x0 x1 x2 x3 x4 S g) : xm_W K 0 0 0 [(0, xm_r x0), (1, xm_i x1), (2, xm_i x2), (3, xm_i x3), (4, xm_r x4)] [] S := by
  unfold wp_L_index at h1
  refine x_aload C 4 dL_index_0 rfl ?_
  refine x_iconst (v := (0 : Int32)) C dL_index_2 (by decide) ?_
  refine x_aload_n C 0 dL_index_3 rfl rfl ?_
  refine x_iload_n C 1 dL_index_4 rfl rfl ?_
  refine x_iload_n C 2 dL_index_5 rfl rfl ?_
  refine x_iload_n C 3 dL_index_6 rfl rfl ?_
  obtain ⟨n1, hr2, h1⟩ := h1
  obtain ⟨ht3, h1⟩ := h1
  refine x_callV (rm' := rm_X11_index) (n := n1) C (kp_X11_index_met h1) lk_145 gw_832 gw_833 xv_11 rfl hr2 ht3 rfl (Nat.le_of_ble_eq_true rfl) ⟨Nat.le_of_ble_eq_true rfl, Nat.le_of_ble_eq_true rfl, (Nat.le_of_ble_eq_true rfl), (Nat.le_of_ble_eq_true rfl)⟩ dL_index_7 (fun X9 S9 hx9 => ?_) (xm_ki (fun r5 S4 h1 => ?_))
  · obtain ⟨rfl, h1⟩ := hx9
    refine x_catch (hh := [(0, 12, 15, 13)]) (pre := []) (suf := []) (a := 0) (b := 12) (hp := 15) (ct := 13) C N th_A_in rfl (fun _ h => absurd h List.not_mem_nil) (by decide) (by decide) gw_792 (fun q9 => ?_)
    refine x_astore_w (L' := [(5, xm_w0 q9), (0, xm_r x0), (1, xm_i x1), (2, xm_i x2), (3, xm_i x3), (4, xm_r x4)]) C dL_index_15 (by decide) rfl ?_
    refine x_iconst (v := (1 : Int32)) C dL_index_17 (by decide) ?_
    exact x_iret C (Nat.le_of_ble_eq_true rfl) (Nat.le_of_ble_eq_true rfl) rfl dL_index_18 (hg _ _ h1)
  · skip
    refine x_i2l C dL_index_10 ?_
    obtain ⟨n6, hr7, h1⟩ := h1
    obtain ⟨z9, ht8, h1⟩ := h1
    obtain ⟨hi10, h1⟩ := h1
    refine x_last (n := n6) C hr7 ht8 hi10 dL_index_11 ?_
    refine x_topS (fun S11 e12 => ?_)
    have h1 := h1 S11 e12
    refine x_goto (tgt := 19) C dL_index_12 (by decide) ?_
    refine x_iconst (v := (0 : Int32)) C dL_index_19 (by decide) ?_
    exact x_iret C (Nat.le_of_ble_eq_true rfl) (Nat.le_of_ble_eq_true rfl) rfl dL_index_20 (hg _ _ h1)
theorem kp_L_index_met {x0 : Option Nat} {x1 : Int32} {x2 : Int32} {x3 : Int32} {x4 : Option Nat} {S : xm_S} {g : Int32 → xm_S → Prop} (h1 : wp_L_index x0 x1 x2 x3 x4 S g) : xm_MetH yL_index cL_index 6 (some (FieldType.int)) [(0, 12, 15, 13)] rm_L_index [xm_r x0, xm_i x1, xm_i x2, xm_i x3, xm_r x4] S (xm_qi g) xm_nox :=
  xm_ofWH RL (by decide +kernel) rfl (Nat.le_of_ble_eq_true rfl) (fun K C N hq hx => kp_L_index x0 x1 x2 x3 x4 S C N (fun v S h => by rw [hq]; exact ⟨v, rfl, h⟩)  h1)
def rm_L_install : Room := { frames := 8, cells := 2, slots := 12, locals := 144 }
theorem dL_install_0 : decode cL_install 0 = .ok (.aload_n 3, 1) := by decide +kernel
theorem dL_install_1 : decode cL_install 1 = .ok (.iconst 0, 1) := by decide +kernel
theorem dL_install_2 : decode cL_install 2 = .ok (.aload_n 0, 1) := by decide +kernel
theorem dL_install_3 : decode cL_install 3 = .ok (.iload_n 1, 1) := by decide +kernel
theorem dL_install_4 : decode cL_install 4 = .ok (.iload_n 2, 1) := by decide +kernel
theorem dL_install_5 : decode cL_install 5 = .ok (.invokevirtual 114, 3) := by decide +kernel
theorem dL_install_8 : decode cL_install 8 = .ok (.i2l, 1) := by decide +kernel
theorem dL_install_9 : decode cL_install 9 = .ok (.lastore, 1) := by decide +kernel
theorem dL_install_10 : decode cL_install 10 = .ok (.goto 11, 3) := by decide +kernel
theorem dL_install_13 : decode cL_install 13 = .ok (.astore 4, 2) := by decide +kernel
theorem dL_install_15 : decode cL_install 15 = .ok (.iconst 1, 1) := by decide +kernel
theorem dL_install_16 : decode cL_install 16 = .ok (.ireturn, 1) := by decide +kernel
theorem dL_install_17 : decode cL_install 17 = .ok (.astore 4, 2) := by decide +kernel
theorem dL_install_19 : decode cL_install 19 = .ok (.iconst 2, 1) := by decide +kernel
theorem dL_install_20 : decode cL_install 20 = .ok (.ireturn, 1) := by decide +kernel
theorem dL_install_21 : decode cL_install 21 = .ok (.iconst 0, 1) := by decide +kernel
theorem dL_install_22 : decode cL_install 22 = .ok (.ireturn, 1) := by decide +kernel
def wp_L_install (x0 : Option Nat) (x1 : Int32) (x2 : Int32) (x3 : Option Nat) (S : xm_S) (g : Int32 → xm_S → Prop) : Prop :=
  ∃ n1, x0 = some n1 ∧ st_t S n1 = some (11, 0) ∧ wp_X11_install n1 x1 x2 S (fun r5 S4 => ∃ n6, x3 = some n6 ∧ ∃ z9, st_t S4 n6 = some (103, z9) ∧ vp_in (0 : Int32) z9 ∧ ∀ S11, S11 = st_pl S4 n6 ((0 : Int32)).toNatClampNeg ((r5).toInt64) → g (0 : Int32) S11) (fun X9 S9 => (X9 = xm_eI ∧ g (1 : Int32) S9) ∨ (X9 = xm_eA ∧ g (nI 2) S9))
set_option maxRecDepth 100000 in
set_option maxHeartbeats 4000000 in
theorem kp_L_install {K : xm_K} (x0 : Option Nat) (x1 : Int32) (x2 : Int32) (x3 : Option Nat) (S : xm_S) {g : Int32 → xm_S → Prop} (C : xm_Cx K cL_install RL 5 (some (FieldType.int)) rm_L_install) (N : xm_Hx K [(0, 10, 13, 21), (0, 10, 17, 13)]) (hg : ∀ v S, g v S → xm_q K (some (xm_i v)) S)  (h1 : wp_L_install x0 x1 x2 x3 S g) : xm_W K 0 0 0 [(0, xm_r x0), (1, xm_i x1), (2, xm_i x2), (3, xm_r x3)] [] S := by
  unfold wp_L_install at h1
  refine x_aload_n C 3 dL_install_0 rfl rfl ?_
  refine x_iconst (v := (0 : Int32)) C dL_install_1 (by decide) ?_
  refine x_aload_n C 0 dL_install_2 rfl rfl ?_
  refine x_iload_n C 1 dL_install_3 rfl rfl ?_
  refine x_iload_n C 2 dL_install_4 rfl rfl ?_
  obtain ⟨n1, hr2, h1⟩ := h1
  obtain ⟨ht3, h1⟩ := h1
  refine x_callV (rm' := rm_X11_install) (n := n1) C (kp_X11_install_met h1) lk_146 gw_836 gw_837 xv_11 rfl hr2 ht3 rfl (Nat.le_of_ble_eq_true rfl) ⟨Nat.le_of_ble_eq_true rfl, Nat.le_of_ble_eq_true rfl, (Nat.le_of_ble_eq_true rfl), (Nat.le_of_ble_eq_true rfl)⟩ dL_install_5 (fun X9 S9 hx9 => ?_) (xm_ki (fun r5 S4 h1 => ?_))
  · rcases hx9 with ⟨rfl, h1⟩ | ⟨rfl, h1⟩
    · refine x_catch (hh := [(0, 10, 13, 21), (0, 10, 17, 13)]) (pre := []) (suf := [(0, 10, 17, 13)]) (a := 0) (b := 10) (hp := 13) (ct := 21) C N th_I_in rfl (fun _ h => absurd h List.not_mem_nil) (by decide) (by decide) gw_791 (fun q9 => ?_)
      refine x_astore_w (L' := [(4, xm_w0 q9), (0, xm_r x0), (1, xm_i x1), (2, xm_i x2), (3, xm_r x3)]) C dL_install_13 (by decide) rfl ?_
      refine x_iconst (v := (1 : Int32)) C dL_install_15 (by decide) ?_
      exact x_iret C (Nat.le_of_ble_eq_true rfl) (Nat.le_of_ble_eq_true rfl) rfl dL_install_16 (hg _ _ h1)
    · refine x_catch (hh := [(0, 10, 13, 21), (0, 10, 17, 13)]) (pre := [(0, 10, 13, 21)]) (suf := []) (a := 0) (b := 10) (hp := 17) (ct := 13) C N th_A_in rfl (List.forall_mem_cons.mpr ⟨⟨by decide, xm_eI, th_I_in, by decide +kernel, gw_791⟩, fun _ h => absurd h List.not_mem_nil⟩) (by decide) (by decide) gw_792 (fun q9 => ?_)
      refine x_astore_w (L' := [(4, xm_w0 q9), (0, xm_r x0), (1, xm_i x1), (2, xm_i x2), (3, xm_r x3)]) C dL_install_17 (by decide) rfl ?_
      refine x_iconst (v := (nI 2)) C dL_install_19 (by decide) ?_
      exact x_iret C (Nat.le_of_ble_eq_true rfl) (Nat.le_of_ble_eq_true rfl) rfl dL_install_20 (hg _ _ h1)
  · skip
    refine x_i2l C dL_install_8 ?_
    obtain ⟨n6, hr7, h1⟩ := h1
    obtain ⟨z9, ht8, h1⟩ := h1
    obtain ⟨hi10, h1⟩ := h1
    refine x_last (n := n6) C hr7 ht8 hi10 dL_install_9 ?_
    refine x_topS (fun S11 e12 => ?_)
    have h1 := h1 S11 e12
    refine x_goto (tgt := 21) C dL_install_10 (by decide) ?_
    refine x_iconst (v := (0 : Int32)) C dL_install_21 (by decide) ?_
    exact x_iret C (Nat.le_of_ble_eq_true rfl) (Nat.le_of_ble_eq_true rfl) rfl dL_install_22 (hg _ _ h1)
theorem kp_L_install_met {x0 : Option Nat} {x1 : Int32} {x2 : Int32} {x3 : Option Nat} {S : xm_S} {g : Int32 → xm_S → Prop} (h1 : wp_L_install x0 x1 x2 x3 S g) : xm_MetH yL_install cL_install 5 (some (FieldType.int)) [(0, 10, 13, 21), (0, 10, 17, 13)] rm_L_install [xm_r x0, xm_i x1, xm_i x2, xm_r x3] S (xm_qi g) xm_nox :=
  xm_ofWH RL (by decide +kernel) rfl (Nat.le_of_ble_eq_true rfl) (fun K C N hq hx => kp_L_install x0 x1 x2 x3 S C N (fun v S h => by rw [hq]; exact ⟨v, rfl, h⟩)  h1)
def rm_L_installed : Room := { frames := 8, cells := 1, slots := 6, locals := 141 }
theorem dL_installed_0 : decode cL_installed 0 = .ok (.aload_n 2, 1) := by decide +kernel
theorem dL_installed_1 : decode cL_installed 1 = .ok (.iconst 0, 1) := by decide +kernel
theorem dL_installed_2 : decode cL_installed 2 = .ok (.aload_n 0, 1) := by decide +kernel
theorem dL_installed_3 : decode cL_installed 3 = .ok (.iload_n 1, 1) := by decide +kernel
theorem dL_installed_4 : decode cL_installed 4 = .ok (.invokevirtual 123, 3) := by decide +kernel
theorem dL_installed_7 : decode cL_installed 7 = .ok (.i2l, 1) := by decide +kernel
theorem dL_installed_8 : decode cL_installed 8 = .ok (.lastore, 1) := by decide +kernel
theorem dL_installed_9 : decode cL_installed 9 = .ok (.goto 6, 3) := by decide +kernel
theorem dL_installed_12 : decode cL_installed 12 = .ok (.astore_n 3, 1) := by decide +kernel
theorem dL_installed_13 : decode cL_installed 13 = .ok (.iconst 1, 1) := by decide +kernel
theorem dL_installed_14 : decode cL_installed 14 = .ok (.ireturn, 1) := by decide +kernel
theorem dL_installed_15 : decode cL_installed 15 = .ok (.iconst 0, 1) := by decide +kernel
theorem dL_installed_16 : decode cL_installed 16 = .ok (.ireturn, 1) := by decide +kernel
def wp_L_installed (x0 : Option Nat) (x1 : Int32) (x2 : Option Nat) (S : xm_S) (g : Int32 → xm_S → Prop) : Prop :=
  ∃ n1, x0 = some n1 ∧ st_t S n1 = some (11, 0) ∧ wp_X11_installed n1 x1 S (fun r5 S4 => ∃ n6, x2 = some n6 ∧ ∃ z9, st_t S4 n6 = some (103, z9) ∧ vp_in (0 : Int32) z9 ∧ ∀ S11, S11 = st_pl S4 n6 ((0 : Int32)).toNatClampNeg ((r5).toInt64) → g (0 : Int32) S11) (fun X9 S9 => (X9 = xm_eI ∧ g (1 : Int32) S9))
set_option maxRecDepth 100000 in
set_option maxHeartbeats 4000000 in
theorem kp_L_installed {K : xm_K} (x0 : Option Nat) (x1 : Int32) (x2 : Option Nat) (S : xm_S) {g : Int32 → xm_S → Prop} (C : xm_Cx K cL_installed RL 4 (some (FieldType.int)) rm_L_installed) (N : xm_Hx K [(0, 9, 12, 21)]) (hg : ∀ v S, g v S → xm_q K (some (xm_i v)) S)  (h1 : wp_L_installed x0 x1 x2 S g) : xm_W K 0 0 0 [(0, xm_r x0), (1, xm_i x1), (2, xm_r x2)] [] S := by
  unfold wp_L_installed at h1
  refine x_aload_n C 2 dL_installed_0 rfl rfl ?_
  refine x_iconst (v := (0 : Int32)) C dL_installed_1 (by decide) ?_
  refine x_aload_n C 0 dL_installed_2 rfl rfl ?_
  refine x_iload_n C 1 dL_installed_3 rfl rfl ?_
  obtain ⟨n1, hr2, h1⟩ := h1
  obtain ⟨ht3, h1⟩ := h1
  refine x_callV (rm' := rm_X11_installed) (n := n1) C (kp_X11_installed_met h1) lk_147 gw_840 gw_841 xv_11 rfl hr2 ht3 rfl (Nat.le_of_ble_eq_true rfl) ⟨Nat.le_of_ble_eq_true rfl, Nat.le_of_ble_eq_true rfl, (Nat.le_of_ble_eq_true rfl), (Nat.le_of_ble_eq_true rfl)⟩ dL_installed_4 (fun X9 S9 hx9 => ?_) (xm_ki (fun r5 S4 h1 => ?_))
  · obtain ⟨rfl, h1⟩ := hx9
    refine x_catch (hh := [(0, 9, 12, 21)]) (pre := []) (suf := []) (a := 0) (b := 9) (hp := 12) (ct := 21) C N th_I_in rfl (fun _ h => absurd h List.not_mem_nil) (by decide) (by decide) gw_791 (fun q9 => ?_)
    refine x_astore_n_w (L' := [(3, xm_w0 q9), (0, xm_r x0), (1, xm_i x1), (2, xm_r x2)]) C dL_installed_12 rfl (by decide) rfl ?_
    refine x_iconst (v := (1 : Int32)) C dL_installed_13 (by decide) ?_
    exact x_iret C (Nat.le_of_ble_eq_true rfl) (Nat.le_of_ble_eq_true rfl) rfl dL_installed_14 (hg _ _ h1)
  · skip
    refine x_i2l C dL_installed_7 ?_
    obtain ⟨n6, hr7, h1⟩ := h1
    obtain ⟨z9, ht8, h1⟩ := h1
    obtain ⟨hi10, h1⟩ := h1
    refine x_last (n := n6) C hr7 ht8 hi10 dL_installed_8 ?_
    refine x_topS (fun S11 e12 => ?_)
    have h1 := h1 S11 e12
    refine x_goto (tgt := 15) C dL_installed_9 (by decide) ?_
    refine x_iconst (v := (0 : Int32)) C dL_installed_15 (by decide) ?_
    exact x_iret C (Nat.le_of_ble_eq_true rfl) (Nat.le_of_ble_eq_true rfl) rfl dL_installed_16 (hg _ _ h1)
theorem kp_L_installed_met {x0 : Option Nat} {x1 : Int32} {x2 : Option Nat} {S : xm_S} {g : Int32 → xm_S → Prop} (h1 : wp_L_installed x0 x1 x2 S g) : xm_MetH yL_installed cL_installed 4 (some (FieldType.int)) [(0, 9, 12, 21)] rm_L_installed [xm_r x0, xm_i x1, xm_r x2] S (xm_qi g) xm_nox :=
  xm_ofWH RL (by decide +kernel) rfl (Nat.le_of_ble_eq_true rfl) (fun K C N hq hx => kp_L_installed x0 x1 x2 S C N (fun v S h => by rw [hq]; exact ⟨v, rfl, h⟩)  h1)
def rm_L_lies : Room := { frames := 8, cells := 1, slots := 6, locals := 141 }
theorem dL_lies_0 : decode cL_lies 0 = .ok (.aload_n 2, 1) := by decide +kernel
theorem dL_lies_1 : decode cL_lies 1 = .ok (.iconst 0, 1) := by decide +kernel
theorem dL_lies_2 : decode cL_lies 2 = .ok (.aload_n 0, 1) := by decide +kernel
theorem dL_lies_3 : decode cL_lies 3 = .ok (.iload_n 1, 1) := by decide +kernel
theorem dL_lies_4 : decode cL_lies 4 = .ok (.invokevirtual 104, 3) := by decide +kernel
theorem dL_lies_7 : decode cL_lies 7 = .ok (.i2l, 1) := by decide +kernel
theorem dL_lies_8 : decode cL_lies 8 = .ok (.lastore, 1) := by decide +kernel
theorem dL_lies_9 : decode cL_lies 9 = .ok (.goto 6, 3) := by decide +kernel
theorem dL_lies_12 : decode cL_lies 12 = .ok (.astore_n 3, 1) := by decide +kernel
theorem dL_lies_13 : decode cL_lies 13 = .ok (.iconst 1, 1) := by decide +kernel
theorem dL_lies_14 : decode cL_lies 14 = .ok (.ireturn, 1) := by decide +kernel
theorem dL_lies_15 : decode cL_lies 15 = .ok (.iconst 0, 1) := by decide +kernel
theorem dL_lies_16 : decode cL_lies 16 = .ok (.ireturn, 1) := by decide +kernel
def wp_L_lies (x0 : Option Nat) (x1 : Int32) (x2 : Option Nat) (S : xm_S) (g : Int32 → xm_S → Prop) : Prop :=
  ∃ n1, x0 = some n1 ∧ st_t S n1 = some (11, 0) ∧ wp_X11_lies n1 x1 S (fun r5 S4 => ∃ n6, x2 = some n6 ∧ ∃ z9, st_t S4 n6 = some (103, z9) ∧ vp_in (0 : Int32) z9 ∧ ∀ S11, S11 = st_pl S4 n6 ((0 : Int32)).toNatClampNeg ((r5).toInt64) → g (0 : Int32) S11) (fun X9 S9 => (X9 = xm_eI ∧ g (1 : Int32) S9))
set_option maxRecDepth 100000 in
set_option maxHeartbeats 4000000 in
theorem kp_L_lies {K : xm_K} (x0 : Option Nat) (x1 : Int32) (x2 : Option Nat) (S : xm_S) {g : Int32 → xm_S → Prop} (C : xm_Cx K cL_lies RL 4 (some (FieldType.int)) rm_L_lies) (N : xm_Hx K [(0, 9, 12, 21)]) (hg : ∀ v S, g v S → xm_q K (some (xm_i v)) S)  (h1 : wp_L_lies x0 x1 x2 S g) : xm_W K 0 0 0 [(0, xm_r x0), (1, xm_i x1), (2, xm_r x2)] [] S := by
  unfold wp_L_lies at h1
  refine x_aload_n C 2 dL_lies_0 rfl rfl ?_
  refine x_iconst (v := (0 : Int32)) C dL_lies_1 (by decide) ?_
  refine x_aload_n C 0 dL_lies_2 rfl rfl ?_
  refine x_iload_n C 1 dL_lies_3 rfl rfl ?_
  obtain ⟨n1, hr2, h1⟩ := h1
  obtain ⟨ht3, h1⟩ := h1
  refine x_callV (rm' := rm_X11_lies) (n := n1) C (kp_X11_lies_met h1) lk_148 gw_844 gw_845 xv_11 rfl hr2 ht3 rfl (Nat.le_of_ble_eq_true rfl) ⟨Nat.le_of_ble_eq_true rfl, Nat.le_of_ble_eq_true rfl, (Nat.le_of_ble_eq_true rfl), (Nat.le_of_ble_eq_true rfl)⟩ dL_lies_4 (fun X9 S9 hx9 => ?_) (xm_ki (fun r5 S4 h1 => ?_))
  · obtain ⟨rfl, h1⟩ := hx9
    refine x_catch (hh := [(0, 9, 12, 21)]) (pre := []) (suf := []) (a := 0) (b := 9) (hp := 12) (ct := 21) C N th_I_in rfl (fun _ h => absurd h List.not_mem_nil) (by decide) (by decide) gw_791 (fun q9 => ?_)
    refine x_astore_n_w (L' := [(3, xm_w0 q9), (0, xm_r x0), (1, xm_i x1), (2, xm_r x2)]) C dL_lies_12 rfl (by decide) rfl ?_
    refine x_iconst (v := (1 : Int32)) C dL_lies_13 (by decide) ?_
    exact x_iret C (Nat.le_of_ble_eq_true rfl) (Nat.le_of_ble_eq_true rfl) rfl dL_lies_14 (hg _ _ h1)
  · skip
    refine x_i2l C dL_lies_7 ?_
    obtain ⟨n6, hr7, h1⟩ := h1
    obtain ⟨z9, ht8, h1⟩ := h1
    obtain ⟨hi10, h1⟩ := h1
    refine x_last (n := n6) C hr7 ht8 hi10 dL_lies_8 ?_
    refine x_topS (fun S11 e12 => ?_)
    have h1 := h1 S11 e12
    refine x_goto (tgt := 15) C dL_lies_9 (by decide) ?_
    refine x_iconst (v := (0 : Int32)) C dL_lies_15 (by decide) ?_
    exact x_iret C (Nat.le_of_ble_eq_true rfl) (Nat.le_of_ble_eq_true rfl) rfl dL_lies_16 (hg _ _ h1)
theorem kp_L_lies_met {x0 : Option Nat} {x1 : Int32} {x2 : Option Nat} {S : xm_S} {g : Int32 → xm_S → Prop} (h1 : wp_L_lies x0 x1 x2 S g) : xm_MetH yL_lies cL_lies 4 (some (FieldType.int)) [(0, 9, 12, 21)] rm_L_lies [xm_r x0, xm_i x1, xm_r x2] S (xm_qi g) xm_nox :=
  xm_ofWH RL (by decide +kernel) rfl (Nat.le_of_ble_eq_true rfl) (fun K C N hq hx => kp_L_lies x0 x1 x2 S C N (fun v S h => by rw [hq]; exact ⟨v, rfl, h⟩)  h1)
def rm_L_lock : Room := { frames := 8, cells := 2, slots := 12, locals := 143 }
theorem dL_lock_0 : decode cL_lock 0 = .ok (.aload_n 2, 1) := by decide +kernel
theorem dL_lock_1 : decode cL_lock 1 = .ok (.iconst 0, 1) := by decide +kernel
theorem dL_lock_2 : decode cL_lock 2 = .ok (.aload_n 0, 1) := by decide +kernel
theorem dL_lock_3 : decode cL_lock 3 = .ok (.iload_n 1, 1) := by decide +kernel
theorem dL_lock_4 : decode cL_lock 4 = .ok (.invokevirtual 68, 3) := by decide +kernel
theorem dL_lock_7 : decode cL_lock 7 = .ok (.i2l, 1) := by decide +kernel
theorem dL_lock_8 : decode cL_lock 8 = .ok (.lastore, 1) := by decide +kernel
theorem dL_lock_9 : decode cL_lock 9 = .ok (.goto 9, 3) := by decide +kernel
theorem dL_lock_12 : decode cL_lock 12 = .ok (.astore_n 3, 1) := by decide +kernel
theorem dL_lock_13 : decode cL_lock 13 = .ok (.iconst 1, 1) := by decide +kernel
theorem dL_lock_14 : decode cL_lock 14 = .ok (.ireturn, 1) := by decide +kernel
theorem dL_lock_15 : decode cL_lock 15 = .ok (.astore_n 3, 1) := by decide +kernel
theorem dL_lock_16 : decode cL_lock 16 = .ok (.iconst 2, 1) := by decide +kernel
theorem dL_lock_17 : decode cL_lock 17 = .ok (.ireturn, 1) := by decide +kernel
theorem dL_lock_18 : decode cL_lock 18 = .ok (.iconst 0, 1) := by decide +kernel
theorem dL_lock_19 : decode cL_lock 19 = .ok (.ireturn, 1) := by decide +kernel
def wp_L_lock (x0 : Option Nat) (x1 : Int32) (x2 : Option Nat) (S : xm_S) (g : Int32 → xm_S → Prop) : Prop :=
  ∃ n1, x0 = some n1 ∧ st_t S n1 = some (11, 0) ∧ wp_X11_lock n1 x1 S (fun r5 S4 => ∃ n6, x2 = some n6 ∧ ∃ z9, st_t S4 n6 = some (103, z9) ∧ vp_in (0 : Int32) z9 ∧ ∀ S11, S11 = st_pl S4 n6 ((0 : Int32)).toNatClampNeg ((r5).toInt64) → g (0 : Int32) S11) (fun X9 S9 => (X9 = xm_eI ∧ g (1 : Int32) S9) ∨ (X9 = xm_eS ∧ g (nI 2) S9))
set_option maxRecDepth 100000 in
set_option maxHeartbeats 4000000 in
theorem kp_L_lock {K : xm_K} (x0 : Option Nat) (x1 : Int32) (x2 : Option Nat) (S : xm_S) {g : Int32 → xm_S → Prop} (C : xm_Cx K cL_lock RL 4 (some (FieldType.int)) rm_L_lock) (N : xm_Hx K [(0, 9, 12, 21), (0, 9, 15, 15)]) (hg : ∀ v S, g v S → xm_q K (some (xm_i v)) S)  (h1 : wp_L_lock x0 x1 x2 S g) : xm_W K 0 0 0 [(0, xm_r x0), (1, xm_i x1), (2, xm_r x2)] [] S := by
  unfold wp_L_lock at h1
  refine x_aload_n C 2 dL_lock_0 rfl rfl ?_
  refine x_iconst (v := (0 : Int32)) C dL_lock_1 (by decide) ?_
  refine x_aload_n C 0 dL_lock_2 rfl rfl ?_
  refine x_iload_n C 1 dL_lock_3 rfl rfl ?_
  obtain ⟨n1, hr2, h1⟩ := h1
  obtain ⟨ht3, h1⟩ := h1
  refine x_callV (rm' := rm_X11_lock) (n := n1) C (kp_X11_lock_met h1) lk_149 gw_848 gw_849 xv_11 rfl hr2 ht3 rfl (Nat.le_of_ble_eq_true rfl) ⟨Nat.le_of_ble_eq_true rfl, Nat.le_of_ble_eq_true rfl, (Nat.le_of_ble_eq_true rfl), (Nat.le_of_ble_eq_true rfl)⟩ dL_lock_4 (fun X9 S9 hx9 => ?_) (xm_ki (fun r5 S4 h1 => ?_))
  · rcases hx9 with ⟨rfl, h1⟩ | ⟨rfl, h1⟩
    · refine x_catch (hh := [(0, 9, 12, 21), (0, 9, 15, 15)]) (pre := []) (suf := [(0, 9, 15, 15)]) (a := 0) (b := 9) (hp := 12) (ct := 21) C N th_I_in rfl (fun _ h => absurd h List.not_mem_nil) (by decide) (by decide) gw_791 (fun q9 => ?_)
      refine x_astore_n_w (L' := [(3, xm_w0 q9), (0, xm_r x0), (1, xm_i x1), (2, xm_r x2)]) C dL_lock_12 rfl (by decide) rfl ?_
      refine x_iconst (v := (1 : Int32)) C dL_lock_13 (by decide) ?_
      exact x_iret C (Nat.le_of_ble_eq_true rfl) (Nat.le_of_ble_eq_true rfl) rfl dL_lock_14 (hg _ _ h1)
    · refine x_catch (hh := [(0, 9, 12, 21), (0, 9, 15, 15)]) (pre := [(0, 9, 12, 21)]) (suf := []) (a := 0) (b := 9) (hp := 15) (ct := 15) C N th_S_in rfl (List.forall_mem_cons.mpr ⟨⟨by decide, xm_eI, th_I_in, by decide +kernel, gw_791⟩, fun _ h => absurd h List.not_mem_nil⟩) (by decide) (by decide) gw_793 (fun q9 => ?_)
      refine x_astore_n_w (L' := [(3, xm_w0 q9), (0, xm_r x0), (1, xm_i x1), (2, xm_r x2)]) C dL_lock_15 rfl (by decide) rfl ?_
      refine x_iconst (v := (nI 2)) C dL_lock_16 (by decide) ?_
      exact x_iret C (Nat.le_of_ble_eq_true rfl) (Nat.le_of_ble_eq_true rfl) rfl dL_lock_17 (hg _ _ h1)
  · skip
    refine x_i2l C dL_lock_7 ?_
    obtain ⟨n6, hr7, h1⟩ := h1
    obtain ⟨z9, ht8, h1⟩ := h1
    obtain ⟨hi10, h1⟩ := h1
    refine x_last (n := n6) C hr7 ht8 hi10 dL_lock_8 ?_
    refine x_topS (fun S11 e12 => ?_)
    have h1 := h1 S11 e12
    refine x_goto (tgt := 18) C dL_lock_9 (by decide) ?_
    refine x_iconst (v := (0 : Int32)) C dL_lock_18 (by decide) ?_
    exact x_iret C (Nat.le_of_ble_eq_true rfl) (Nat.le_of_ble_eq_true rfl) rfl dL_lock_19 (hg _ _ h1)
theorem kp_L_lock_met {x0 : Option Nat} {x1 : Int32} {x2 : Option Nat} {S : xm_S} {g : Int32 → xm_S → Prop} (h1 : wp_L_lock x0 x1 x2 S g) : xm_MetH yL_lock cL_lock 4 (some (FieldType.int)) [(0, 9, 12, 21), (0, 9, 15, 15)] rm_L_lock [xm_r x0, xm_i x1, xm_r x2] S (xm_qi g) xm_nox :=
  xm_ofWH RL (by decide +kernel) rfl (Nat.le_of_ble_eq_true rfl) (fun K C N hq hx => kp_L_lock x0 x1 x2 S C N (fun v S h => by rw [hq]; exact ⟨v, rfl, h⟩)  h1)
def rm_L_locked : Room := { frames := 8, cells := 2, slots := 12, locals := 142 }
theorem dL_locked_0 : decode cL_locked 0 = .ok (.aload_n 3, 1) := by decide +kernel
theorem dL_locked_1 : decode cL_locked 1 = .ok (.iconst 0, 1) := by decide +kernel
theorem dL_locked_2 : decode cL_locked 2 = .ok (.aload_n 0, 1) := by decide +kernel
theorem dL_locked_3 : decode cL_locked 3 = .ok (.iload_n 1, 1) := by decide +kernel
theorem dL_locked_4 : decode cL_locked 4 = .ok (.iload_n 2, 1) := by decide +kernel
theorem dL_locked_5 : decode cL_locked 5 = .ok (.invokevirtual 71, 3) := by decide +kernel
theorem dL_locked_8 : decode cL_locked 8 = .ok (.i2l, 1) := by decide +kernel
theorem dL_locked_9 : decode cL_locked 9 = .ok (.lastore, 1) := by decide +kernel
theorem dL_locked_10 : decode cL_locked 10 = .ok (.goto 7, 3) := by decide +kernel
theorem dL_locked_13 : decode cL_locked 13 = .ok (.astore 4, 2) := by decide +kernel
theorem dL_locked_15 : decode cL_locked 15 = .ok (.iconst 1, 1) := by decide +kernel
theorem dL_locked_16 : decode cL_locked 16 = .ok (.ireturn, 1) := by decide +kernel
theorem dL_locked_17 : decode cL_locked 17 = .ok (.iconst 0, 1) := by decide +kernel
theorem dL_locked_18 : decode cL_locked 18 = .ok (.ireturn, 1) := by decide +kernel
def wp_L_locked (x0 : Option Nat) (x1 : Int32) (x2 : Int32) (x3 : Option Nat) (S : xm_S) (g : Int32 → xm_S → Prop) : Prop :=
  ∃ n1, x0 = some n1 ∧ st_t S n1 = some (11, 0) ∧ wp_X11_locked n1 x1 x2 S (fun r5 S4 => ∃ n6, x3 = some n6 ∧ ∃ z9, st_t S4 n6 = some (103, z9) ∧ vp_in (0 : Int32) z9 ∧ ∀ S11, S11 = st_pl S4 n6 ((0 : Int32)).toNatClampNeg ((r5).toInt64) → g (0 : Int32) S11) (fun X9 S9 => (X9 = xm_eI ∧ g (1 : Int32) S9))
set_option maxRecDepth 100000 in
set_option maxHeartbeats 4000000 in
theorem kp_L_locked {K : xm_K} (x0 : Option Nat) (x1 : Int32) (x2 : Int32) (x3 : Option Nat) (S : xm_S) {g : Int32 → xm_S → Prop} (C : xm_Cx K cL_locked RL 5 (some (FieldType.int)) rm_L_locked) (N : xm_Hx K [(0, 10, 13, 21)]) (hg : ∀ v S, g v S → xm_q K (some (xm_i v)) S)  (h1 : wp_L_locked x0 x1 x2 x3 S g) : xm_W K 0 0 0 [(0, xm_r x0), (1, xm_i x1), (2, xm_i x2), (3, xm_r x3)] [] S := by
  unfold wp_L_locked at h1
  refine x_aload_n C 3 dL_locked_0 rfl rfl ?_
  refine x_iconst (v := (0 : Int32)) C dL_locked_1 (by decide) ?_
  refine x_aload_n C 0 dL_locked_2 rfl rfl ?_
  refine x_iload_n C 1 dL_locked_3 rfl rfl ?_
  refine x_iload_n C 2 dL_locked_4 rfl rfl ?_
  obtain ⟨n1, hr2, h1⟩ := h1
  obtain ⟨ht3, h1⟩ := h1
  refine x_callV (rm' := rm_X11_locked) (n := n1) C (kp_X11_locked_met h1) lk_150 gw_852 gw_853 xv_11 rfl hr2 ht3 rfl (Nat.le_of_ble_eq_true rfl) ⟨Nat.le_of_ble_eq_true rfl, Nat.le_of_ble_eq_true rfl, (Nat.le_of_ble_eq_true rfl), (Nat.le_of_ble_eq_true rfl)⟩ dL_locked_5 (fun X9 S9 hx9 => ?_) (xm_ki (fun r5 S4 h1 => ?_))
  · obtain ⟨rfl, h1⟩ := hx9
    refine x_catch (hh := [(0, 10, 13, 21)]) (pre := []) (suf := []) (a := 0) (b := 10) (hp := 13) (ct := 21) C N th_I_in rfl (fun _ h => absurd h List.not_mem_nil) (by decide) (by decide) gw_791 (fun q9 => ?_)
    refine x_astore_w (L' := [(4, xm_w0 q9), (0, xm_r x0), (1, xm_i x1), (2, xm_i x2), (3, xm_r x3)]) C dL_locked_13 (by decide) rfl ?_
    refine x_iconst (v := (1 : Int32)) C dL_locked_15 (by decide) ?_
    exact x_iret C (Nat.le_of_ble_eq_true rfl) (Nat.le_of_ble_eq_true rfl) rfl dL_locked_16 (hg _ _ h1)
  · skip
    refine x_i2l C dL_locked_8 ?_
    obtain ⟨n6, hr7, h1⟩ := h1
    obtain ⟨z9, ht8, h1⟩ := h1
    obtain ⟨hi10, h1⟩ := h1
    refine x_last (n := n6) C hr7 ht8 hi10 dL_locked_9 ?_
    refine x_topS (fun S11 e12 => ?_)
    have h1 := h1 S11 e12
    refine x_goto (tgt := 17) C dL_locked_10 (by decide) ?_
    refine x_iconst (v := (0 : Int32)) C dL_locked_17 (by decide) ?_
    exact x_iret C (Nat.le_of_ble_eq_true rfl) (Nat.le_of_ble_eq_true rfl) rfl dL_locked_18 (hg _ _ h1)
theorem kp_L_locked_met {x0 : Option Nat} {x1 : Int32} {x2 : Int32} {x3 : Option Nat} {S : xm_S} {g : Int32 → xm_S → Prop} (h1 : wp_L_locked x0 x1 x2 x3 S g) : xm_MetH yL_locked cL_locked 5 (some (FieldType.int)) [(0, 10, 13, 21)] rm_L_locked [xm_r x0, xm_i x1, xm_i x2, xm_r x3] S (xm_qi g) xm_nox :=
  xm_ofWH RL (by decide +kernel) rfl (Nat.le_of_ble_eq_true rfl) (fun K C N hq hx => kp_L_locked x0 x1 x2 x3 S C N (fun v S h => by rw [hq]; exact ⟨v, rfl, h⟩)  h1)
def rm_L_mirror : Room := { frames := 9, cells := 4, slots := 24, locals := 168 }
theorem dL_mirror_0 : decode cL_mirror 0 = .ok (.aload 5, 2) := by decide +kernel
theorem dL_mirror_2 : decode cL_mirror 2 = .ok (.iconst 0, 1) := by decide +kernel
theorem dL_mirror_3 : decode cL_mirror 3 = .ok (.aload_n 0, 1) := by decide +kernel
theorem dL_mirror_4 : decode cL_mirror 4 = .ok (.iload_n 1, 1) := by decide +kernel
theorem dL_mirror_5 : decode cL_mirror 5 = .ok (.iload_n 2, 1) := by decide +kernel
theorem dL_mirror_6 : decode cL_mirror 6 = .ok (.iload_n 3, 1) := by decide +kernel
theorem dL_mirror_7 : decode cL_mirror 7 = .ok (.iload 4, 2) := by decide +kernel
theorem dL_mirror_9 : decode cL_mirror 9 = .ok (.invokevirtual 94, 3) := by decide +kernel
theorem dL_mirror_12 : decode cL_mirror 12 = .ok (.i2l, 1) := by decide +kernel
theorem dL_mirror_13 : decode cL_mirror 13 = .ok (.lastore, 1) := by decide +kernel
theorem dL_mirror_14 : decode cL_mirror 14 = .ok (.goto 11, 3) := by decide +kernel
theorem dL_mirror_17 : decode cL_mirror 17 = .ok (.astore 6, 2) := by decide +kernel
theorem dL_mirror_19 : decode cL_mirror 19 = .ok (.iconst 1, 1) := by decide +kernel
theorem dL_mirror_20 : decode cL_mirror 20 = .ok (.ireturn, 1) := by decide +kernel
theorem dL_mirror_21 : decode cL_mirror 21 = .ok (.astore 6, 2) := by decide +kernel
theorem dL_mirror_23 : decode cL_mirror 23 = .ok (.iconst 2, 1) := by decide +kernel
theorem dL_mirror_24 : decode cL_mirror 24 = .ok (.ireturn, 1) := by decide +kernel
theorem dL_mirror_25 : decode cL_mirror 25 = .ok (.iconst 0, 1) := by decide +kernel
theorem dL_mirror_26 : decode cL_mirror 26 = .ok (.ireturn, 1) := by decide +kernel
def wp_L_mirror (x0 : Option Nat) (x1 : Int32) (x2 : Int32) (x3 : Int32) (x4 : Int32) (x5 : Option Nat) (S : xm_S) (g : Int32 → xm_S → Prop) : Prop :=
  ∃ n1, x0 = some n1 ∧ st_t S n1 = some (11, 0) ∧ wp_X11_mirror n1 x1 x2 x3 x4 S (fun r5 S4 => ∃ n6, x5 = some n6 ∧ ∃ z9, st_t S4 n6 = some (103, z9) ∧ vp_in (0 : Int32) z9 ∧ ∀ S11, S11 = st_pl S4 n6 ((0 : Int32)).toNatClampNeg ((r5).toInt64) → g (0 : Int32) S11) (fun X9 S9 => (X9 = xm_eI ∧ g (1 : Int32) S9) ∨ (X9 = xm_eA ∧ g (nI 2) S9))
set_option maxRecDepth 100000 in
set_option maxHeartbeats 4000000 in
theorem kp_L_mirror {K : xm_K} (x0 : Option Nat) (x1 : Int32) (x2 : Int32) (x3 : Int32) (x4 : Int32) (x5 : Option Nat) (S : xm_S) {g : Int32 → xm_S → Prop} (C : xm_Cx K cL_mirror RL 7 (some (FieldType.int)) rm_L_mirror) (N : xm_Hx K [(0, 14, 17, 21), (0, 14, 21, 13)]) (hg : ∀ v S, g v S → xm_q K (some (xm_i v)) S)  (h1 : wp_L_mirror x0 x1 x2 x3 x4 x5 S g) : xm_W K 0 0 0 [(0, xm_r x0), (1, xm_i x1), (2, xm_i x2), (3, xm_i x3), (4, xm_i x4), (5, xm_r x5)] [] S := by
  unfold wp_L_mirror at h1
  refine x_aload C 5 dL_mirror_0 rfl ?_
  refine x_iconst (v := (0 : Int32)) C dL_mirror_2 (by decide) ?_
  refine x_aload_n C 0 dL_mirror_3 rfl rfl ?_
  refine x_iload_n C 1 dL_mirror_4 rfl rfl ?_
  refine x_iload_n C 2 dL_mirror_5 rfl rfl ?_
  refine x_iload_n C 3 dL_mirror_6 rfl rfl ?_
  refine x_iload C 4 dL_mirror_7 rfl ?_
  obtain ⟨n1, hr2, h1⟩ := h1
  obtain ⟨ht3, h1⟩ := h1
  refine x_callV (rm' := rm_X11_mirror) (n := n1) C (kp_X11_mirror_met h1) lk_151 gw_856 gw_857 xv_11 rfl hr2 ht3 rfl (Nat.le_of_ble_eq_true rfl) ⟨Nat.le_of_ble_eq_true rfl, Nat.le_of_ble_eq_true rfl, (Nat.le_of_ble_eq_true rfl), (Nat.le_of_ble_eq_true rfl)⟩ dL_mirror_9 (fun X9 S9 hx9 => ?_) (xm_ki (fun r5 S4 h1 => ?_))
  · rcases hx9 with ⟨rfl, h1⟩ | ⟨rfl, h1⟩
    · refine x_catch (hh := [(0, 14, 17, 21), (0, 14, 21, 13)]) (pre := []) (suf := [(0, 14, 21, 13)]) (a := 0) (b := 14) (hp := 17) (ct := 21) C N th_I_in rfl (fun _ h => absurd h List.not_mem_nil) (by decide) (by decide) gw_791 (fun q9 => ?_)
      refine x_astore_w (L' := [(6, xm_w0 q9), (0, xm_r x0), (1, xm_i x1), (2, xm_i x2), (3, xm_i x3), (4, xm_i x4), (5, xm_r x5)]) C dL_mirror_17 (by decide) rfl ?_
      refine x_iconst (v := (1 : Int32)) C dL_mirror_19 (by decide) ?_
      exact x_iret C (Nat.le_of_ble_eq_true rfl) (Nat.le_of_ble_eq_true rfl) rfl dL_mirror_20 (hg _ _ h1)
    · refine x_catch (hh := [(0, 14, 17, 21), (0, 14, 21, 13)]) (pre := [(0, 14, 17, 21)]) (suf := []) (a := 0) (b := 14) (hp := 21) (ct := 13) C N th_A_in rfl (List.forall_mem_cons.mpr ⟨⟨by decide, xm_eI, th_I_in, by decide +kernel, gw_791⟩, fun _ h => absurd h List.not_mem_nil⟩) (by decide) (by decide) gw_792 (fun q9 => ?_)
      refine x_astore_w (L' := [(6, xm_w0 q9), (0, xm_r x0), (1, xm_i x1), (2, xm_i x2), (3, xm_i x3), (4, xm_i x4), (5, xm_r x5)]) C dL_mirror_21 (by decide) rfl ?_
      refine x_iconst (v := (nI 2)) C dL_mirror_23 (by decide) ?_
      exact x_iret C (Nat.le_of_ble_eq_true rfl) (Nat.le_of_ble_eq_true rfl) rfl dL_mirror_24 (hg _ _ h1)
  · skip
    refine x_i2l C dL_mirror_12 ?_
    obtain ⟨n6, hr7, h1⟩ := h1
    obtain ⟨z9, ht8, h1⟩ := h1
    obtain ⟨hi10, h1⟩ := h1
    refine x_last (n := n6) C hr7 ht8 hi10 dL_mirror_13 ?_
    refine x_topS (fun S11 e12 => ?_)
    have h1 := h1 S11 e12
    refine x_goto (tgt := 25) C dL_mirror_14 (by decide) ?_
    refine x_iconst (v := (0 : Int32)) C dL_mirror_25 (by decide) ?_
    exact x_iret C (Nat.le_of_ble_eq_true rfl) (Nat.le_of_ble_eq_true rfl) rfl dL_mirror_26 (hg _ _ h1)
theorem kp_L_mirror_met {x0 : Option Nat} {x1 : Int32} {x2 : Int32} {x3 : Int32} {x4 : Int32} {x5 : Option Nat} {S : xm_S} {g : Int32 → xm_S → Prop} (h1 : wp_L_mirror x0 x1 x2 x3 x4 x5 S g) : xm_MetH yL_mirror cL_mirror 7 (some (FieldType.int)) [(0, 14, 17, 21), (0, 14, 21, 13)] rm_L_mirror [xm_r x0, xm_i x1, xm_i x2, xm_i x3, xm_i x4, xm_r x5] S (xm_qi g) xm_nox :=
  xm_ofWH RL (by decide +kernel) rfl (Nat.le_of_ble_eq_true rfl) (fun K C N hq hx => kp_L_mirror x0 x1 x2 x3 x4 x5 S C N (fun v S h => by rw [hq]; exact ⟨v, rfl, h⟩)  h1)
def rm_L_need : Room := { frames := 9, cells := 140, slots := 510, locals := 178 }
theorem dL_need_0 : decode cL_need 0 = .ok (.aload 7, 2) := by decide +kernel
theorem dL_need_2 : decode cL_need 2 = .ok (.iconst 0, 1) := by decide +kernel
theorem dL_need_3 : decode cL_need 3 = .ok (.aload_n 0, 1) := by decide +kernel
theorem dL_need_4 : decode cL_need 4 = .ok (.iload_n 1, 1) := by decide +kernel
theorem dL_need_5 : decode cL_need 5 = .ok (.iload_n 2, 1) := by decide +kernel
theorem dL_need_6 : decode cL_need 6 = .ok (.iload_n 3, 1) := by decide +kernel
theorem dL_need_7 : decode cL_need 7 = .ok (.iload 4, 2) := by decide +kernel
theorem dL_need_9 : decode cL_need 9 = .ok (.iload 5, 2) := by decide +kernel
theorem dL_need_11 : decode cL_need 11 = .ok (.iload 6, 2) := by decide +kernel
theorem dL_need_13 : decode cL_need 13 = .ok (.invokevirtual 27, 3) := by decide +kernel
theorem dL_need_16 : decode cL_need 16 = .ok (.i2l, 1) := by decide +kernel
theorem dL_need_17 : decode cL_need 17 = .ok (.lastore, 1) := by decide +kernel
theorem dL_need_18 : decode cL_need 18 = .ok (.goto 15, 3) := by decide +kernel
theorem dL_need_21 : decode cL_need 21 = .ok (.astore 8, 2) := by decide +kernel
theorem dL_need_23 : decode cL_need 23 = .ok (.iconst 1, 1) := by decide +kernel
theorem dL_need_24 : decode cL_need 24 = .ok (.ireturn, 1) := by decide +kernel
theorem dL_need_25 : decode cL_need 25 = .ok (.astore 8, 2) := by decide +kernel
theorem dL_need_27 : decode cL_need 27 = .ok (.iconst 2, 1) := by decide +kernel
theorem dL_need_28 : decode cL_need 28 = .ok (.ireturn, 1) := by decide +kernel
theorem dL_need_29 : decode cL_need 29 = .ok (.astore 8, 2) := by decide +kernel
theorem dL_need_31 : decode cL_need 31 = .ok (.iconst 3, 1) := by decide +kernel
theorem dL_need_32 : decode cL_need 32 = .ok (.ireturn, 1) := by decide +kernel
theorem dL_need_33 : decode cL_need 33 = .ok (.iconst 0, 1) := by decide +kernel
theorem dL_need_34 : decode cL_need 34 = .ok (.ireturn, 1) := by decide +kernel
def wp_L_need (x0 : Option Nat) (x1 : Int32) (x2 : Int32) (x3 : Int32) (x4 : Int32) (x5 : Int32) (x6 : Int32) (x7 : Option Nat) (S : xm_S) (g : Int32 → xm_S → Prop) : Prop :=
  ∃ n1, x0 = some n1 ∧ st_t S n1 = some (11, 0) ∧ wp_X11_need n1 x1 x2 x3 x4 x5 x6 S (fun r5 S4 => ∃ n6, x7 = some n6 ∧ ∃ z9, st_t S4 n6 = some (103, z9) ∧ vp_in (0 : Int32) z9 ∧ ∀ S11, S11 = st_pl S4 n6 ((0 : Int32)).toNatClampNeg ((r5).toInt64) → g (0 : Int32) S11) (fun X9 S9 => (X9 = xm_eI ∧ g (1 : Int32) S9) ∨ (X9 = xm_eA ∧ g (nI 2) S9) ∨ (X9 = xm_eS ∧ g (nI 3) S9))
set_option maxRecDepth 100000 in
set_option maxHeartbeats 4000000 in
theorem kp_L_need {K : xm_K} (x0 : Option Nat) (x1 : Int32) (x2 : Int32) (x3 : Int32) (x4 : Int32) (x5 : Int32) (x6 : Int32) (x7 : Option Nat) (S : xm_S) {g : Int32 → xm_S → Prop} (C : xm_Cx K cL_need RL 9 (some (FieldType.int)) rm_L_need) (N : xm_Hx K [(0, 18, 21, 21), (0, 18, 25, 13), (0, 18, 29, 15)]) (hg : ∀ v S, g v S → xm_q K (some (xm_i v)) S)  (h1 : wp_L_need x0 x1 x2 x3 x4 x5 x6 x7 S g) : xm_W K 0 0 0 [(0, xm_r x0), (1, xm_i x1), (2, xm_i x2), (3, xm_i x3), (4, xm_i x4), (5, xm_i x5), (6, xm_i x6), (7, xm_r x7)] [] S := by
  unfold wp_L_need at h1
  refine x_aload C 7 dL_need_0 rfl ?_
  refine x_iconst (v := (0 : Int32)) C dL_need_2 (by decide) ?_
  refine x_aload_n C 0 dL_need_3 rfl rfl ?_
  refine x_iload_n C 1 dL_need_4 rfl rfl ?_
  refine x_iload_n C 2 dL_need_5 rfl rfl ?_
  refine x_iload_n C 3 dL_need_6 rfl rfl ?_
  refine x_iload C 4 dL_need_7 rfl ?_
  refine x_iload C 5 dL_need_9 rfl ?_
  refine x_iload C 6 dL_need_11 rfl ?_
  obtain ⟨n1, hr2, h1⟩ := h1
  obtain ⟨ht3, h1⟩ := h1
  refine x_callV (rm' := rm_X11_need) (n := n1) C (kp_X11_need_met h1) lk_152 gw_860 gw_861 xv_11 rfl hr2 ht3 rfl (Nat.le_of_ble_eq_true rfl) ⟨Nat.le_of_ble_eq_true rfl, Nat.le_of_ble_eq_true rfl, (Nat.le_of_ble_eq_true rfl), (Nat.le_of_ble_eq_true rfl)⟩ dL_need_13 (fun X9 S9 hx9 => ?_) (xm_ki (fun r5 S4 h1 => ?_))
  · rcases hx9 with ⟨rfl, h1⟩ | ⟨rfl, h1⟩ | ⟨rfl, h1⟩
    · refine x_catch (hh := [(0, 18, 21, 21), (0, 18, 25, 13), (0, 18, 29, 15)]) (pre := []) (suf := [(0, 18, 25, 13), (0, 18, 29, 15)]) (a := 0) (b := 18) (hp := 21) (ct := 21) C N th_I_in rfl (fun _ h => absurd h List.not_mem_nil) (by decide) (by decide) gw_791 (fun q9 => ?_)
      refine x_astore_w (L' := [(8, xm_w0 q9), (0, xm_r x0), (1, xm_i x1), (2, xm_i x2), (3, xm_i x3), (4, xm_i x4), (5, xm_i x5), (6, xm_i x6), (7, xm_r x7)]) C dL_need_21 (by decide) rfl ?_
      refine x_iconst (v := (1 : Int32)) C dL_need_23 (by decide) ?_
      exact x_iret C (Nat.le_of_ble_eq_true rfl) (Nat.le_of_ble_eq_true rfl) rfl dL_need_24 (hg _ _ h1)
    · refine x_catch (hh := [(0, 18, 21, 21), (0, 18, 25, 13), (0, 18, 29, 15)]) (pre := [(0, 18, 21, 21)]) (suf := [(0, 18, 29, 15)]) (a := 0) (b := 18) (hp := 25) (ct := 13) C N th_A_in rfl (List.forall_mem_cons.mpr ⟨⟨by decide, xm_eI, th_I_in, by decide +kernel, gw_791⟩, fun _ h => absurd h List.not_mem_nil⟩) (by decide) (by decide) gw_792 (fun q9 => ?_)
      refine x_astore_w (L' := [(8, xm_w0 q9), (0, xm_r x0), (1, xm_i x1), (2, xm_i x2), (3, xm_i x3), (4, xm_i x4), (5, xm_i x5), (6, xm_i x6), (7, xm_r x7)]) C dL_need_25 (by decide) rfl ?_
      refine x_iconst (v := (nI 2)) C dL_need_27 (by decide) ?_
      exact x_iret C (Nat.le_of_ble_eq_true rfl) (Nat.le_of_ble_eq_true rfl) rfl dL_need_28 (hg _ _ h1)
    · refine x_catch (hh := [(0, 18, 21, 21), (0, 18, 25, 13), (0, 18, 29, 15)]) (pre := [(0, 18, 21, 21), (0, 18, 25, 13)]) (suf := []) (a := 0) (b := 18) (hp := 29) (ct := 15) C N th_S_in rfl (List.forall_mem_cons.mpr ⟨⟨by decide, xm_eI, th_I_in, by decide +kernel, gw_791⟩, List.forall_mem_cons.mpr ⟨⟨by decide, xm_eA, th_A_in, by decide +kernel, gw_792⟩, fun _ h => absurd h List.not_mem_nil⟩⟩) (by decide) (by decide) gw_793 (fun q9 => ?_)
      refine x_astore_w (L' := [(8, xm_w0 q9), (0, xm_r x0), (1, xm_i x1), (2, xm_i x2), (3, xm_i x3), (4, xm_i x4), (5, xm_i x5), (6, xm_i x6), (7, xm_r x7)]) C dL_need_29 (by decide) rfl ?_
      refine x_iconst (v := (nI 3)) C dL_need_31 (by decide) ?_
      exact x_iret C (Nat.le_of_ble_eq_true rfl) (Nat.le_of_ble_eq_true rfl) rfl dL_need_32 (hg _ _ h1)
  · skip
    refine x_i2l C dL_need_16 ?_
    obtain ⟨n6, hr7, h1⟩ := h1
    obtain ⟨z9, ht8, h1⟩ := h1
    obtain ⟨hi10, h1⟩ := h1
    refine x_last (n := n6) C hr7 ht8 hi10 dL_need_17 ?_
    refine x_topS (fun S11 e12 => ?_)
    have h1 := h1 S11 e12
    refine x_goto (tgt := 33) C dL_need_18 (by decide) ?_
    refine x_iconst (v := (0 : Int32)) C dL_need_33 (by decide) ?_
    exact x_iret C (Nat.le_of_ble_eq_true rfl) (Nat.le_of_ble_eq_true rfl) rfl dL_need_34 (hg _ _ h1)
theorem kp_L_need_met {x0 : Option Nat} {x1 : Int32} {x2 : Int32} {x3 : Int32} {x4 : Int32} {x5 : Int32} {x6 : Int32} {x7 : Option Nat} {S : xm_S} {g : Int32 → xm_S → Prop} (h1 : wp_L_need x0 x1 x2 x3 x4 x5 x6 x7 S g) : xm_MetH yL_need cL_need 9 (some (FieldType.int)) [(0, 18, 21, 21), (0, 18, 25, 13), (0, 18, 29, 15)] rm_L_need [xm_r x0, xm_i x1, xm_i x2, xm_i x3, xm_i x4, xm_i x5, xm_i x6, xm_r x7] S (xm_qi g) xm_nox :=
  xm_ofWH RL (by decide +kernel) rfl (Nat.le_of_ble_eq_true rfl) (fun K C N hq hx => kp_L_need x0 x1 x2 x3 x4 x5 x6 x7 S C N (fun v S h => by rw [hq]; exact ⟨v, rfl, h⟩)  h1)
def rm_L_pass : Room := { frames := 8, cells := 2, slots := 12, locals := 143 }
theorem dL_pass_0 : decode cL_pass 0 = .ok (.aload_n 2, 1) := by decide +kernel
theorem dL_pass_1 : decode cL_pass 1 = .ok (.iconst 0, 1) := by decide +kernel
theorem dL_pass_2 : decode cL_pass 2 = .ok (.aload_n 0, 1) := by decide +kernel
theorem dL_pass_3 : decode cL_pass 3 = .ok (.iload_n 1, 1) := by decide +kernel
theorem dL_pass_4 : decode cL_pass 4 = .ok (.invokevirtual 84, 3) := by decide +kernel
theorem dL_pass_7 : decode cL_pass 7 = .ok (.i2l, 1) := by decide +kernel
theorem dL_pass_8 : decode cL_pass 8 = .ok (.lastore, 1) := by decide +kernel
theorem dL_pass_9 : decode cL_pass 9 = .ok (.goto 9, 3) := by decide +kernel
theorem dL_pass_12 : decode cL_pass 12 = .ok (.astore_n 3, 1) := by decide +kernel
theorem dL_pass_13 : decode cL_pass 13 = .ok (.iconst 1, 1) := by decide +kernel
theorem dL_pass_14 : decode cL_pass 14 = .ok (.ireturn, 1) := by decide +kernel
theorem dL_pass_15 : decode cL_pass 15 = .ok (.astore_n 3, 1) := by decide +kernel
theorem dL_pass_16 : decode cL_pass 16 = .ok (.iconst 2, 1) := by decide +kernel
theorem dL_pass_17 : decode cL_pass 17 = .ok (.ireturn, 1) := by decide +kernel
theorem dL_pass_18 : decode cL_pass 18 = .ok (.iconst 0, 1) := by decide +kernel
theorem dL_pass_19 : decode cL_pass 19 = .ok (.ireturn, 1) := by decide +kernel
def wp_L_pass (x0 : Option Nat) (x1 : Int32) (x2 : Option Nat) (S : xm_S) (g : Int32 → xm_S → Prop) : Prop :=
  ∃ n1, x0 = some n1 ∧ st_t S n1 = some (11, 0) ∧ wp_X11_pass n1 x1 S (fun r5 S4 => ∃ n6, x2 = some n6 ∧ ∃ z9, st_t S4 n6 = some (103, z9) ∧ vp_in (0 : Int32) z9 ∧ ∀ S11, S11 = st_pl S4 n6 ((0 : Int32)).toNatClampNeg ((r5).toInt64) → g (0 : Int32) S11) (fun X9 S9 => (X9 = xm_eA ∧ g (1 : Int32) S9) ∨ (X9 = xm_eS ∧ g (nI 2) S9))
set_option maxRecDepth 100000 in
set_option maxHeartbeats 4000000 in
theorem kp_L_pass {K : xm_K} (x0 : Option Nat) (x1 : Int32) (x2 : Option Nat) (S : xm_S) {g : Int32 → xm_S → Prop} (C : xm_Cx K cL_pass RL 4 (some (FieldType.int)) rm_L_pass) (N : xm_Hx K [(0, 9, 12, 13), (0, 9, 15, 15)]) (hg : ∀ v S, g v S → xm_q K (some (xm_i v)) S)  (h1 : wp_L_pass x0 x1 x2 S g) : xm_W K 0 0 0 [(0, xm_r x0), (1, xm_i x1), (2, xm_r x2)] [] S := by
  unfold wp_L_pass at h1
  refine x_aload_n C 2 dL_pass_0 rfl rfl ?_
  refine x_iconst (v := (0 : Int32)) C dL_pass_1 (by decide) ?_
  refine x_aload_n C 0 dL_pass_2 rfl rfl ?_
  refine x_iload_n C 1 dL_pass_3 rfl rfl ?_
  obtain ⟨n1, hr2, h1⟩ := h1
  obtain ⟨ht3, h1⟩ := h1
  refine x_callV (rm' := rm_X11_pass) (n := n1) C (kp_X11_pass_met h1) lk_153 gw_864 gw_865 xv_11 rfl hr2 ht3 rfl (Nat.le_of_ble_eq_true rfl) ⟨Nat.le_of_ble_eq_true rfl, Nat.le_of_ble_eq_true rfl, (Nat.le_of_ble_eq_true rfl), (Nat.le_of_ble_eq_true rfl)⟩ dL_pass_4 (fun X9 S9 hx9 => ?_) (xm_ki (fun r5 S4 h1 => ?_))
  · rcases hx9 with ⟨rfl, h1⟩ | ⟨rfl, h1⟩
    · refine x_catch (hh := [(0, 9, 12, 13), (0, 9, 15, 15)]) (pre := []) (suf := [(0, 9, 15, 15)]) (a := 0) (b := 9) (hp := 12) (ct := 13) C N th_A_in rfl (fun _ h => absurd h List.not_mem_nil) (by decide) (by decide) gw_792 (fun q9 => ?_)
      refine x_astore_n_w (L' := [(3, xm_w0 q9), (0, xm_r x0), (1, xm_i x1), (2, xm_r x2)]) C dL_pass_12 rfl (by decide) rfl ?_
      refine x_iconst (v := (1 : Int32)) C dL_pass_13 (by decide) ?_
      exact x_iret C (Nat.le_of_ble_eq_true rfl) (Nat.le_of_ble_eq_true rfl) rfl dL_pass_14 (hg _ _ h1)
    · refine x_catch (hh := [(0, 9, 12, 13), (0, 9, 15, 15)]) (pre := [(0, 9, 12, 13)]) (suf := []) (a := 0) (b := 9) (hp := 15) (ct := 15) C N th_S_in rfl (List.forall_mem_cons.mpr ⟨⟨by decide, xm_eA, th_A_in, by decide +kernel, gw_792⟩, fun _ h => absurd h List.not_mem_nil⟩) (by decide) (by decide) gw_793 (fun q9 => ?_)
      refine x_astore_n_w (L' := [(3, xm_w0 q9), (0, xm_r x0), (1, xm_i x1), (2, xm_r x2)]) C dL_pass_15 rfl (by decide) rfl ?_
      refine x_iconst (v := (nI 2)) C dL_pass_16 (by decide) ?_
      exact x_iret C (Nat.le_of_ble_eq_true rfl) (Nat.le_of_ble_eq_true rfl) rfl dL_pass_17 (hg _ _ h1)
  · skip
    refine x_i2l C dL_pass_7 ?_
    obtain ⟨n6, hr7, h1⟩ := h1
    obtain ⟨z9, ht8, h1⟩ := h1
    obtain ⟨hi10, h1⟩ := h1
    refine x_last (n := n6) C hr7 ht8 hi10 dL_pass_8 ?_
    refine x_topS (fun S11 e12 => ?_)
    have h1 := h1 S11 e12
    refine x_goto (tgt := 18) C dL_pass_9 (by decide) ?_
    refine x_iconst (v := (0 : Int32)) C dL_pass_18 (by decide) ?_
    exact x_iret C (Nat.le_of_ble_eq_true rfl) (Nat.le_of_ble_eq_true rfl) rfl dL_pass_19 (hg _ _ h1)
theorem kp_L_pass_met {x0 : Option Nat} {x1 : Int32} {x2 : Option Nat} {S : xm_S} {g : Int32 → xm_S → Prop} (h1 : wp_L_pass x0 x1 x2 S g) : xm_MetH yL_pass cL_pass 4 (some (FieldType.int)) [(0, 9, 12, 13), (0, 9, 15, 15)] rm_L_pass [xm_r x0, xm_i x1, xm_r x2] S (xm_qi g) xm_nox :=
  xm_ofWH RL (by decide +kernel) rfl (Nat.le_of_ble_eq_true rfl) (fun K C N hq hx => kp_L_pass x0 x1 x2 S C N (fun v S h => by rw [hq]; exact ⟨v, rfl, h⟩)  h1)
def rm_L_path : Room := { frames := 8, cells := 2, slots := 12, locals := 145 }
theorem dL_path_0 : decode cL_path 0 = .ok (.aload_n 3, 1) := by decide +kernel
theorem dL_path_1 : decode cL_path 1 = .ok (.iconst 0, 1) := by decide +kernel
theorem dL_path_2 : decode cL_path 2 = .ok (.aload_n 0, 1) := by decide +kernel
theorem dL_path_3 : decode cL_path 3 = .ok (.iload_n 1, 1) := by decide +kernel
theorem dL_path_4 : decode cL_path 4 = .ok (.iload_n 2, 1) := by decide +kernel
theorem dL_path_5 : decode cL_path 5 = .ok (.invokevirtual 120, 3) := by decide +kernel
theorem dL_path_8 : decode cL_path 8 = .ok (.i2l, 1) := by decide +kernel
theorem dL_path_9 : decode cL_path 9 = .ok (.lastore, 1) := by decide +kernel
theorem dL_path_10 : decode cL_path 10 = .ok (.goto 7, 3) := by decide +kernel
theorem dL_path_13 : decode cL_path 13 = .ok (.astore 4, 2) := by decide +kernel
theorem dL_path_15 : decode cL_path 15 = .ok (.iconst 1, 1) := by decide +kernel
theorem dL_path_16 : decode cL_path 16 = .ok (.ireturn, 1) := by decide +kernel
theorem dL_path_17 : decode cL_path 17 = .ok (.iconst 0, 1) := by decide +kernel
theorem dL_path_18 : decode cL_path 18 = .ok (.ireturn, 1) := by decide +kernel
def wp_L_path (x0 : Option Nat) (x1 : Int32) (x2 : Int32) (x3 : Option Nat) (S : xm_S) (g : Int32 → xm_S → Prop) : Prop :=
  ∃ n1, x0 = some n1 ∧ st_t S n1 = some (11, 0) ∧ wp_X11_path n1 x1 x2 S (fun r5 S4 => ∃ n6, x3 = some n6 ∧ ∃ z9, st_t S4 n6 = some (103, z9) ∧ vp_in (0 : Int32) z9 ∧ ∀ S11, S11 = st_pl S4 n6 ((0 : Int32)).toNatClampNeg ((r5).toInt64) → g (0 : Int32) S11) (fun X9 S9 => (X9 = xm_eA ∧ g (1 : Int32) S9))
set_option maxRecDepth 100000 in
set_option maxHeartbeats 4000000 in
theorem kp_L_path {K : xm_K} (x0 : Option Nat) (x1 : Int32) (x2 : Int32) (x3 : Option Nat) (S : xm_S) {g : Int32 → xm_S → Prop} (C : xm_Cx K cL_path RL 5 (some (FieldType.int)) rm_L_path) (N : xm_Hx K [(0, 10, 13, 13)]) (hg : ∀ v S, g v S → xm_q K (some (xm_i v)) S)  (h1 : wp_L_path x0 x1 x2 x3 S g) : xm_W K 0 0 0 [(0, xm_r x0), (1, xm_i x1), (2, xm_i x2), (3, xm_r x3)] [] S := by
  unfold wp_L_path at h1
  refine x_aload_n C 3 dL_path_0 rfl rfl ?_
  refine x_iconst (v := (0 : Int32)) C dL_path_1 (by decide) ?_
  refine x_aload_n C 0 dL_path_2 rfl rfl ?_
  refine x_iload_n C 1 dL_path_3 rfl rfl ?_
  refine x_iload_n C 2 dL_path_4 rfl rfl ?_
  obtain ⟨n1, hr2, h1⟩ := h1
  obtain ⟨ht3, h1⟩ := h1
  refine x_callV (rm' := rm_X11_path) (n := n1) C (kp_X11_path_met h1) lk_154 gw_868 gw_869 xv_11 rfl hr2 ht3 rfl (Nat.le_of_ble_eq_true rfl) ⟨Nat.le_of_ble_eq_true rfl, Nat.le_of_ble_eq_true rfl, (Nat.le_of_ble_eq_true rfl), (Nat.le_of_ble_eq_true rfl)⟩ dL_path_5 (fun X9 S9 hx9 => ?_) (xm_ki (fun r5 S4 h1 => ?_))
  · obtain ⟨rfl, h1⟩ := hx9
    refine x_catch (hh := [(0, 10, 13, 13)]) (pre := []) (suf := []) (a := 0) (b := 10) (hp := 13) (ct := 13) C N th_A_in rfl (fun _ h => absurd h List.not_mem_nil) (by decide) (by decide) gw_792 (fun q9 => ?_)
    refine x_astore_w (L' := [(4, xm_w0 q9), (0, xm_r x0), (1, xm_i x1), (2, xm_i x2), (3, xm_r x3)]) C dL_path_13 (by decide) rfl ?_
    refine x_iconst (v := (1 : Int32)) C dL_path_15 (by decide) ?_
    exact x_iret C (Nat.le_of_ble_eq_true rfl) (Nat.le_of_ble_eq_true rfl) rfl dL_path_16 (hg _ _ h1)
  · skip
    refine x_i2l C dL_path_8 ?_
    obtain ⟨n6, hr7, h1⟩ := h1
    obtain ⟨z9, ht8, h1⟩ := h1
    obtain ⟨hi10, h1⟩ := h1
    refine x_last (n := n6) C hr7 ht8 hi10 dL_path_9 ?_
    refine x_topS (fun S11 e12 => ?_)
    have h1 := h1 S11 e12
    refine x_goto (tgt := 17) C dL_path_10 (by decide) ?_
    refine x_iconst (v := (0 : Int32)) C dL_path_17 (by decide) ?_
    exact x_iret C (Nat.le_of_ble_eq_true rfl) (Nat.le_of_ble_eq_true rfl) rfl dL_path_18 (hg _ _ h1)
theorem kp_L_path_met {x0 : Option Nat} {x1 : Int32} {x2 : Int32} {x3 : Option Nat} {S : xm_S} {g : Int32 → xm_S → Prop} (h1 : wp_L_path x0 x1 x2 x3 S g) : xm_MetH yL_path cL_path 5 (some (FieldType.int)) [(0, 10, 13, 13)] rm_L_path [xm_r x0, xm_i x1, xm_i x2, xm_r x3] S (xm_qi g) xm_nox :=
  xm_ofWH RL (by decide +kernel) rfl (Nat.le_of_ble_eq_true rfl) (fun K C N hq hx => kp_L_path x0 x1 x2 x3 S C N (fun v S h => by rw [hq]; exact ⟨v, rfl, h⟩)  h1)
def rm_L_policy : Room := { frames := 8, cells := 1, slots := 6, locals := 144 }
theorem dL_policy_0 : decode cL_policy 0 = .ok (.aload_n 2, 1) := by decide +kernel
theorem dL_policy_1 : decode cL_policy 1 = .ok (.iconst 0, 1) := by decide +kernel
theorem dL_policy_2 : decode cL_policy 2 = .ok (.aload_n 0, 1) := by decide +kernel
theorem dL_policy_3 : decode cL_policy 3 = .ok (.iload_n 1, 1) := by decide +kernel
theorem dL_policy_4 : decode cL_policy 4 = .ok (.invokevirtual 53, 3) := by decide +kernel
theorem dL_policy_7 : decode cL_policy 7 = .ok (.i2l, 1) := by decide +kernel
theorem dL_policy_8 : decode cL_policy 8 = .ok (.lastore, 1) := by decide +kernel
theorem dL_policy_9 : decode cL_policy 9 = .ok (.goto 6, 3) := by decide +kernel
theorem dL_policy_12 : decode cL_policy 12 = .ok (.astore_n 3, 1) := by decide +kernel
theorem dL_policy_13 : decode cL_policy 13 = .ok (.iconst 1, 1) := by decide +kernel
theorem dL_policy_14 : decode cL_policy 14 = .ok (.ireturn, 1) := by decide +kernel
theorem dL_policy_15 : decode cL_policy 15 = .ok (.iconst 0, 1) := by decide +kernel
theorem dL_policy_16 : decode cL_policy 16 = .ok (.ireturn, 1) := by decide +kernel
def wp_L_policy (x0 : Option Nat) (x1 : Int32) (x2 : Option Nat) (S : xm_S) (g : Int32 → xm_S → Prop) : Prop :=
  ∃ n1, x0 = some n1 ∧ st_t S n1 = some (11, 0) ∧ wp_X11_policy n1 x1 S (fun r5 S4 => ∃ n6, x2 = some n6 ∧ ∃ z9, st_t S4 n6 = some (103, z9) ∧ vp_in (0 : Int32) z9 ∧ ∀ S11, S11 = st_pl S4 n6 ((0 : Int32)).toNatClampNeg ((r5).toInt64) → g (0 : Int32) S11) (fun X9 S9 => (X9 = xm_eA ∧ g (1 : Int32) S9))
set_option maxRecDepth 100000 in
set_option maxHeartbeats 4000000 in
theorem kp_L_policy {K : xm_K} (x0 : Option Nat) (x1 : Int32) (x2 : Option Nat) (S : xm_S) {g : Int32 → xm_S → Prop} (C : xm_Cx K cL_policy RL 4 (some (FieldType.int)) rm_L_policy) (N : xm_Hx K [(0, 9, 12, 13)]) (hg : ∀ v S, g v S → xm_q K (some (xm_i v)) S)  (h1 : wp_L_policy x0 x1 x2 S g) : xm_W K 0 0 0 [(0, xm_r x0), (1, xm_i x1), (2, xm_r x2)] [] S := by
  unfold wp_L_policy at h1
  refine x_aload_n C 2 dL_policy_0 rfl rfl ?_
  refine x_iconst (v := (0 : Int32)) C dL_policy_1 (by decide) ?_
  refine x_aload_n C 0 dL_policy_2 rfl rfl ?_
  refine x_iload_n C 1 dL_policy_3 rfl rfl ?_
  obtain ⟨n1, hr2, h1⟩ := h1
  obtain ⟨ht3, h1⟩ := h1
  refine x_callV (rm' := rm_X11_policy) (n := n1) C (kp_X11_policy_met h1) lk_155 gw_872 gw_873 xv_11 rfl hr2 ht3 rfl (Nat.le_of_ble_eq_true rfl) ⟨Nat.le_of_ble_eq_true rfl, Nat.le_of_ble_eq_true rfl, (Nat.le_of_ble_eq_true rfl), (Nat.le_of_ble_eq_true rfl)⟩ dL_policy_4 (fun X9 S9 hx9 => ?_) (xm_ki (fun r5 S4 h1 => ?_))
  · obtain ⟨rfl, h1⟩ := hx9
    refine x_catch (hh := [(0, 9, 12, 13)]) (pre := []) (suf := []) (a := 0) (b := 9) (hp := 12) (ct := 13) C N th_A_in rfl (fun _ h => absurd h List.not_mem_nil) (by decide) (by decide) gw_792 (fun q9 => ?_)
    refine x_astore_n_w (L' := [(3, xm_w0 q9), (0, xm_r x0), (1, xm_i x1), (2, xm_r x2)]) C dL_policy_12 rfl (by decide) rfl ?_
    refine x_iconst (v := (1 : Int32)) C dL_policy_13 (by decide) ?_
    exact x_iret C (Nat.le_of_ble_eq_true rfl) (Nat.le_of_ble_eq_true rfl) rfl dL_policy_14 (hg _ _ h1)
  · skip
    refine x_i2l C dL_policy_7 ?_
    obtain ⟨n6, hr7, h1⟩ := h1
    obtain ⟨z9, ht8, h1⟩ := h1
    obtain ⟨hi10, h1⟩ := h1
    refine x_last (n := n6) C hr7 ht8 hi10 dL_policy_8 ?_
    refine x_topS (fun S11 e12 => ?_)
    have h1 := h1 S11 e12
    refine x_goto (tgt := 15) C dL_policy_9 (by decide) ?_
    refine x_iconst (v := (0 : Int32)) C dL_policy_15 (by decide) ?_
    exact x_iret C (Nat.le_of_ble_eq_true rfl) (Nat.le_of_ble_eq_true rfl) rfl dL_policy_16 (hg _ _ h1)
theorem kp_L_policy_met {x0 : Option Nat} {x1 : Int32} {x2 : Option Nat} {S : xm_S} {g : Int32 → xm_S → Prop} (h1 : wp_L_policy x0 x1 x2 S g) : xm_MetH yL_policy cL_policy 4 (some (FieldType.int)) [(0, 9, 12, 13)] rm_L_policy [xm_r x0, xm_i x1, xm_r x2] S (xm_qi g) xm_nox :=
  xm_ofWH RL (by decide +kernel) rfl (Nat.le_of_ble_eq_true rfl) (fun K C N hq hx => kp_L_policy x0 x1 x2 S C N (fun v S h => by rw [hq]; exact ⟨v, rfl, h⟩)  h1)
def rm_L_proposed : Room := { frames := 8, cells := 2, slots := 12, locals := 142 }
theorem dL_proposed_0 : decode cL_proposed 0 = .ok (.aload_n 3, 1) := by decide +kernel
theorem dL_proposed_1 : decode cL_proposed 1 = .ok (.iconst 0, 1) := by decide +kernel
theorem dL_proposed_2 : decode cL_proposed 2 = .ok (.aload_n 0, 1) := by decide +kernel
theorem dL_proposed_3 : decode cL_proposed 3 = .ok (.iload_n 1, 1) := by decide +kernel
theorem dL_proposed_4 : decode cL_proposed 4 = .ok (.iload_n 2, 1) := by decide +kernel
theorem dL_proposed_5 : decode cL_proposed 5 = .ok (.invokevirtual 59, 3) := by decide +kernel
theorem dL_proposed_8 : decode cL_proposed 8 = .ok (.i2l, 1) := by decide +kernel
theorem dL_proposed_9 : decode cL_proposed 9 = .ok (.lastore, 1) := by decide +kernel
theorem dL_proposed_10 : decode cL_proposed 10 = .ok (.goto 7, 3) := by decide +kernel
theorem dL_proposed_13 : decode cL_proposed 13 = .ok (.astore 4, 2) := by decide +kernel
theorem dL_proposed_15 : decode cL_proposed 15 = .ok (.iconst 1, 1) := by decide +kernel
theorem dL_proposed_16 : decode cL_proposed 16 = .ok (.ireturn, 1) := by decide +kernel
theorem dL_proposed_17 : decode cL_proposed 17 = .ok (.iconst 0, 1) := by decide +kernel
theorem dL_proposed_18 : decode cL_proposed 18 = .ok (.ireturn, 1) := by decide +kernel
def wp_L_proposed (x0 : Option Nat) (x1 : Int32) (x2 : Int32) (x3 : Option Nat) (S : xm_S) (g : Int32 → xm_S → Prop) : Prop :=
  ∃ n1, x0 = some n1 ∧ st_t S n1 = some (11, 0) ∧ wp_X11_proposed n1 x1 x2 S (fun r5 S4 => ∃ n6, x3 = some n6 ∧ ∃ z9, st_t S4 n6 = some (103, z9) ∧ vp_in (0 : Int32) z9 ∧ ∀ S11, S11 = st_pl S4 n6 ((0 : Int32)).toNatClampNeg ((r5).toInt64) → g (0 : Int32) S11) (fun X9 S9 => (X9 = xm_eI ∧ g (1 : Int32) S9))
set_option maxRecDepth 100000 in
set_option maxHeartbeats 4000000 in
theorem kp_L_proposed {K : xm_K} (x0 : Option Nat) (x1 : Int32) (x2 : Int32) (x3 : Option Nat) (S : xm_S) {g : Int32 → xm_S → Prop} (C : xm_Cx K cL_proposed RL 5 (some (FieldType.int)) rm_L_proposed) (N : xm_Hx K [(0, 10, 13, 21)]) (hg : ∀ v S, g v S → xm_q K (some (xm_i v)) S)  (h1 : wp_L_proposed x0 x1 x2 x3 S g) : xm_W K 0 0 0 [(0, xm_r x0), (1, xm_i x1), (2, xm_i x2), (3, xm_r x3)] [] S := by
  unfold wp_L_proposed at h1
  refine x_aload_n C 3 dL_proposed_0 rfl rfl ?_
  refine x_iconst (v := (0 : Int32)) C dL_proposed_1 (by decide) ?_
  refine x_aload_n C 0 dL_proposed_2 rfl rfl ?_
  refine x_iload_n C 1 dL_proposed_3 rfl rfl ?_
  refine x_iload_n C 2 dL_proposed_4 rfl rfl ?_
  obtain ⟨n1, hr2, h1⟩ := h1
  obtain ⟨ht3, h1⟩ := h1
  refine x_callV (rm' := rm_X11_proposed) (n := n1) C (kp_X11_proposed_met h1) lk_156 gw_876 gw_877 xv_11 rfl hr2 ht3 rfl (Nat.le_of_ble_eq_true rfl) ⟨Nat.le_of_ble_eq_true rfl, Nat.le_of_ble_eq_true rfl, (Nat.le_of_ble_eq_true rfl), (Nat.le_of_ble_eq_true rfl)⟩ dL_proposed_5 (fun X9 S9 hx9 => ?_) (xm_ki (fun r5 S4 h1 => ?_))
  · obtain ⟨rfl, h1⟩ := hx9
    refine x_catch (hh := [(0, 10, 13, 21)]) (pre := []) (suf := []) (a := 0) (b := 10) (hp := 13) (ct := 21) C N th_I_in rfl (fun _ h => absurd h List.not_mem_nil) (by decide) (by decide) gw_791 (fun q9 => ?_)
    refine x_astore_w (L' := [(4, xm_w0 q9), (0, xm_r x0), (1, xm_i x1), (2, xm_i x2), (3, xm_r x3)]) C dL_proposed_13 (by decide) rfl ?_
    refine x_iconst (v := (1 : Int32)) C dL_proposed_15 (by decide) ?_
    exact x_iret C (Nat.le_of_ble_eq_true rfl) (Nat.le_of_ble_eq_true rfl) rfl dL_proposed_16 (hg _ _ h1)
  · skip
    refine x_i2l C dL_proposed_8 ?_
    obtain ⟨n6, hr7, h1⟩ := h1
    obtain ⟨z9, ht8, h1⟩ := h1
    obtain ⟨hi10, h1⟩ := h1
    refine x_last (n := n6) C hr7 ht8 hi10 dL_proposed_9 ?_
    refine x_topS (fun S11 e12 => ?_)
    have h1 := h1 S11 e12
    refine x_goto (tgt := 17) C dL_proposed_10 (by decide) ?_
    refine x_iconst (v := (0 : Int32)) C dL_proposed_17 (by decide) ?_
    exact x_iret C (Nat.le_of_ble_eq_true rfl) (Nat.le_of_ble_eq_true rfl) rfl dL_proposed_18 (hg _ _ h1)
theorem kp_L_proposed_met {x0 : Option Nat} {x1 : Int32} {x2 : Int32} {x3 : Option Nat} {S : xm_S} {g : Int32 → xm_S → Prop} (h1 : wp_L_proposed x0 x1 x2 x3 S g) : xm_MetH yL_proposed cL_proposed 5 (some (FieldType.int)) [(0, 10, 13, 21)] rm_L_proposed [xm_r x0, xm_i x1, xm_i x2, xm_r x3] S (xm_qi g) xm_nox :=
  xm_ofWH RL (by decide +kernel) rfl (Nat.le_of_ble_eq_true rfl) (fun K C N hq hx => kp_L_proposed x0 x1 x2 x3 S C N (fun v S h => by rw [hq]; exact ⟨v, rfl, h⟩)  h1)
def rm_L_provide : Room := { frames := 9, cells := 6, slots := 36, locals := 167 }
theorem dL_provide_0 : decode cL_provide 0 = .ok (.aload 5, 2) := by decide +kernel
theorem dL_provide_2 : decode cL_provide 2 = .ok (.iconst 0, 1) := by decide +kernel
theorem dL_provide_3 : decode cL_provide 3 = .ok (.aload_n 0, 1) := by decide +kernel
theorem dL_provide_4 : decode cL_provide 4 = .ok (.iload_n 1, 1) := by decide +kernel
theorem dL_provide_5 : decode cL_provide 5 = .ok (.iload_n 2, 1) := by decide +kernel
theorem dL_provide_6 : decode cL_provide 6 = .ok (.iload_n 3, 1) := by decide +kernel
theorem dL_provide_7 : decode cL_provide 7 = .ok (.iload 4, 2) := by decide +kernel
theorem dL_provide_9 : decode cL_provide 9 = .ok (.invokevirtual 35, 3) := by decide +kernel
theorem dL_provide_12 : decode cL_provide 12 = .ok (.i2l, 1) := by decide +kernel
theorem dL_provide_13 : decode cL_provide 13 = .ok (.lastore, 1) := by decide +kernel
theorem dL_provide_14 : decode cL_provide 14 = .ok (.goto 15, 3) := by decide +kernel
theorem dL_provide_17 : decode cL_provide 17 = .ok (.astore 6, 2) := by decide +kernel
theorem dL_provide_19 : decode cL_provide 19 = .ok (.iconst 1, 1) := by decide +kernel
theorem dL_provide_20 : decode cL_provide 20 = .ok (.ireturn, 1) := by decide +kernel
theorem dL_provide_21 : decode cL_provide 21 = .ok (.astore 6, 2) := by decide +kernel
theorem dL_provide_23 : decode cL_provide 23 = .ok (.iconst 2, 1) := by decide +kernel
theorem dL_provide_24 : decode cL_provide 24 = .ok (.ireturn, 1) := by decide +kernel
theorem dL_provide_25 : decode cL_provide 25 = .ok (.astore 6, 2) := by decide +kernel
theorem dL_provide_27 : decode cL_provide 27 = .ok (.iconst 3, 1) := by decide +kernel
theorem dL_provide_28 : decode cL_provide 28 = .ok (.ireturn, 1) := by decide +kernel
theorem dL_provide_29 : decode cL_provide 29 = .ok (.iconst 0, 1) := by decide +kernel
theorem dL_provide_30 : decode cL_provide 30 = .ok (.ireturn, 1) := by decide +kernel
def wp_L_provide (x0 : Option Nat) (x1 : Int32) (x2 : Int32) (x3 : Int32) (x4 : Int32) (x5 : Option Nat) (S : xm_S) (g : Int32 → xm_S → Prop) : Prop :=
  ∃ n1, x0 = some n1 ∧ st_t S n1 = some (11, 0) ∧ wp_X11_provide n1 x1 x2 x3 x4 S (fun r5 S4 => ∃ n6, x5 = some n6 ∧ ∃ z9, st_t S4 n6 = some (103, z9) ∧ vp_in (0 : Int32) z9 ∧ ∀ S11, S11 = st_pl S4 n6 ((0 : Int32)).toNatClampNeg ((r5).toInt64) → g (0 : Int32) S11) (fun X9 S9 => (X9 = xm_eI ∧ g (1 : Int32) S9) ∨ (X9 = xm_eA ∧ g (nI 2) S9) ∨ (X9 = xm_eS ∧ g (nI 3) S9))
set_option maxRecDepth 100000 in
set_option maxHeartbeats 4000000 in
theorem kp_L_provide {K : xm_K} (x0 : Option Nat) (x1 : Int32) (x2 : Int32) (x3 : Int32) (x4 : Int32) (x5 : Option Nat) (S : xm_S) {g : Int32 → xm_S → Prop} (C : xm_Cx K cL_provide RL 7 (some (FieldType.int)) rm_L_provide) (N : xm_Hx K [(0, 14, 17, 21), (0, 14, 21, 13), (0, 14, 25, 15)]) (hg : ∀ v S, g v S → xm_q K (some (xm_i v)) S)  (h1 : wp_L_provide x0 x1 x2 x3 x4 x5 S g) : xm_W K 0 0 0 [(0, xm_r x0), (1, xm_i x1), (2, xm_i x2), (3, xm_i x3), (4, xm_i x4), (5, xm_r x5)] [] S := by
  unfold wp_L_provide at h1
  refine x_aload C 5 dL_provide_0 rfl ?_
  refine x_iconst (v := (0 : Int32)) C dL_provide_2 (by decide) ?_
  refine x_aload_n C 0 dL_provide_3 rfl rfl ?_
  refine x_iload_n C 1 dL_provide_4 rfl rfl ?_
  refine x_iload_n C 2 dL_provide_5 rfl rfl ?_
  refine x_iload_n C 3 dL_provide_6 rfl rfl ?_
  refine x_iload C 4 dL_provide_7 rfl ?_
  obtain ⟨n1, hr2, h1⟩ := h1
  obtain ⟨ht3, h1⟩ := h1
  refine x_callV (rm' := rm_X11_provide) (n := n1) C (kp_X11_provide_met h1) lk_157 gw_880 gw_881 xv_11 rfl hr2 ht3 rfl (Nat.le_of_ble_eq_true rfl) ⟨Nat.le_of_ble_eq_true rfl, Nat.le_of_ble_eq_true rfl, (Nat.le_of_ble_eq_true rfl), (Nat.le_of_ble_eq_true rfl)⟩ dL_provide_9 (fun X9 S9 hx9 => ?_) (xm_ki (fun r5 S4 h1 => ?_))
  · rcases hx9 with ⟨rfl, h1⟩ | ⟨rfl, h1⟩ | ⟨rfl, h1⟩
    · refine x_catch (hh := [(0, 14, 17, 21), (0, 14, 21, 13), (0, 14, 25, 15)]) (pre := []) (suf := [(0, 14, 21, 13), (0, 14, 25, 15)]) (a := 0) (b := 14) (hp := 17) (ct := 21) C N th_I_in rfl (fun _ h => absurd h List.not_mem_nil) (by decide) (by decide) gw_791 (fun q9 => ?_)
      refine x_astore_w (L' := [(6, xm_w0 q9), (0, xm_r x0), (1, xm_i x1), (2, xm_i x2), (3, xm_i x3), (4, xm_i x4), (5, xm_r x5)]) C dL_provide_17 (by decide) rfl ?_
      refine x_iconst (v := (1 : Int32)) C dL_provide_19 (by decide) ?_
      exact x_iret C (Nat.le_of_ble_eq_true rfl) (Nat.le_of_ble_eq_true rfl) rfl dL_provide_20 (hg _ _ h1)
    · refine x_catch (hh := [(0, 14, 17, 21), (0, 14, 21, 13), (0, 14, 25, 15)]) (pre := [(0, 14, 17, 21)]) (suf := [(0, 14, 25, 15)]) (a := 0) (b := 14) (hp := 21) (ct := 13) C N th_A_in rfl (List.forall_mem_cons.mpr ⟨⟨by decide, xm_eI, th_I_in, by decide +kernel, gw_791⟩, fun _ h => absurd h List.not_mem_nil⟩) (by decide) (by decide) gw_792 (fun q9 => ?_)
      refine x_astore_w (L' := [(6, xm_w0 q9), (0, xm_r x0), (1, xm_i x1), (2, xm_i x2), (3, xm_i x3), (4, xm_i x4), (5, xm_r x5)]) C dL_provide_21 (by decide) rfl ?_
      refine x_iconst (v := (nI 2)) C dL_provide_23 (by decide) ?_
      exact x_iret C (Nat.le_of_ble_eq_true rfl) (Nat.le_of_ble_eq_true rfl) rfl dL_provide_24 (hg _ _ h1)
    · refine x_catch (hh := [(0, 14, 17, 21), (0, 14, 21, 13), (0, 14, 25, 15)]) (pre := [(0, 14, 17, 21), (0, 14, 21, 13)]) (suf := []) (a := 0) (b := 14) (hp := 25) (ct := 15) C N th_S_in rfl (List.forall_mem_cons.mpr ⟨⟨by decide, xm_eI, th_I_in, by decide +kernel, gw_791⟩, List.forall_mem_cons.mpr ⟨⟨by decide, xm_eA, th_A_in, by decide +kernel, gw_792⟩, fun _ h => absurd h List.not_mem_nil⟩⟩) (by decide) (by decide) gw_793 (fun q9 => ?_)
      refine x_astore_w (L' := [(6, xm_w0 q9), (0, xm_r x0), (1, xm_i x1), (2, xm_i x2), (3, xm_i x3), (4, xm_i x4), (5, xm_r x5)]) C dL_provide_25 (by decide) rfl ?_
      refine x_iconst (v := (nI 3)) C dL_provide_27 (by decide) ?_
      exact x_iret C (Nat.le_of_ble_eq_true rfl) (Nat.le_of_ble_eq_true rfl) rfl dL_provide_28 (hg _ _ h1)
  · skip
    refine x_i2l C dL_provide_12 ?_
    obtain ⟨n6, hr7, h1⟩ := h1
    obtain ⟨z9, ht8, h1⟩ := h1
    obtain ⟨hi10, h1⟩ := h1
    refine x_last (n := n6) C hr7 ht8 hi10 dL_provide_13 ?_
    refine x_topS (fun S11 e12 => ?_)
    have h1 := h1 S11 e12
    refine x_goto (tgt := 29) C dL_provide_14 (by decide) ?_
    refine x_iconst (v := (0 : Int32)) C dL_provide_29 (by decide) ?_
    exact x_iret C (Nat.le_of_ble_eq_true rfl) (Nat.le_of_ble_eq_true rfl) rfl dL_provide_30 (hg _ _ h1)
theorem kp_L_provide_met {x0 : Option Nat} {x1 : Int32} {x2 : Int32} {x3 : Int32} {x4 : Int32} {x5 : Option Nat} {S : xm_S} {g : Int32 → xm_S → Prop} (h1 : wp_L_provide x0 x1 x2 x3 x4 x5 S g) : xm_MetH yL_provide cL_provide 7 (some (FieldType.int)) [(0, 14, 17, 21), (0, 14, 21, 13), (0, 14, 25, 15)] rm_L_provide [xm_r x0, xm_i x1, xm_i x2, xm_i x3, xm_i x4, xm_r x5] S (xm_qi g) xm_nox :=
  xm_ofWH RL (by decide +kernel) rfl (Nat.le_of_ble_eq_true rfl) (fun K C N hq hx => kp_L_provide x0 x1 x2 x3 x4 x5 S C N (fun v S h => by rw [hq]; exact ⟨v, rfl, h⟩)  h1)
def rm_L_role : Room := { frames := 8, cells := 3, slots := 18, locals := 146 }
theorem dL_role_0 : decode cL_role 0 = .ok (.aload 4, 2) := by decide +kernel
theorem dL_role_2 : decode cL_role 2 = .ok (.iconst 0, 1) := by decide +kernel
theorem dL_role_3 : decode cL_role 3 = .ok (.aload_n 0, 1) := by decide +kernel
theorem dL_role_4 : decode cL_role 4 = .ok (.iload_n 1, 1) := by decide +kernel
theorem dL_role_5 : decode cL_role 5 = .ok (.iload_n 2, 1) := by decide +kernel
theorem dL_role_6 : decode cL_role 6 = .ok (.iload_n 3, 1) := by decide +kernel
theorem dL_role_7 : decode cL_role 7 = .ok (.invokevirtual 87, 3) := by decide +kernel
theorem dL_role_10 : decode cL_role 10 = .ok (.ifCond .eq 7, 3) := by decide +kernel
theorem dL_role_13 : decode cL_role 13 = .ok (.lconst 1, 1) := by decide +kernel
theorem dL_role_14 : decode cL_role 14 = .ok (.goto 4, 3) := by decide +kernel
theorem dL_role_17 : decode cL_role 17 = .ok (.lconst 0, 1) := by decide +kernel
theorem dL_role_18 : decode cL_role 18 = .ok (.lastore, 1) := by decide +kernel
theorem dL_role_19 : decode cL_role 19 = .ok (.goto 7, 3) := by decide +kernel
theorem dL_role_22 : decode cL_role 22 = .ok (.astore 5, 2) := by decide +kernel
theorem dL_role_24 : decode cL_role 24 = .ok (.iconst 1, 1) := by decide +kernel
theorem dL_role_25 : decode cL_role 25 = .ok (.ireturn, 1) := by decide +kernel
theorem dL_role_26 : decode cL_role 26 = .ok (.iconst 0, 1) := by decide +kernel
theorem dL_role_27 : decode cL_role 27 = .ok (.ireturn, 1) := by decide +kernel
def wp_L_role_18 (s0 : Int64) (s1 : Int32) (s2 : Option Nat) (S : xm_S) (g : Int32 → xm_S → Prop) : Prop :=
  ∃ n1, s2 = some n1 ∧ ∃ z4, st_t S n1 = some (103, z4) ∧ vp_in s1 z4 ∧ ∀ S6, S6 = st_pl S n1 (s1).toNatClampNeg s0 → g (0 : Int32) S6
set_option maxRecDepth 100000 in
set_option maxHeartbeats 4000000 in
theorem kp_L_role_18 {K : xm_K} (s0 : Int64) (s1 : Int32) (s2 : Option Nat) (S : xm_S) {g : Int32 → xm_S → Prop} (C : xm_Cx K cL_role RL 6 (some (FieldType.int)) rm_L_role) (N : xm_Hx K [(0, 19, 22, 13)]) (hg : ∀ v S, g v S → xm_q K (some (xm_i v)) S)  (h1 : wp_L_role_18 s0 s1 s2 S g) : xm_W K 3 18 18 [] [xm_l s0, xm_i s1, xm_r s2] S := by
  unfold wp_L_role_18 at h1
  obtain ⟨n1, hr2, h1⟩ := h1
  obtain ⟨z4, ht3, h1⟩ := h1
  obtain ⟨hi5, h1⟩ := h1
  refine x_last (n := n1) C hr2 ht3 hi5 dL_role_18 ?_
  refine x_topS (fun S6 e7 => ?_)
  have h1 := h1 S6 e7
  refine x_goto (tgt := 26) C dL_role_19 (by decide) ?_
  refine x_iconst (v := (0 : Int32)) C dL_role_26 (by decide) ?_
  exact x_iret C (Nat.le_of_ble_eq_true rfl) (Nat.le_of_ble_eq_true rfl) rfl dL_role_27 (hg _ _ h1)
def wp_L_role (x0 : Option Nat) (x1 : Int32) (x2 : Int32) (x3 : Int32) (x4 : Option Nat) (S : xm_S) (g : Int32 → xm_S → Prop) : Prop :=
  ∃ n8, x0 = some n8 ∧ st_t S n8 = some (11, 0) ∧ wp_X11_role n8 x1 x2 x3 S (fun r12 S11 => (r12 = 0 → wp_L_role_18 (0 : Int64) (0 : Int32) x4 S11 g) ∧ (¬ r12 = 0 → wp_L_role_18 (1 : Int64) (0 : Int32) x4 S11 g)) (fun X9 S9 => (X9 = xm_eA ∧ g (1 : Int32) S9))
set_option maxRecDepth 100000 in
set_option maxHeartbeats 4000000 in
theorem kp_L_role {K : xm_K} (x0 : Option Nat) (x1 : Int32) (x2 : Int32) (x3 : Int32) (x4 : Option Nat) (S : xm_S) {g : Int32 → xm_S → Prop} (C : xm_Cx K cL_role RL 6 (some (FieldType.int)) rm_L_role) (N : xm_Hx K [(0, 19, 22, 13)]) (hg : ∀ v S, g v S → xm_q K (some (xm_i v)) S)  (h1 : wp_L_role x0 x1 x2 x3 x4 S g) : xm_W K 0 0 0 [(0, xm_r x0), (1, xm_i x1), (2, xm_i x2), (3, xm_i x3), (4, xm_r x4)] [] S := by
  unfold wp_L_role at h1
  refine x_aload C 4 dL_role_0 rfl ?_
  refine x_iconst (v := (0 : Int32)) C dL_role_2 (by decide) ?_
  refine x_aload_n C 0 dL_role_3 rfl rfl ?_
  refine x_iload_n C 1 dL_role_4 rfl rfl ?_
  refine x_iload_n C 2 dL_role_5 rfl rfl ?_
  refine x_iload_n C 3 dL_role_6 rfl rfl ?_
  obtain ⟨n8, hr9, h1⟩ := h1
  obtain ⟨ht10, h1⟩ := h1
  refine x_callV (rm' := rm_X11_role) (n := n8) C (kp_X11_role_met h1) lk_158 gw_884 gw_885 xv_11 rfl hr9 ht10 rfl (Nat.le_of_ble_eq_true rfl) ⟨Nat.le_of_ble_eq_true rfl, Nat.le_of_ble_eq_true rfl, (Nat.le_of_ble_eq_true rfl), (Nat.le_of_ble_eq_true rfl)⟩ dL_role_7 (fun X9 S9 hx9 => ?_) (xm_ki (fun r12 S11 h1 => ?_))
  · obtain ⟨rfl, h1⟩ := hx9
    refine x_catch (hh := [(0, 19, 22, 13)]) (pre := []) (suf := []) (a := 0) (b := 19) (hp := 22) (ct := 13) C N th_A_in rfl (fun _ h => absurd h List.not_mem_nil) (by decide) (by decide) gw_792 (fun q9 => ?_)
    refine x_astore_w (L' := [(5, xm_w0 q9), (0, xm_r x0), (1, xm_i x1), (2, xm_i x2), (3, xm_i x3), (4, xm_r x4)]) C dL_role_22 (by decide) rfl ?_
    refine x_iconst (v := (1 : Int32)) C dL_role_24 (by decide) ?_
    exact x_iret C (Nat.le_of_ble_eq_true rfl) (Nat.le_of_ble_eq_true rfl) rfl dL_role_25 (hg _ _ h1)
  · skip
    refine x_if_eq (tgt := 17) C dL_role_10 (by decide) (fun z9 => ?_) (fun z9 => ?_)
    · have h1 := h1.1 z9
      refine x_lconst (v := (0 : Int64)) C dL_role_17 (by decide) ?_
      refine x_keep (L' := []) C [] rfl ?_
      exact kp_L_role_18 (0 : Int64) (0 : Int32) x4 S11 C N hg  h1
    · have h1 := h1.2 z9
      refine x_lconst (v := (1 : Int64)) C dL_role_13 (by decide) ?_
      refine x_goto (tgt := 18) C dL_role_14 (by decide) ?_
      refine x_keep (L' := []) C [] rfl ?_
      exact kp_L_role_18 (1 : Int64) (0 : Int32) x4 S11 C N hg  h1
theorem kp_L_role_met {x0 : Option Nat} {x1 : Int32} {x2 : Int32} {x3 : Int32} {x4 : Option Nat} {S : xm_S} {g : Int32 → xm_S → Prop} (h1 : wp_L_role x0 x1 x2 x3 x4 S g) : xm_MetH yL_role cL_role 6 (some (FieldType.int)) [(0, 19, 22, 13)] rm_L_role [xm_r x0, xm_i x1, xm_i x2, xm_i x3, xm_r x4] S (xm_qi g) xm_nox :=
  xm_ofWH RL (by decide +kernel) rfl (Nat.le_of_ble_eq_true rfl) (fun K C N hq hx => kp_L_role x0 x1 x2 x3 x4 S C N (fun v S h => by rw [hq]; exact ⟨v, rfl, h⟩)  h1)
def rm_L_rollback : Room := { frames := 8, cells := 1, slots := 6, locals := 143 }
theorem dL_rollback_0 : decode cL_rollback 0 = .ok (.aload_n 2, 1) := by decide +kernel
theorem dL_rollback_1 : decode cL_rollback 1 = .ok (.iconst 0, 1) := by decide +kernel
theorem dL_rollback_2 : decode cL_rollback 2 = .ok (.aload_n 0, 1) := by decide +kernel
theorem dL_rollback_3 : decode cL_rollback 3 = .ok (.iload_n 1, 1) := by decide +kernel
theorem dL_rollback_4 : decode cL_rollback 4 = .ok (.invokevirtual 129, 3) := by decide +kernel
theorem dL_rollback_7 : decode cL_rollback 7 = .ok (.i2l, 1) := by decide +kernel
theorem dL_rollback_8 : decode cL_rollback 8 = .ok (.lastore, 1) := by decide +kernel
theorem dL_rollback_9 : decode cL_rollback 9 = .ok (.goto 6, 3) := by decide +kernel
theorem dL_rollback_12 : decode cL_rollback 12 = .ok (.astore_n 3, 1) := by decide +kernel
theorem dL_rollback_13 : decode cL_rollback 13 = .ok (.iconst 1, 1) := by decide +kernel
theorem dL_rollback_14 : decode cL_rollback 14 = .ok (.ireturn, 1) := by decide +kernel
theorem dL_rollback_15 : decode cL_rollback 15 = .ok (.iconst 0, 1) := by decide +kernel
theorem dL_rollback_16 : decode cL_rollback 16 = .ok (.ireturn, 1) := by decide +kernel
def wp_L_rollback (x0 : Option Nat) (x1 : Int32) (x2 : Option Nat) (S : xm_S) (g : Int32 → xm_S → Prop) : Prop :=
  ∃ n1, x0 = some n1 ∧ st_t S n1 = some (11, 0) ∧ wp_X11_rollback n1 x1 S (fun r5 S4 => ∃ n6, x2 = some n6 ∧ ∃ z9, st_t S4 n6 = some (103, z9) ∧ vp_in (0 : Int32) z9 ∧ ∀ S11, S11 = st_pl S4 n6 ((0 : Int32)).toNatClampNeg ((r5).toInt64) → g (0 : Int32) S11) (fun X9 S9 => (X9 = xm_eI ∧ g (1 : Int32) S9))
set_option maxRecDepth 100000 in
set_option maxHeartbeats 4000000 in
theorem kp_L_rollback {K : xm_K} (x0 : Option Nat) (x1 : Int32) (x2 : Option Nat) (S : xm_S) {g : Int32 → xm_S → Prop} (C : xm_Cx K cL_rollback RL 4 (some (FieldType.int)) rm_L_rollback) (N : xm_Hx K [(0, 9, 12, 21)]) (hg : ∀ v S, g v S → xm_q K (some (xm_i v)) S)  (h1 : wp_L_rollback x0 x1 x2 S g) : xm_W K 0 0 0 [(0, xm_r x0), (1, xm_i x1), (2, xm_r x2)] [] S := by
  unfold wp_L_rollback at h1
  refine x_aload_n C 2 dL_rollback_0 rfl rfl ?_
  refine x_iconst (v := (0 : Int32)) C dL_rollback_1 (by decide) ?_
  refine x_aload_n C 0 dL_rollback_2 rfl rfl ?_
  refine x_iload_n C 1 dL_rollback_3 rfl rfl ?_
  obtain ⟨n1, hr2, h1⟩ := h1
  obtain ⟨ht3, h1⟩ := h1
  refine x_callV (rm' := rm_X11_rollback) (n := n1) C (kp_X11_rollback_met h1) lk_159 gw_888 gw_889 xv_11 rfl hr2 ht3 rfl (Nat.le_of_ble_eq_true rfl) ⟨Nat.le_of_ble_eq_true rfl, Nat.le_of_ble_eq_true rfl, (Nat.le_of_ble_eq_true rfl), (Nat.le_of_ble_eq_true rfl)⟩ dL_rollback_4 (fun X9 S9 hx9 => ?_) (xm_ki (fun r5 S4 h1 => ?_))
  · obtain ⟨rfl, h1⟩ := hx9
    refine x_catch (hh := [(0, 9, 12, 21)]) (pre := []) (suf := []) (a := 0) (b := 9) (hp := 12) (ct := 21) C N th_I_in rfl (fun _ h => absurd h List.not_mem_nil) (by decide) (by decide) gw_791 (fun q9 => ?_)
    refine x_astore_n_w (L' := [(3, xm_w0 q9), (0, xm_r x0), (1, xm_i x1), (2, xm_r x2)]) C dL_rollback_12 rfl (by decide) rfl ?_
    refine x_iconst (v := (1 : Int32)) C dL_rollback_13 (by decide) ?_
    exact x_iret C (Nat.le_of_ble_eq_true rfl) (Nat.le_of_ble_eq_true rfl) rfl dL_rollback_14 (hg _ _ h1)
  · skip
    refine x_i2l C dL_rollback_7 ?_
    obtain ⟨n6, hr7, h1⟩ := h1
    obtain ⟨z9, ht8, h1⟩ := h1
    obtain ⟨hi10, h1⟩ := h1
    refine x_last (n := n6) C hr7 ht8 hi10 dL_rollback_8 ?_
    refine x_topS (fun S11 e12 => ?_)
    have h1 := h1 S11 e12
    refine x_goto (tgt := 15) C dL_rollback_9 (by decide) ?_
    refine x_iconst (v := (0 : Int32)) C dL_rollback_15 (by decide) ?_
    exact x_iret C (Nat.le_of_ble_eq_true rfl) (Nat.le_of_ble_eq_true rfl) rfl dL_rollback_16 (hg _ _ h1)
theorem kp_L_rollback_met {x0 : Option Nat} {x1 : Int32} {x2 : Option Nat} {S : xm_S} {g : Int32 → xm_S → Prop} (h1 : wp_L_rollback x0 x1 x2 S g) : xm_MetH yL_rollback cL_rollback 4 (some (FieldType.int)) [(0, 9, 12, 21)] rm_L_rollback [xm_r x0, xm_i x1, xm_r x2] S (xm_qi g) xm_nox :=
  xm_ofWH RL (by decide +kernel) rfl (Nat.le_of_ble_eq_true rfl) (fun K C N hq hx => kp_L_rollback x0 x1 x2 S C N (fun v S h => by rw [hq]; exact ⟨v, rfl, h⟩)  h1)
def rm_L_run : Room := { frames := 8, cells := 1, slots := 6, locals := 146 }
theorem dL_run_0 : decode cL_run 0 = .ok (.aload_n 3, 1) := by decide +kernel
theorem dL_run_1 : decode cL_run 1 = .ok (.iconst 0, 1) := by decide +kernel
theorem dL_run_2 : decode cL_run 2 = .ok (.aload_n 0, 1) := by decide +kernel
theorem dL_run_3 : decode cL_run 3 = .ok (.iload_n 1, 1) := by decide +kernel
theorem dL_run_4 : decode cL_run 4 = .ok (.iload_n 2, 1) := by decide +kernel
theorem dL_run_5 : decode cL_run 5 = .ok (.invokevirtual 126, 3) := by decide +kernel
theorem dL_run_8 : decode cL_run 8 = .ok (.ifCond .eq 7, 3) := by decide +kernel
theorem dL_run_11 : decode cL_run 11 = .ok (.lconst 1, 1) := by decide +kernel
theorem dL_run_12 : decode cL_run 12 = .ok (.goto 4, 3) := by decide +kernel
theorem dL_run_15 : decode cL_run 15 = .ok (.lconst 0, 1) := by decide +kernel
theorem dL_run_16 : decode cL_run 16 = .ok (.lastore, 1) := by decide +kernel
theorem dL_run_17 : decode cL_run 17 = .ok (.goto 7, 3) := by decide +kernel
theorem dL_run_20 : decode cL_run 20 = .ok (.astore 4, 2) := by decide +kernel
theorem dL_run_22 : decode cL_run 22 = .ok (.iconst 1, 1) := by decide +kernel
theorem dL_run_23 : decode cL_run 23 = .ok (.ireturn, 1) := by decide +kernel
theorem dL_run_24 : decode cL_run 24 = .ok (.iconst 0, 1) := by decide +kernel
theorem dL_run_25 : decode cL_run 25 = .ok (.ireturn, 1) := by decide +kernel
def wp_L_run_16 (s0 : Int64) (s1 : Int32) (s2 : Option Nat) (S : xm_S) (g : Int32 → xm_S → Prop) : Prop :=
  ∃ n1, s2 = some n1 ∧ ∃ z4, st_t S n1 = some (103, z4) ∧ vp_in s1 z4 ∧ ∀ S6, S6 = st_pl S n1 (s1).toNatClampNeg s0 → g (0 : Int32) S6
set_option maxRecDepth 100000 in
set_option maxHeartbeats 4000000 in
theorem kp_L_run_16 {K : xm_K} (s0 : Int64) (s1 : Int32) (s2 : Option Nat) (S : xm_S) {g : Int32 → xm_S → Prop} (C : xm_Cx K cL_run RL 5 (some (FieldType.int)) rm_L_run) (N : xm_Hx K [(0, 17, 20, 21)]) (hg : ∀ v S, g v S → xm_q K (some (xm_i v)) S)  (h1 : wp_L_run_16 s0 s1 s2 S g) : xm_W K 1 6 16 [] [xm_l s0, xm_i s1, xm_r s2] S := by
  unfold wp_L_run_16 at h1
  obtain ⟨n1, hr2, h1⟩ := h1
  obtain ⟨z4, ht3, h1⟩ := h1
  obtain ⟨hi5, h1⟩ := h1
  refine x_last (n := n1) C hr2 ht3 hi5 dL_run_16 ?_
  refine x_topS (fun S6 e7 => ?_)
  have h1 := h1 S6 e7
  refine x_goto (tgt := 24) C dL_run_17 (by decide) ?_
  refine x_iconst (v := (0 : Int32)) C dL_run_24 (by decide) ?_
  exact x_iret C (Nat.le_of_ble_eq_true rfl) (Nat.le_of_ble_eq_true rfl) rfl dL_run_25 (hg _ _ h1)
def wp_L_run (x0 : Option Nat) (x1 : Int32) (x2 : Int32) (x3 : Option Nat) (S : xm_S) (g : Int32 → xm_S → Prop) : Prop :=
  ∃ n8, x0 = some n8 ∧ st_t S n8 = some (11, 0) ∧ wp_X11_run n8 x1 x2 S (fun r12 S11 => (r12 = 0 → wp_L_run_16 (0 : Int64) (0 : Int32) x3 S11 g) ∧ (¬ r12 = 0 → wp_L_run_16 (1 : Int64) (0 : Int32) x3 S11 g)) (fun X9 S9 => (X9 = xm_eI ∧ g (1 : Int32) S9))
set_option maxRecDepth 100000 in
set_option maxHeartbeats 4000000 in
theorem kp_L_run {K : xm_K} (x0 : Option Nat) (x1 : Int32) (x2 : Int32) (x3 : Option Nat) (S : xm_S) {g : Int32 → xm_S → Prop} (C : xm_Cx K cL_run RL 5 (some (FieldType.int)) rm_L_run) (N : xm_Hx K [(0, 17, 20, 21)]) (hg : ∀ v S, g v S → xm_q K (some (xm_i v)) S)  (h1 : wp_L_run x0 x1 x2 x3 S g) : xm_W K 0 0 0 [(0, xm_r x0), (1, xm_i x1), (2, xm_i x2), (3, xm_r x3)] [] S := by
  unfold wp_L_run at h1
  refine x_aload_n C 3 dL_run_0 rfl rfl ?_
  refine x_iconst (v := (0 : Int32)) C dL_run_1 (by decide) ?_
  refine x_aload_n C 0 dL_run_2 rfl rfl ?_
  refine x_iload_n C 1 dL_run_3 rfl rfl ?_
  refine x_iload_n C 2 dL_run_4 rfl rfl ?_
  obtain ⟨n8, hr9, h1⟩ := h1
  obtain ⟨ht10, h1⟩ := h1
  refine x_callV (rm' := rm_X11_run) (n := n8) C (kp_X11_run_met h1) lk_160 gw_892 gw_893 xv_11 rfl hr9 ht10 rfl (Nat.le_of_ble_eq_true rfl) ⟨Nat.le_of_ble_eq_true rfl, Nat.le_of_ble_eq_true rfl, (Nat.le_of_ble_eq_true rfl), (Nat.le_of_ble_eq_true rfl)⟩ dL_run_5 (fun X9 S9 hx9 => ?_) (xm_ki (fun r12 S11 h1 => ?_))
  · obtain ⟨rfl, h1⟩ := hx9
    refine x_catch (hh := [(0, 17, 20, 21)]) (pre := []) (suf := []) (a := 0) (b := 17) (hp := 20) (ct := 21) C N th_I_in rfl (fun _ h => absurd h List.not_mem_nil) (by decide) (by decide) gw_791 (fun q9 => ?_)
    refine x_astore_w (L' := [(4, xm_w0 q9), (0, xm_r x0), (1, xm_i x1), (2, xm_i x2), (3, xm_r x3)]) C dL_run_20 (by decide) rfl ?_
    refine x_iconst (v := (1 : Int32)) C dL_run_22 (by decide) ?_
    exact x_iret C (Nat.le_of_ble_eq_true rfl) (Nat.le_of_ble_eq_true rfl) rfl dL_run_23 (hg _ _ h1)
  · skip
    refine x_if_eq (tgt := 15) C dL_run_8 (by decide) (fun z9 => ?_) (fun z9 => ?_)
    · have h1 := h1.1 z9
      refine x_lconst (v := (0 : Int64)) C dL_run_15 (by decide) ?_
      refine x_keep (L' := []) C [] rfl ?_
      exact kp_L_run_16 (0 : Int64) (0 : Int32) x3 S11 C N hg  h1
    · have h1 := h1.2 z9
      refine x_lconst (v := (1 : Int64)) C dL_run_11 (by decide) ?_
      refine x_goto (tgt := 16) C dL_run_12 (by decide) ?_
      refine x_keep (L' := []) C [] rfl ?_
      exact kp_L_run_16 (1 : Int64) (0 : Int32) x3 S11 C N hg  h1
theorem kp_L_run_met {x0 : Option Nat} {x1 : Int32} {x2 : Int32} {x3 : Option Nat} {S : xm_S} {g : Int32 → xm_S → Prop} (h1 : wp_L_run x0 x1 x2 x3 S g) : xm_MetH yL_run cL_run 5 (some (FieldType.int)) [(0, 17, 20, 21)] rm_L_run [xm_r x0, xm_i x1, xm_i x2, xm_r x3] S (xm_qi g) xm_nox :=
  xm_ofWH RL (by decide +kernel) rfl (Nat.le_of_ble_eq_true rfl) (fun K C N hq hx => kp_L_run x0 x1 x2 x3 S C N (fun v S h => by rw [hq]; exact ⟨v, rfl, h⟩)  h1)
def rm_L_scheme : Room := { frames := 8, cells := 2, slots := 12, locals := 143 }
theorem dL_scheme_0 : decode cL_scheme 0 = .ok (.aload_n 3, 1) := by decide +kernel
theorem dL_scheme_1 : decode cL_scheme 1 = .ok (.iconst 0, 1) := by decide +kernel
theorem dL_scheme_2 : decode cL_scheme 2 = .ok (.aload_n 0, 1) := by decide +kernel
theorem dL_scheme_3 : decode cL_scheme 3 = .ok (.iload_n 1, 1) := by decide +kernel
theorem dL_scheme_4 : decode cL_scheme 4 = .ok (.iload_n 2, 1) := by decide +kernel
theorem dL_scheme_5 : decode cL_scheme 5 = .ok (.invokevirtual 17, 3) := by decide +kernel
theorem dL_scheme_8 : decode cL_scheme 8 = .ok (.i2l, 1) := by decide +kernel
theorem dL_scheme_9 : decode cL_scheme 9 = .ok (.lastore, 1) := by decide +kernel
theorem dL_scheme_10 : decode cL_scheme 10 = .ok (.goto 11, 3) := by decide +kernel
theorem dL_scheme_13 : decode cL_scheme 13 = .ok (.astore 4, 2) := by decide +kernel
theorem dL_scheme_15 : decode cL_scheme 15 = .ok (.iconst 1, 1) := by decide +kernel
theorem dL_scheme_16 : decode cL_scheme 16 = .ok (.ireturn, 1) := by decide +kernel
theorem dL_scheme_17 : decode cL_scheme 17 = .ok (.astore 4, 2) := by decide +kernel
theorem dL_scheme_19 : decode cL_scheme 19 = .ok (.iconst 2, 1) := by decide +kernel
theorem dL_scheme_20 : decode cL_scheme 20 = .ok (.ireturn, 1) := by decide +kernel
theorem dL_scheme_21 : decode cL_scheme 21 = .ok (.iconst 0, 1) := by decide +kernel
theorem dL_scheme_22 : decode cL_scheme 22 = .ok (.ireturn, 1) := by decide +kernel
def wp_L_scheme (x0 : Option Nat) (x1 : Int32) (x2 : Int32) (x3 : Option Nat) (S : xm_S) (g : Int32 → xm_S → Prop) : Prop :=
  ∃ n1, x0 = some n1 ∧ st_t S n1 = some (11, 0) ∧ wp_X11_scheme n1 x1 x2 S (fun r5 S4 => ∃ n6, x3 = some n6 ∧ ∃ z9, st_t S4 n6 = some (103, z9) ∧ vp_in (0 : Int32) z9 ∧ ∀ S11, S11 = st_pl S4 n6 ((0 : Int32)).toNatClampNeg ((r5).toInt64) → g (0 : Int32) S11) (fun X9 S9 => (X9 = xm_eI ∧ g (1 : Int32) S9) ∨ (X9 = xm_eA ∧ g (nI 2) S9))
set_option maxRecDepth 100000 in
set_option maxHeartbeats 4000000 in
theorem kp_L_scheme {K : xm_K} (x0 : Option Nat) (x1 : Int32) (x2 : Int32) (x3 : Option Nat) (S : xm_S) {g : Int32 → xm_S → Prop} (C : xm_Cx K cL_scheme RL 5 (some (FieldType.int)) rm_L_scheme) (N : xm_Hx K [(0, 10, 13, 21), (0, 10, 17, 13)]) (hg : ∀ v S, g v S → xm_q K (some (xm_i v)) S)  (h1 : wp_L_scheme x0 x1 x2 x3 S g) : xm_W K 0 0 0 [(0, xm_r x0), (1, xm_i x1), (2, xm_i x2), (3, xm_r x3)] [] S := by
  unfold wp_L_scheme at h1
  refine x_aload_n C 3 dL_scheme_0 rfl rfl ?_
  refine x_iconst (v := (0 : Int32)) C dL_scheme_1 (by decide) ?_
  refine x_aload_n C 0 dL_scheme_2 rfl rfl ?_
  refine x_iload_n C 1 dL_scheme_3 rfl rfl ?_
  refine x_iload_n C 2 dL_scheme_4 rfl rfl ?_
  obtain ⟨n1, hr2, h1⟩ := h1
  obtain ⟨ht3, h1⟩ := h1
  refine x_callV (rm' := rm_X11_scheme) (n := n1) C (kp_X11_scheme_met h1) lk_161 gw_896 gw_897 xv_11 rfl hr2 ht3 rfl (Nat.le_of_ble_eq_true rfl) ⟨Nat.le_of_ble_eq_true rfl, Nat.le_of_ble_eq_true rfl, (Nat.le_of_ble_eq_true rfl), (Nat.le_of_ble_eq_true rfl)⟩ dL_scheme_5 (fun X9 S9 hx9 => ?_) (xm_ki (fun r5 S4 h1 => ?_))
  · rcases hx9 with ⟨rfl, h1⟩ | ⟨rfl, h1⟩
    · refine x_catch (hh := [(0, 10, 13, 21), (0, 10, 17, 13)]) (pre := []) (suf := [(0, 10, 17, 13)]) (a := 0) (b := 10) (hp := 13) (ct := 21) C N th_I_in rfl (fun _ h => absurd h List.not_mem_nil) (by decide) (by decide) gw_791 (fun q9 => ?_)
      refine x_astore_w (L' := [(4, xm_w0 q9), (0, xm_r x0), (1, xm_i x1), (2, xm_i x2), (3, xm_r x3)]) C dL_scheme_13 (by decide) rfl ?_
      refine x_iconst (v := (1 : Int32)) C dL_scheme_15 (by decide) ?_
      exact x_iret C (Nat.le_of_ble_eq_true rfl) (Nat.le_of_ble_eq_true rfl) rfl dL_scheme_16 (hg _ _ h1)
    · refine x_catch (hh := [(0, 10, 13, 21), (0, 10, 17, 13)]) (pre := [(0, 10, 13, 21)]) (suf := []) (a := 0) (b := 10) (hp := 17) (ct := 13) C N th_A_in rfl (List.forall_mem_cons.mpr ⟨⟨by decide, xm_eI, th_I_in, by decide +kernel, gw_791⟩, fun _ h => absurd h List.not_mem_nil⟩) (by decide) (by decide) gw_792 (fun q9 => ?_)
      refine x_astore_w (L' := [(4, xm_w0 q9), (0, xm_r x0), (1, xm_i x1), (2, xm_i x2), (3, xm_r x3)]) C dL_scheme_17 (by decide) rfl ?_
      refine x_iconst (v := (nI 2)) C dL_scheme_19 (by decide) ?_
      exact x_iret C (Nat.le_of_ble_eq_true rfl) (Nat.le_of_ble_eq_true rfl) rfl dL_scheme_20 (hg _ _ h1)
  · skip
    refine x_i2l C dL_scheme_8 ?_
    obtain ⟨n6, hr7, h1⟩ := h1
    obtain ⟨z9, ht8, h1⟩ := h1
    obtain ⟨hi10, h1⟩ := h1
    refine x_last (n := n6) C hr7 ht8 hi10 dL_scheme_9 ?_
    refine x_topS (fun S11 e12 => ?_)
    have h1 := h1 S11 e12
    refine x_goto (tgt := 21) C dL_scheme_10 (by decide) ?_
    refine x_iconst (v := (0 : Int32)) C dL_scheme_21 (by decide) ?_
    exact x_iret C (Nat.le_of_ble_eq_true rfl) (Nat.le_of_ble_eq_true rfl) rfl dL_scheme_22 (hg _ _ h1)
theorem kp_L_scheme_met {x0 : Option Nat} {x1 : Int32} {x2 : Int32} {x3 : Option Nat} {S : xm_S} {g : Int32 → xm_S → Prop} (h1 : wp_L_scheme x0 x1 x2 x3 S g) : xm_MetH yL_scheme cL_scheme 5 (some (FieldType.int)) [(0, 10, 13, 21), (0, 10, 17, 13)] rm_L_scheme [xm_r x0, xm_i x1, xm_i x2, xm_r x3] S (xm_qi g) xm_nox :=
  xm_ofWH RL (by decide +kernel) rfl (Nat.le_of_ble_eq_true rfl) (fun K C N hq hx => kp_L_scheme x0 x1 x2 x3 S C N (fun v S h => by rw [hq]; exact ⟨v, rfl, h⟩)  h1)
def rm_L_shut : Room := { frames := 8, cells := 1, slots := 6, locals := 143 }
theorem dL_shut_0 : decode cL_shut 0 = .ok (.aload_n 3, 1) := by decide +kernel
theorem dL_shut_1 : decode cL_shut 1 = .ok (.iconst 0, 1) := by decide +kernel
theorem dL_shut_2 : decode cL_shut 2 = .ok (.aload_n 0, 1) := by decide +kernel
theorem dL_shut_3 : decode cL_shut 3 = .ok (.iload_n 1, 1) := by decide +kernel
theorem dL_shut_4 : decode cL_shut 4 = .ok (.iload_n 2, 1) := by decide +kernel
theorem dL_shut_5 : decode cL_shut 5 = .ok (.invokevirtual 97, 3) := by decide +kernel
theorem dL_shut_8 : decode cL_shut 8 = .ok (.ifCond .eq 7, 3) := by decide +kernel
theorem dL_shut_11 : decode cL_shut 11 = .ok (.lconst 1, 1) := by decide +kernel
theorem dL_shut_12 : decode cL_shut 12 = .ok (.goto 4, 3) := by decide +kernel
theorem dL_shut_15 : decode cL_shut 15 = .ok (.lconst 0, 1) := by decide +kernel
theorem dL_shut_16 : decode cL_shut 16 = .ok (.lastore, 1) := by decide +kernel
theorem dL_shut_17 : decode cL_shut 17 = .ok (.goto 7, 3) := by decide +kernel
theorem dL_shut_20 : decode cL_shut 20 = .ok (.astore 4, 2) := by decide +kernel
theorem dL_shut_22 : decode cL_shut 22 = .ok (.iconst 1, 1) := by decide +kernel
theorem dL_shut_23 : decode cL_shut 23 = .ok (.ireturn, 1) := by decide +kernel
theorem dL_shut_24 : decode cL_shut 24 = .ok (.iconst 0, 1) := by decide +kernel
theorem dL_shut_25 : decode cL_shut 25 = .ok (.ireturn, 1) := by decide +kernel
def wp_L_shut_16 (s0 : Int64) (s1 : Int32) (s2 : Option Nat) (S : xm_S) (g : Int32 → xm_S → Prop) : Prop :=
  ∃ n1, s2 = some n1 ∧ ∃ z4, st_t S n1 = some (103, z4) ∧ vp_in s1 z4 ∧ ∀ S6, S6 = st_pl S n1 (s1).toNatClampNeg s0 → g (0 : Int32) S6
set_option maxRecDepth 100000 in
set_option maxHeartbeats 4000000 in
theorem kp_L_shut_16 {K : xm_K} (s0 : Int64) (s1 : Int32) (s2 : Option Nat) (S : xm_S) {g : Int32 → xm_S → Prop} (C : xm_Cx K cL_shut RL 5 (some (FieldType.int)) rm_L_shut) (N : xm_Hx K [(0, 17, 20, 21)]) (hg : ∀ v S, g v S → xm_q K (some (xm_i v)) S)  (h1 : wp_L_shut_16 s0 s1 s2 S g) : xm_W K 1 6 16 [] [xm_l s0, xm_i s1, xm_r s2] S := by
  unfold wp_L_shut_16 at h1
  obtain ⟨n1, hr2, h1⟩ := h1
  obtain ⟨z4, ht3, h1⟩ := h1
  obtain ⟨hi5, h1⟩ := h1
  refine x_last (n := n1) C hr2 ht3 hi5 dL_shut_16 ?_
  refine x_topS (fun S6 e7 => ?_)
  have h1 := h1 S6 e7
  refine x_goto (tgt := 24) C dL_shut_17 (by decide) ?_
  refine x_iconst (v := (0 : Int32)) C dL_shut_24 (by decide) ?_
  exact x_iret C (Nat.le_of_ble_eq_true rfl) (Nat.le_of_ble_eq_true rfl) rfl dL_shut_25 (hg _ _ h1)
def wp_L_shut (x0 : Option Nat) (x1 : Int32) (x2 : Int32) (x3 : Option Nat) (S : xm_S) (g : Int32 → xm_S → Prop) : Prop :=
  ∃ n8, x0 = some n8 ∧ st_t S n8 = some (11, 0) ∧ wp_X11_shut n8 x1 x2 S (fun r12 S11 => (r12 = 0 → wp_L_shut_16 (0 : Int64) (0 : Int32) x3 S11 g) ∧ (¬ r12 = 0 → wp_L_shut_16 (1 : Int64) (0 : Int32) x3 S11 g)) (fun X9 S9 => (X9 = xm_eI ∧ g (1 : Int32) S9))
set_option maxRecDepth 100000 in
set_option maxHeartbeats 4000000 in
theorem kp_L_shut {K : xm_K} (x0 : Option Nat) (x1 : Int32) (x2 : Int32) (x3 : Option Nat) (S : xm_S) {g : Int32 → xm_S → Prop} (C : xm_Cx K cL_shut RL 5 (some (FieldType.int)) rm_L_shut) (N : xm_Hx K [(0, 17, 20, 21)]) (hg : ∀ v S, g v S → xm_q K (some (xm_i v)) S)  (h1 : wp_L_shut x0 x1 x2 x3 S g) : xm_W K 0 0 0 [(0, xm_r x0), (1, xm_i x1), (2, xm_i x2), (3, xm_r x3)] [] S := by
  unfold wp_L_shut at h1
  refine x_aload_n C 3 dL_shut_0 rfl rfl ?_
  refine x_iconst (v := (0 : Int32)) C dL_shut_1 (by decide) ?_
  refine x_aload_n C 0 dL_shut_2 rfl rfl ?_
  refine x_iload_n C 1 dL_shut_3 rfl rfl ?_
  refine x_iload_n C 2 dL_shut_4 rfl rfl ?_
  obtain ⟨n8, hr9, h1⟩ := h1
  obtain ⟨ht10, h1⟩ := h1
  refine x_callV (rm' := rm_X11_shut) (n := n8) C (kp_X11_shut_met h1) lk_162 gw_900 gw_901 xv_11 rfl hr9 ht10 rfl (Nat.le_of_ble_eq_true rfl) ⟨Nat.le_of_ble_eq_true rfl, Nat.le_of_ble_eq_true rfl, (Nat.le_of_ble_eq_true rfl), (Nat.le_of_ble_eq_true rfl)⟩ dL_shut_5 (fun X9 S9 hx9 => ?_) (xm_ki (fun r12 S11 h1 => ?_))
  · obtain ⟨rfl, h1⟩ := hx9
    refine x_catch (hh := [(0, 17, 20, 21)]) (pre := []) (suf := []) (a := 0) (b := 17) (hp := 20) (ct := 21) C N th_I_in rfl (fun _ h => absurd h List.not_mem_nil) (by decide) (by decide) gw_791 (fun q9 => ?_)
    refine x_astore_w (L' := [(4, xm_w0 q9), (0, xm_r x0), (1, xm_i x1), (2, xm_i x2), (3, xm_r x3)]) C dL_shut_20 (by decide) rfl ?_
    refine x_iconst (v := (1 : Int32)) C dL_shut_22 (by decide) ?_
    exact x_iret C (Nat.le_of_ble_eq_true rfl) (Nat.le_of_ble_eq_true rfl) rfl dL_shut_23 (hg _ _ h1)
  · skip
    refine x_if_eq (tgt := 15) C dL_shut_8 (by decide) (fun z9 => ?_) (fun z9 => ?_)
    · have h1 := h1.1 z9
      refine x_lconst (v := (0 : Int64)) C dL_shut_15 (by decide) ?_
      refine x_keep (L' := []) C [] rfl ?_
      exact kp_L_shut_16 (0 : Int64) (0 : Int32) x3 S11 C N hg  h1
    · have h1 := h1.2 z9
      refine x_lconst (v := (1 : Int64)) C dL_shut_11 (by decide) ?_
      refine x_goto (tgt := 16) C dL_shut_12 (by decide) ?_
      refine x_keep (L' := []) C [] rfl ?_
      exact kp_L_shut_16 (1 : Int64) (0 : Int32) x3 S11 C N hg  h1
theorem kp_L_shut_met {x0 : Option Nat} {x1 : Int32} {x2 : Int32} {x3 : Option Nat} {S : xm_S} {g : Int32 → xm_S → Prop} (h1 : wp_L_shut x0 x1 x2 x3 S g) : xm_MetH yL_shut cL_shut 5 (some (FieldType.int)) [(0, 17, 20, 21)] rm_L_shut [xm_r x0, xm_i x1, xm_i x2, xm_r x3] S (xm_qi g) xm_nox :=
  xm_ofWH RL (by decide +kernel) rfl (Nat.le_of_ble_eq_true rfl) (fun K C N hq hx => kp_L_shut x0 x1 x2 x3 S C N (fun v S h => by rw [hq]; exact ⟨v, rfl, h⟩)  h1)
def rm_L_solve : Room := { frames := 39, cells := 2, slots := 12, locals := 2173 }
theorem dL_solve_0 : decode cL_solve 0 = .ok (.aload_n 3, 1) := by decide +kernel
theorem dL_solve_1 : decode cL_solve 1 = .ok (.iconst 0, 1) := by decide +kernel
theorem dL_solve_2 : decode cL_solve 2 = .ok (.aload_n 0, 1) := by decide +kernel
theorem dL_solve_3 : decode cL_solve 3 = .ok (.iload_n 1, 1) := by decide +kernel
theorem dL_solve_4 : decode cL_solve 4 = .ok (.iload_n 2, 1) := by decide +kernel
theorem dL_solve_5 : decode cL_solve 5 = .ok (.invokevirtual 56, 3) := by decide +kernel
theorem dL_solve_8 : decode cL_solve 8 = .ok (.i2l, 1) := by decide +kernel
theorem dL_solve_9 : decode cL_solve 9 = .ok (.lastore, 1) := by decide +kernel
theorem dL_solve_10 : decode cL_solve 10 = .ok (.goto 7, 3) := by decide +kernel
theorem dL_solve_13 : decode cL_solve 13 = .ok (.astore 4, 2) := by decide +kernel
theorem dL_solve_15 : decode cL_solve 15 = .ok (.iconst 1, 1) := by decide +kernel
theorem dL_solve_16 : decode cL_solve 16 = .ok (.ireturn, 1) := by decide +kernel
theorem dL_solve_17 : decode cL_solve 17 = .ok (.iconst 0, 1) := by decide +kernel
theorem dL_solve_18 : decode cL_solve 18 = .ok (.ireturn, 1) := by decide +kernel
def wp_L_solve (x0 : Option Nat) (x1 : Int32) (x2 : Int32) (x3 : Option Nat) (S : xm_S) (g : Int32 → xm_S → Prop) : Prop :=
  ∃ n1, x0 = some n1 ∧ st_t S n1 = some (11, 0) ∧ wp_X11_solve n1 x1 x2 S (fun r5 S4 => ∃ n6, x3 = some n6 ∧ ∃ z9, st_t S4 n6 = some (103, z9) ∧ vp_in (0 : Int32) z9 ∧ ∀ S11, S11 = st_pl S4 n6 ((0 : Int32)).toNatClampNeg ((r5).toInt64) → g (0 : Int32) S11) (fun X9 S9 => (X9 = xm_eI ∧ g (1 : Int32) S9))
set_option maxRecDepth 100000 in
set_option maxHeartbeats 4000000 in
theorem kp_L_solve {K : xm_K} (x0 : Option Nat) (x1 : Int32) (x2 : Int32) (x3 : Option Nat) (S : xm_S) {g : Int32 → xm_S → Prop} (C : xm_Cx K cL_solve RL 5 (some (FieldType.int)) rm_L_solve) (N : xm_Hx K [(0, 10, 13, 21)]) (hg : ∀ v S, g v S → xm_q K (some (xm_i v)) S)  (h1 : wp_L_solve x0 x1 x2 x3 S g) : xm_W K 0 0 0 [(0, xm_r x0), (1, xm_i x1), (2, xm_i x2), (3, xm_r x3)] [] S := by
  unfold wp_L_solve at h1
  refine x_aload_n C 3 dL_solve_0 rfl rfl ?_
  refine x_iconst (v := (0 : Int32)) C dL_solve_1 (by decide) ?_
  refine x_aload_n C 0 dL_solve_2 rfl rfl ?_
  refine x_iload_n C 1 dL_solve_3 rfl rfl ?_
  refine x_iload_n C 2 dL_solve_4 rfl rfl ?_
  obtain ⟨n1, hr2, h1⟩ := h1
  obtain ⟨ht3, h1⟩ := h1
  refine x_callV (rm' := rm_X11_solve) (n := n1) C (kp_X11_solve_met h1) lk_163 gw_904 gw_905 xv_11 rfl hr2 ht3 rfl (Nat.le_of_ble_eq_true rfl) ⟨Nat.le_of_ble_eq_true rfl, Nat.le_of_ble_eq_true rfl, (Nat.le_of_ble_eq_true rfl), (Nat.le_of_ble_eq_true rfl)⟩ dL_solve_5 (fun X9 S9 hx9 => ?_) (xm_ki (fun r5 S4 h1 => ?_))
  · obtain ⟨rfl, h1⟩ := hx9
    refine x_catch (hh := [(0, 10, 13, 21)]) (pre := []) (suf := []) (a := 0) (b := 10) (hp := 13) (ct := 21) C N th_I_in rfl (fun _ h => absurd h List.not_mem_nil) (by decide) (by decide) gw_791 (fun q9 => ?_)
    refine x_astore_w (L' := [(4, xm_w0 q9), (0, xm_r x0), (1, xm_i x1), (2, xm_i x2), (3, xm_r x3)]) C dL_solve_13 (by decide) rfl ?_
    refine x_iconst (v := (1 : Int32)) C dL_solve_15 (by decide) ?_
    exact x_iret C (Nat.le_of_ble_eq_true rfl) (Nat.le_of_ble_eq_true rfl) rfl dL_solve_16 (hg _ _ h1)
  · skip
    refine x_i2l C dL_solve_8 ?_
    obtain ⟨n6, hr7, h1⟩ := h1
    obtain ⟨z9, ht8, h1⟩ := h1
    obtain ⟨hi10, h1⟩ := h1
    refine x_last (n := n6) C hr7 ht8 hi10 dL_solve_9 ?_
    refine x_topS (fun S11 e12 => ?_)
    have h1 := h1 S11 e12
    refine x_goto (tgt := 17) C dL_solve_10 (by decide) ?_
    refine x_iconst (v := (0 : Int32)) C dL_solve_17 (by decide) ?_
    exact x_iret C (Nat.le_of_ble_eq_true rfl) (Nat.le_of_ble_eq_true rfl) rfl dL_solve_18 (hg _ _ h1)
theorem kp_L_solve_met {x0 : Option Nat} {x1 : Int32} {x2 : Int32} {x3 : Option Nat} {S : xm_S} {g : Int32 → xm_S → Prop} (h1 : wp_L_solve x0 x1 x2 x3 S g) : xm_MetH yL_solve cL_solve 5 (some (FieldType.int)) [(0, 10, 13, 21)] rm_L_solve [xm_r x0, xm_i x1, xm_i x2, xm_r x3] S (xm_qi g) xm_nox :=
  xm_ofWH RL (by decide +kernel) rfl (Nat.le_of_ble_eq_true rfl) (fun K C N hq hx => kp_L_solve x0 x1 x2 x3 S C N (fun v S h => by rw [hq]; exact ⟨v, rfl, h⟩)  h1)
def rm_L_story : Room := { frames := 39, cells := 1, slots := 6, locals := 2173 }
theorem dL_story_0 : decode cL_story 0 = .ok (.aload_n 2, 1) := by decide +kernel
theorem dL_story_1 : decode cL_story 1 = .ok (.iconst 0, 1) := by decide +kernel
theorem dL_story_2 : decode cL_story 2 = .ok (.aload_n 0, 1) := by decide +kernel
theorem dL_story_3 : decode cL_story 3 = .ok (.iload_n 1, 1) := by decide +kernel
theorem dL_story_4 : decode cL_story 4 = .ok (.invokevirtual 65, 3) := by decide +kernel
theorem dL_story_7 : decode cL_story 7 = .ok (.i2l, 1) := by decide +kernel
theorem dL_story_8 : decode cL_story 8 = .ok (.lastore, 1) := by decide +kernel
theorem dL_story_9 : decode cL_story 9 = .ok (.goto 6, 3) := by decide +kernel
theorem dL_story_12 : decode cL_story 12 = .ok (.astore_n 3, 1) := by decide +kernel
theorem dL_story_13 : decode cL_story 13 = .ok (.iconst 1, 1) := by decide +kernel
theorem dL_story_14 : decode cL_story 14 = .ok (.ireturn, 1) := by decide +kernel
theorem dL_story_15 : decode cL_story 15 = .ok (.iconst 0, 1) := by decide +kernel
theorem dL_story_16 : decode cL_story 16 = .ok (.ireturn, 1) := by decide +kernel
def wp_L_story (x0 : Option Nat) (x1 : Int32) (x2 : Option Nat) (S : xm_S) (g : Int32 → xm_S → Prop) : Prop :=
  ∃ n1, x0 = some n1 ∧ st_t S n1 = some (11, 0) ∧ wp_X11_story n1 x1 S (fun r5 S4 => ∃ n6, x2 = some n6 ∧ ∃ z9, st_t S4 n6 = some (103, z9) ∧ vp_in (0 : Int32) z9 ∧ ∀ S11, S11 = st_pl S4 n6 ((0 : Int32)).toNatClampNeg ((r5).toInt64) → g (0 : Int32) S11) (fun X9 S9 => (X9 = xm_eI ∧ g (1 : Int32) S9))
set_option maxRecDepth 100000 in
set_option maxHeartbeats 4000000 in
theorem kp_L_story {K : xm_K} (x0 : Option Nat) (x1 : Int32) (x2 : Option Nat) (S : xm_S) {g : Int32 → xm_S → Prop} (C : xm_Cx K cL_story RL 4 (some (FieldType.int)) rm_L_story) (N : xm_Hx K [(0, 9, 12, 21)]) (hg : ∀ v S, g v S → xm_q K (some (xm_i v)) S)  (h1 : wp_L_story x0 x1 x2 S g) : xm_W K 0 0 0 [(0, xm_r x0), (1, xm_i x1), (2, xm_r x2)] [] S := by
  unfold wp_L_story at h1
  refine x_aload_n C 2 dL_story_0 rfl rfl ?_
  refine x_iconst (v := (0 : Int32)) C dL_story_1 (by decide) ?_
  refine x_aload_n C 0 dL_story_2 rfl rfl ?_
  refine x_iload_n C 1 dL_story_3 rfl rfl ?_
  obtain ⟨n1, hr2, h1⟩ := h1
  obtain ⟨ht3, h1⟩ := h1
  refine x_callV (rm' := rm_X11_story) (n := n1) C (kp_X11_story_met h1) lk_164 gw_908 gw_909 xv_11 rfl hr2 ht3 rfl (Nat.le_of_ble_eq_true rfl) ⟨Nat.le_of_ble_eq_true rfl, Nat.le_of_ble_eq_true rfl, (Nat.le_of_ble_eq_true rfl), (Nat.le_of_ble_eq_true rfl)⟩ dL_story_4 (fun X9 S9 hx9 => ?_) (xm_ki (fun r5 S4 h1 => ?_))
  · obtain ⟨rfl, h1⟩ := hx9
    refine x_catch (hh := [(0, 9, 12, 21)]) (pre := []) (suf := []) (a := 0) (b := 9) (hp := 12) (ct := 21) C N th_I_in rfl (fun _ h => absurd h List.not_mem_nil) (by decide) (by decide) gw_791 (fun q9 => ?_)
    refine x_astore_n_w (L' := [(3, xm_w0 q9), (0, xm_r x0), (1, xm_i x1), (2, xm_r x2)]) C dL_story_12 rfl (by decide) rfl ?_
    refine x_iconst (v := (1 : Int32)) C dL_story_13 (by decide) ?_
    exact x_iret C (Nat.le_of_ble_eq_true rfl) (Nat.le_of_ble_eq_true rfl) rfl dL_story_14 (hg _ _ h1)
  · skip
    refine x_i2l C dL_story_7 ?_
    obtain ⟨n6, hr7, h1⟩ := h1
    obtain ⟨z9, ht8, h1⟩ := h1
    obtain ⟨hi10, h1⟩ := h1
    refine x_last (n := n6) C hr7 ht8 hi10 dL_story_8 ?_
    refine x_topS (fun S11 e12 => ?_)
    have h1 := h1 S11 e12
    refine x_goto (tgt := 15) C dL_story_9 (by decide) ?_
    refine x_iconst (v := (0 : Int32)) C dL_story_15 (by decide) ?_
    exact x_iret C (Nat.le_of_ble_eq_true rfl) (Nat.le_of_ble_eq_true rfl) rfl dL_story_16 (hg _ _ h1)
theorem kp_L_story_met {x0 : Option Nat} {x1 : Int32} {x2 : Option Nat} {S : xm_S} {g : Int32 → xm_S → Prop} (h1 : wp_L_story x0 x1 x2 S g) : xm_MetH yL_story cL_story 4 (some (FieldType.int)) [(0, 9, 12, 21)] rm_L_story [xm_r x0, xm_i x1, xm_r x2] S (xm_qi g) xm_nox :=
  xm_ofWH RL (by decide +kernel) rfl (Nat.le_of_ble_eq_true rfl) (fun K C N hq hx => kp_L_story x0 x1 x2 S C N (fun v S h => by rw [hq]; exact ⟨v, rfl, h⟩)  h1)
def rm_L_type : Room := { frames := 7, cells := 1, slots := 6, locals := 125 }
theorem dL_type_0 : decode cL_type 0 = .ok (.aload 4, 2) := by decide +kernel
theorem dL_type_2 : decode cL_type 2 = .ok (.iconst 0, 1) := by decide +kernel
theorem dL_type_3 : decode cL_type 3 = .ok (.aload_n 0, 1) := by decide +kernel
theorem dL_type_4 : decode cL_type 4 = .ok (.lload_n 1, 1) := by decide +kernel
theorem dL_type_5 : decode cL_type 5 = .ok (.iload_n 3, 1) := by decide +kernel
theorem dL_type_6 : decode cL_type 6 = .ok (.invokevirtual 7, 3) := by decide +kernel
theorem dL_type_9 : decode cL_type 9 = .ok (.i2l, 1) := by decide +kernel
theorem dL_type_10 : decode cL_type 10 = .ok (.lastore, 1) := by decide +kernel
theorem dL_type_11 : decode cL_type 11 = .ok (.goto 11, 3) := by decide +kernel
theorem dL_type_14 : decode cL_type 14 = .ok (.astore 5, 2) := by decide +kernel
theorem dL_type_16 : decode cL_type 16 = .ok (.iconst 1, 1) := by decide +kernel
theorem dL_type_17 : decode cL_type 17 = .ok (.ireturn, 1) := by decide +kernel
theorem dL_type_18 : decode cL_type 18 = .ok (.astore 5, 2) := by decide +kernel
theorem dL_type_20 : decode cL_type 20 = .ok (.iconst 2, 1) := by decide +kernel
theorem dL_type_21 : decode cL_type 21 = .ok (.ireturn, 1) := by decide +kernel
theorem dL_type_22 : decode cL_type 22 = .ok (.iconst 0, 1) := by decide +kernel
theorem dL_type_23 : decode cL_type 23 = .ok (.ireturn, 1) := by decide +kernel
def wp_L_type (x0 : Option Nat) (x1 : Int64) (x3 : Int32) (x4 : Option Nat) (S : xm_S) (g : Int32 → xm_S → Prop) : Prop :=
  ∃ n1, x0 = some n1 ∧ st_t S n1 = some (11, 0) ∧ wp_X11_type n1 x1 x3 S (fun r5 S4 => ∃ n6, x4 = some n6 ∧ ∃ z9, st_t S4 n6 = some (103, z9) ∧ vp_in (0 : Int32) z9 ∧ ∀ S11, S11 = st_pl S4 n6 ((0 : Int32)).toNatClampNeg ((r5).toInt64) → g (0 : Int32) S11) (fun X9 S9 => (X9 = xm_eA ∧ g (1 : Int32) S9) ∨ (X9 = xm_eS ∧ g (nI 2) S9))
set_option maxRecDepth 100000 in
set_option maxHeartbeats 4000000 in
theorem kp_L_type {K : xm_K} (x0 : Option Nat) (x1 : Int64) (x3 : Int32) (x4 : Option Nat) (S : xm_S) {g : Int32 → xm_S → Prop} (C : xm_Cx K cL_type RL 6 (some (FieldType.int)) rm_L_type) (N : xm_Hx K [(0, 11, 14, 13), (0, 11, 18, 15)]) (hg : ∀ v S, g v S → xm_q K (some (xm_i v)) S)  (h1 : wp_L_type x0 x1 x3 x4 S g) : xm_W K 0 0 0 [(0, xm_r x0), (1, xm_l x1), (3, xm_i x3), (4, xm_r x4)] [] S := by
  unfold wp_L_type at h1
  refine x_aload C 3 dL_type_0 rfl ?_
  refine x_iconst (v := (0 : Int32)) C dL_type_2 (by decide) ?_
  refine x_aload_n C 0 dL_type_3 rfl rfl ?_
  refine x_lload_n C 1 dL_type_4 rfl rfl ?_
  refine x_iload_n C 2 dL_type_5 rfl rfl ?_
  obtain ⟨n1, hr2, h1⟩ := h1
  obtain ⟨ht3, h1⟩ := h1
  refine x_callV (rm' := rm_X11_type) (n := n1) C (kp_X11_type_met h1) lk_165 gw_912 gw_913 xv_11 rfl hr2 ht3 rfl (Nat.le_of_ble_eq_true rfl) ⟨Nat.le_of_ble_eq_true rfl, Nat.le_of_ble_eq_true rfl, (Nat.le_of_ble_eq_true rfl), (Nat.le_of_ble_eq_true rfl)⟩ dL_type_6 (fun X9 S9 hx9 => ?_) (xm_ki (fun r5 S4 h1 => ?_))
  · rcases hx9 with ⟨rfl, h1⟩ | ⟨rfl, h1⟩
    · refine x_catch (hh := [(0, 11, 14, 13), (0, 11, 18, 15)]) (pre := []) (suf := [(0, 11, 18, 15)]) (a := 0) (b := 11) (hp := 14) (ct := 13) C N th_A_in rfl (fun _ h => absurd h List.not_mem_nil) (by decide) (by decide) gw_792 (fun q9 => ?_)
      refine x_astore_w (L' := [(5, xm_w0 q9), (0, xm_r x0), (1, xm_l x1), (3, xm_i x3), (4, xm_r x4)]) C dL_type_14 (by decide) rfl ?_
      refine x_iconst (v := (1 : Int32)) C dL_type_16 (by decide) ?_
      exact x_iret C (Nat.le_of_ble_eq_true rfl) (Nat.le_of_ble_eq_true rfl) rfl dL_type_17 (hg _ _ h1)
    · refine x_catch (hh := [(0, 11, 14, 13), (0, 11, 18, 15)]) (pre := [(0, 11, 14, 13)]) (suf := []) (a := 0) (b := 11) (hp := 18) (ct := 15) C N th_S_in rfl (List.forall_mem_cons.mpr ⟨⟨by decide, xm_eA, th_A_in, by decide +kernel, gw_792⟩, fun _ h => absurd h List.not_mem_nil⟩) (by decide) (by decide) gw_793 (fun q9 => ?_)
      refine x_astore_w (L' := [(5, xm_w0 q9), (0, xm_r x0), (1, xm_l x1), (3, xm_i x3), (4, xm_r x4)]) C dL_type_18 (by decide) rfl ?_
      refine x_iconst (v := (nI 2)) C dL_type_20 (by decide) ?_
      exact x_iret C (Nat.le_of_ble_eq_true rfl) (Nat.le_of_ble_eq_true rfl) rfl dL_type_21 (hg _ _ h1)
  · skip
    refine x_i2l C dL_type_9 ?_
    obtain ⟨n6, hr7, h1⟩ := h1
    obtain ⟨z9, ht8, h1⟩ := h1
    obtain ⟨hi10, h1⟩ := h1
    refine x_last (n := n6) C hr7 ht8 hi10 dL_type_10 ?_
    refine x_topS (fun S11 e12 => ?_)
    have h1 := h1 S11 e12
    refine x_goto (tgt := 22) C dL_type_11 (by decide) ?_
    refine x_iconst (v := (0 : Int32)) C dL_type_22 (by decide) ?_
    exact x_iret C (Nat.le_of_ble_eq_true rfl) (Nat.le_of_ble_eq_true rfl) rfl dL_type_23 (hg _ _ h1)
theorem kp_L_type_met {x0 : Option Nat} {x1 : Int64} {x3 : Int32} {x4 : Option Nat} {S : xm_S} {g : Int32 → xm_S → Prop} (h1 : wp_L_type x0 x1 x3 x4 S g) : xm_MetH yL_type cL_type 6 (some (FieldType.int)) [(0, 11, 14, 13), (0, 11, 18, 15)] rm_L_type [xm_r x0, xm_l x1, xm_i x3, xm_r x4] S (xm_qi g) xm_nox :=
  xm_ofWH RL (by decide +kernel) rfl (Nat.le_of_ble_eq_true rfl) (fun K C N hq hx => kp_L_type x0 x1 x3 x4 S C N (fun v S h => by rw [hq]; exact ⟨v, rfl, h⟩)  h1)
def rm_L_version : Room := { frames := 8, cells := 15, slots := 76, locals := 148 }
theorem dL_version_0 : decode cL_version 0 = .ok (.aload 6, 2) := by decide +kernel
theorem dL_version_2 : decode cL_version 2 = .ok (.iconst 0, 1) := by decide +kernel
theorem dL_version_3 : decode cL_version 3 = .ok (.aload_n 0, 1) := by decide +kernel
theorem dL_version_4 : decode cL_version 4 = .ok (.iload_n 1, 1) := by decide +kernel
theorem dL_version_5 : decode cL_version 5 = .ok (.iload_n 2, 1) := by decide +kernel
theorem dL_version_6 : decode cL_version 6 = .ok (.iload_n 3, 1) := by decide +kernel
theorem dL_version_7 : decode cL_version 7 = .ok (.iload 4, 2) := by decide +kernel
theorem dL_version_9 : decode cL_version 9 = .ok (.iload 5, 2) := by decide +kernel
theorem dL_version_11 : decode cL_version 11 = .ok (.invokevirtual 23, 3) := by decide +kernel
theorem dL_version_14 : decode cL_version 14 = .ok (.i2l, 1) := by decide +kernel
theorem dL_version_15 : decode cL_version 15 = .ok (.lastore, 1) := by decide +kernel
theorem dL_version_16 : decode cL_version 16 = .ok (.goto 15, 3) := by decide +kernel
theorem dL_version_19 : decode cL_version 19 = .ok (.astore 7, 2) := by decide +kernel
theorem dL_version_21 : decode cL_version 21 = .ok (.iconst 1, 1) := by decide +kernel
theorem dL_version_22 : decode cL_version 22 = .ok (.ireturn, 1) := by decide +kernel
theorem dL_version_23 : decode cL_version 23 = .ok (.astore 7, 2) := by decide +kernel
theorem dL_version_25 : decode cL_version 25 = .ok (.iconst 2, 1) := by decide +kernel
theorem dL_version_26 : decode cL_version 26 = .ok (.ireturn, 1) := by decide +kernel
theorem dL_version_27 : decode cL_version 27 = .ok (.astore 7, 2) := by decide +kernel
theorem dL_version_29 : decode cL_version 29 = .ok (.iconst 3, 1) := by decide +kernel
theorem dL_version_30 : decode cL_version 30 = .ok (.ireturn, 1) := by decide +kernel
theorem dL_version_31 : decode cL_version 31 = .ok (.iconst 0, 1) := by decide +kernel
theorem dL_version_32 : decode cL_version 32 = .ok (.ireturn, 1) := by decide +kernel
def wp_L_version (x0 : Option Nat) (x1 : Int32) (x2 : Int32) (x3 : Int32) (x4 : Int32) (x5 : Int32) (x6 : Option Nat) (S : xm_S) (g : Int32 → xm_S → Prop) : Prop :=
  ∃ n1, x0 = some n1 ∧ st_t S n1 = some (11, 0) ∧ wp_X11_version n1 x1 x2 x3 x4 x5 S (fun r5 S4 => ∃ n6, x6 = some n6 ∧ ∃ z9, st_t S4 n6 = some (103, z9) ∧ vp_in (0 : Int32) z9 ∧ ∀ S11, S11 = st_pl S4 n6 ((0 : Int32)).toNatClampNeg ((r5).toInt64) → g (0 : Int32) S11) (fun X9 S9 => (X9 = xm_eI ∧ g (1 : Int32) S9) ∨ (X9 = xm_eA ∧ g (nI 2) S9) ∨ (X9 = xm_eS ∧ g (nI 3) S9))
set_option maxRecDepth 100000 in
set_option maxHeartbeats 4000000 in
theorem kp_L_version {K : xm_K} (x0 : Option Nat) (x1 : Int32) (x2 : Int32) (x3 : Int32) (x4 : Int32) (x5 : Int32) (x6 : Option Nat) (S : xm_S) {g : Int32 → xm_S → Prop} (C : xm_Cx K cL_version RL 8 (some (FieldType.int)) rm_L_version) (N : xm_Hx K [(0, 16, 19, 21), (0, 16, 23, 13), (0, 16, 27, 15)]) (hg : ∀ v S, g v S → xm_q K (some (xm_i v)) S)  (h1 : wp_L_version x0 x1 x2 x3 x4 x5 x6 S g) : xm_W K 0 0 0 [(0, xm_r x0), (1, xm_i x1), (2, xm_i x2), (3, xm_i x3), (4, xm_i x4), (5, xm_i x5), (6, xm_r x6)] [] S := by
  unfold wp_L_version at h1
  refine x_aload C 6 dL_version_0 rfl ?_
  refine x_iconst (v := (0 : Int32)) C dL_version_2 (by decide) ?_
  refine x_aload_n C 0 dL_version_3 rfl rfl ?_
  refine x_iload_n C 1 dL_version_4 rfl rfl ?_
  refine x_iload_n C 2 dL_version_5 rfl rfl ?_
  refine x_iload_n C 3 dL_version_6 rfl rfl ?_
  refine x_iload C 4 dL_version_7 rfl ?_
  refine x_iload C 5 dL_version_9 rfl ?_
  obtain ⟨n1, hr2, h1⟩ := h1
  obtain ⟨ht3, h1⟩ := h1
  refine x_callV (rm' := rm_X11_version) (n := n1) C (kp_X11_version_met h1) lk_166 gw_916 gw_917 xv_11 rfl hr2 ht3 rfl (Nat.le_of_ble_eq_true rfl) ⟨Nat.le_of_ble_eq_true rfl, Nat.le_of_ble_eq_true rfl, (Nat.le_of_ble_eq_true rfl), (Nat.le_of_ble_eq_true rfl)⟩ dL_version_11 (fun X9 S9 hx9 => ?_) (xm_ki (fun r5 S4 h1 => ?_))
  · rcases hx9 with ⟨rfl, h1⟩ | ⟨rfl, h1⟩ | ⟨rfl, h1⟩
    · refine x_catch (hh := [(0, 16, 19, 21), (0, 16, 23, 13), (0, 16, 27, 15)]) (pre := []) (suf := [(0, 16, 23, 13), (0, 16, 27, 15)]) (a := 0) (b := 16) (hp := 19) (ct := 21) C N th_I_in rfl (fun _ h => absurd h List.not_mem_nil) (by decide) (by decide) gw_791 (fun q9 => ?_)
      refine x_astore_w (L' := [(7, xm_w0 q9), (0, xm_r x0), (1, xm_i x1), (2, xm_i x2), (3, xm_i x3), (4, xm_i x4), (5, xm_i x5), (6, xm_r x6)]) C dL_version_19 (by decide) rfl ?_
      refine x_iconst (v := (1 : Int32)) C dL_version_21 (by decide) ?_
      exact x_iret C (Nat.le_of_ble_eq_true rfl) (Nat.le_of_ble_eq_true rfl) rfl dL_version_22 (hg _ _ h1)
    · refine x_catch (hh := [(0, 16, 19, 21), (0, 16, 23, 13), (0, 16, 27, 15)]) (pre := [(0, 16, 19, 21)]) (suf := [(0, 16, 27, 15)]) (a := 0) (b := 16) (hp := 23) (ct := 13) C N th_A_in rfl (List.forall_mem_cons.mpr ⟨⟨by decide, xm_eI, th_I_in, by decide +kernel, gw_791⟩, fun _ h => absurd h List.not_mem_nil⟩) (by decide) (by decide) gw_792 (fun q9 => ?_)
      refine x_astore_w (L' := [(7, xm_w0 q9), (0, xm_r x0), (1, xm_i x1), (2, xm_i x2), (3, xm_i x3), (4, xm_i x4), (5, xm_i x5), (6, xm_r x6)]) C dL_version_23 (by decide) rfl ?_
      refine x_iconst (v := (nI 2)) C dL_version_25 (by decide) ?_
      exact x_iret C (Nat.le_of_ble_eq_true rfl) (Nat.le_of_ble_eq_true rfl) rfl dL_version_26 (hg _ _ h1)
    · refine x_catch (hh := [(0, 16, 19, 21), (0, 16, 23, 13), (0, 16, 27, 15)]) (pre := [(0, 16, 19, 21), (0, 16, 23, 13)]) (suf := []) (a := 0) (b := 16) (hp := 27) (ct := 15) C N th_S_in rfl (List.forall_mem_cons.mpr ⟨⟨by decide, xm_eI, th_I_in, by decide +kernel, gw_791⟩, List.forall_mem_cons.mpr ⟨⟨by decide, xm_eA, th_A_in, by decide +kernel, gw_792⟩, fun _ h => absurd h List.not_mem_nil⟩⟩) (by decide) (by decide) gw_793 (fun q9 => ?_)
      refine x_astore_w (L' := [(7, xm_w0 q9), (0, xm_r x0), (1, xm_i x1), (2, xm_i x2), (3, xm_i x3), (4, xm_i x4), (5, xm_i x5), (6, xm_r x6)]) C dL_version_27 (by decide) rfl ?_
      refine x_iconst (v := (nI 3)) C dL_version_29 (by decide) ?_
      exact x_iret C (Nat.le_of_ble_eq_true rfl) (Nat.le_of_ble_eq_true rfl) rfl dL_version_30 (hg _ _ h1)
  · skip
    refine x_i2l C dL_version_14 ?_
    obtain ⟨n6, hr7, h1⟩ := h1
    obtain ⟨z9, ht8, h1⟩ := h1
    obtain ⟨hi10, h1⟩ := h1
    refine x_last (n := n6) C hr7 ht8 hi10 dL_version_15 ?_
    refine x_topS (fun S11 e12 => ?_)
    have h1 := h1 S11 e12
    refine x_goto (tgt := 31) C dL_version_16 (by decide) ?_
    refine x_iconst (v := (0 : Int32)) C dL_version_31 (by decide) ?_
    exact x_iret C (Nat.le_of_ble_eq_true rfl) (Nat.le_of_ble_eq_true rfl) rfl dL_version_32 (hg _ _ h1)
theorem kp_L_version_met {x0 : Option Nat} {x1 : Int32} {x2 : Int32} {x3 : Int32} {x4 : Int32} {x5 : Int32} {x6 : Option Nat} {S : xm_S} {g : Int32 → xm_S → Prop} (h1 : wp_L_version x0 x1 x2 x3 x4 x5 x6 S g) : xm_MetH yL_version cL_version 8 (some (FieldType.int)) [(0, 16, 19, 21), (0, 16, 23, 13), (0, 16, 27, 15)] rm_L_version [xm_r x0, xm_i x1, xm_i x2, xm_i x3, xm_i x4, xm_i x5, xm_r x6] S (xm_qi g) xm_nox :=
  xm_ofWH RL (by decide +kernel) rfl (Nat.le_of_ble_eq_true rfl) (fun K C N hq hx => kp_L_version x0 x1 x2 x3 x4 x5 x6 S C N (fun v S h => by rw [hq]; exact ⟨v, rfl, h⟩)  h1)
def rm_L_wish : Room := { frames := 8, cells := 135, slots := 480, locals := 173 }
theorem dL_wish_0 : decode cL_wish 0 = .ok (.aload_n 3, 1) := by decide +kernel
theorem dL_wish_1 : decode cL_wish 1 = .ok (.iconst 0, 1) := by decide +kernel
theorem dL_wish_2 : decode cL_wish 2 = .ok (.aload_n 0, 1) := by decide +kernel
theorem dL_wish_3 : decode cL_wish 3 = .ok (.iload_n 1, 1) := by decide +kernel
theorem dL_wish_4 : decode cL_wish 4 = .ok (.iload_n 2, 1) := by decide +kernel
theorem dL_wish_5 : decode cL_wish 5 = .ok (.invokevirtual 50, 3) := by decide +kernel
theorem dL_wish_8 : decode cL_wish 8 = .ok (.i2l, 1) := by decide +kernel
theorem dL_wish_9 : decode cL_wish 9 = .ok (.lastore, 1) := by decide +kernel
theorem dL_wish_10 : decode cL_wish 10 = .ok (.goto 15, 3) := by decide +kernel
theorem dL_wish_13 : decode cL_wish 13 = .ok (.astore 4, 2) := by decide +kernel
theorem dL_wish_15 : decode cL_wish 15 = .ok (.iconst 1, 1) := by decide +kernel
theorem dL_wish_16 : decode cL_wish 16 = .ok (.ireturn, 1) := by decide +kernel
theorem dL_wish_17 : decode cL_wish 17 = .ok (.astore 4, 2) := by decide +kernel
theorem dL_wish_19 : decode cL_wish 19 = .ok (.iconst 2, 1) := by decide +kernel
theorem dL_wish_20 : decode cL_wish 20 = .ok (.ireturn, 1) := by decide +kernel
theorem dL_wish_21 : decode cL_wish 21 = .ok (.astore 4, 2) := by decide +kernel
theorem dL_wish_23 : decode cL_wish 23 = .ok (.iconst 3, 1) := by decide +kernel
theorem dL_wish_24 : decode cL_wish 24 = .ok (.ireturn, 1) := by decide +kernel
theorem dL_wish_25 : decode cL_wish 25 = .ok (.iconst 0, 1) := by decide +kernel
theorem dL_wish_26 : decode cL_wish 26 = .ok (.ireturn, 1) := by decide +kernel
def wp_L_wish (x0 : Option Nat) (x1 : Int32) (x2 : Int32) (x3 : Option Nat) (S : xm_S) (g : Int32 → xm_S → Prop) : Prop :=
  ∃ n1, x0 = some n1 ∧ st_t S n1 = some (11, 0) ∧ wp_X11_wish n1 x1 x2 S (fun r5 S4 => ∃ n6, x3 = some n6 ∧ ∃ z9, st_t S4 n6 = some (103, z9) ∧ vp_in (0 : Int32) z9 ∧ ∀ S11, S11 = st_pl S4 n6 ((0 : Int32)).toNatClampNeg ((r5).toInt64) → g (0 : Int32) S11) (fun X9 S9 => (X9 = xm_eI ∧ g (1 : Int32) S9) ∨ (X9 = xm_eA ∧ g (nI 2) S9) ∨ (X9 = xm_eS ∧ g (nI 3) S9))
set_option maxRecDepth 100000 in
set_option maxHeartbeats 4000000 in
theorem kp_L_wish {K : xm_K} (x0 : Option Nat) (x1 : Int32) (x2 : Int32) (x3 : Option Nat) (S : xm_S) {g : Int32 → xm_S → Prop} (C : xm_Cx K cL_wish RL 5 (some (FieldType.int)) rm_L_wish) (N : xm_Hx K [(0, 10, 13, 21), (0, 10, 17, 13), (0, 10, 21, 15)]) (hg : ∀ v S, g v S → xm_q K (some (xm_i v)) S)  (h1 : wp_L_wish x0 x1 x2 x3 S g) : xm_W K 0 0 0 [(0, xm_r x0), (1, xm_i x1), (2, xm_i x2), (3, xm_r x3)] [] S := by
  unfold wp_L_wish at h1
  refine x_aload_n C 3 dL_wish_0 rfl rfl ?_
  refine x_iconst (v := (0 : Int32)) C dL_wish_1 (by decide) ?_
  refine x_aload_n C 0 dL_wish_2 rfl rfl ?_
  refine x_iload_n C 1 dL_wish_3 rfl rfl ?_
  refine x_iload_n C 2 dL_wish_4 rfl rfl ?_
  obtain ⟨n1, hr2, h1⟩ := h1
  obtain ⟨ht3, h1⟩ := h1
  refine x_callV (rm' := rm_X11_wish) (n := n1) C (kp_X11_wish_met h1) lk_167 gw_920 gw_921 xv_11 rfl hr2 ht3 rfl (Nat.le_of_ble_eq_true rfl) ⟨Nat.le_of_ble_eq_true rfl, Nat.le_of_ble_eq_true rfl, (Nat.le_of_ble_eq_true rfl), (Nat.le_of_ble_eq_true rfl)⟩ dL_wish_5 (fun X9 S9 hx9 => ?_) (xm_ki (fun r5 S4 h1 => ?_))
  · rcases hx9 with ⟨rfl, h1⟩ | ⟨rfl, h1⟩ | ⟨rfl, h1⟩
    · refine x_catch (hh := [(0, 10, 13, 21), (0, 10, 17, 13), (0, 10, 21, 15)]) (pre := []) (suf := [(0, 10, 17, 13), (0, 10, 21, 15)]) (a := 0) (b := 10) (hp := 13) (ct := 21) C N th_I_in rfl (fun _ h => absurd h List.not_mem_nil) (by decide) (by decide) gw_791 (fun q9 => ?_)
      refine x_astore_w (L' := [(4, xm_w0 q9), (0, xm_r x0), (1, xm_i x1), (2, xm_i x2), (3, xm_r x3)]) C dL_wish_13 (by decide) rfl ?_
      refine x_iconst (v := (1 : Int32)) C dL_wish_15 (by decide) ?_
      exact x_iret C (Nat.le_of_ble_eq_true rfl) (Nat.le_of_ble_eq_true rfl) rfl dL_wish_16 (hg _ _ h1)
    · refine x_catch (hh := [(0, 10, 13, 21), (0, 10, 17, 13), (0, 10, 21, 15)]) (pre := [(0, 10, 13, 21)]) (suf := [(0, 10, 21, 15)]) (a := 0) (b := 10) (hp := 17) (ct := 13) C N th_A_in rfl (List.forall_mem_cons.mpr ⟨⟨by decide, xm_eI, th_I_in, by decide +kernel, gw_791⟩, fun _ h => absurd h List.not_mem_nil⟩) (by decide) (by decide) gw_792 (fun q9 => ?_)
      refine x_astore_w (L' := [(4, xm_w0 q9), (0, xm_r x0), (1, xm_i x1), (2, xm_i x2), (3, xm_r x3)]) C dL_wish_17 (by decide) rfl ?_
      refine x_iconst (v := (nI 2)) C dL_wish_19 (by decide) ?_
      exact x_iret C (Nat.le_of_ble_eq_true rfl) (Nat.le_of_ble_eq_true rfl) rfl dL_wish_20 (hg _ _ h1)
    · refine x_catch (hh := [(0, 10, 13, 21), (0, 10, 17, 13), (0, 10, 21, 15)]) (pre := [(0, 10, 13, 21), (0, 10, 17, 13)]) (suf := []) (a := 0) (b := 10) (hp := 21) (ct := 15) C N th_S_in rfl (List.forall_mem_cons.mpr ⟨⟨by decide, xm_eI, th_I_in, by decide +kernel, gw_791⟩, List.forall_mem_cons.mpr ⟨⟨by decide, xm_eA, th_A_in, by decide +kernel, gw_792⟩, fun _ h => absurd h List.not_mem_nil⟩⟩) (by decide) (by decide) gw_793 (fun q9 => ?_)
      refine x_astore_w (L' := [(4, xm_w0 q9), (0, xm_r x0), (1, xm_i x1), (2, xm_i x2), (3, xm_r x3)]) C dL_wish_21 (by decide) rfl ?_
      refine x_iconst (v := (nI 3)) C dL_wish_23 (by decide) ?_
      exact x_iret C (Nat.le_of_ble_eq_true rfl) (Nat.le_of_ble_eq_true rfl) rfl dL_wish_24 (hg _ _ h1)
  · skip
    refine x_i2l C dL_wish_8 ?_
    obtain ⟨n6, hr7, h1⟩ := h1
    obtain ⟨z9, ht8, h1⟩ := h1
    obtain ⟨hi10, h1⟩ := h1
    refine x_last (n := n6) C hr7 ht8 hi10 dL_wish_9 ?_
    refine x_topS (fun S11 e12 => ?_)
    have h1 := h1 S11 e12
    refine x_goto (tgt := 25) C dL_wish_10 (by decide) ?_
    refine x_iconst (v := (0 : Int32)) C dL_wish_25 (by decide) ?_
    exact x_iret C (Nat.le_of_ble_eq_true rfl) (Nat.le_of_ble_eq_true rfl) rfl dL_wish_26 (hg _ _ h1)
theorem kp_L_wish_met {x0 : Option Nat} {x1 : Int32} {x2 : Int32} {x3 : Option Nat} {S : xm_S} {g : Int32 → xm_S → Prop} (h1 : wp_L_wish x0 x1 x2 x3 S g) : xm_MetH yL_wish cL_wish 5 (some (FieldType.int)) [(0, 10, 13, 21), (0, 10, 17, 13), (0, 10, 21, 15)] rm_L_wish [xm_r x0, xm_i x1, xm_i x2, xm_r x3] S (xm_qi g) xm_nox :=
  xm_ofWH RL (by decide +kernel) rfl (Nat.le_of_ble_eq_true rfl) (fun K C N hq hx => kp_L_wish x0 x1 x2 x3 S C N (fun v S h => by rw [hq]; exact ⟨v, rfl, h⟩)  h1)
def rm_L_within : Room := { frames := 8, cells := 132, slots := 462, locals := 175 }
theorem dL_within_0 : decode cL_within 0 = .ok (.aload_n 2, 1) := by decide +kernel
theorem dL_within_1 : decode cL_within 1 = .ok (.iconst 0, 1) := by decide +kernel
theorem dL_within_2 : decode cL_within 2 = .ok (.aload_n 0, 1) := by decide +kernel
theorem dL_within_3 : decode cL_within 3 = .ok (.iload_n 1, 1) := by decide +kernel
theorem dL_within_4 : decode cL_within 4 = .ok (.invokevirtual 46, 3) := by decide +kernel
theorem dL_within_7 : decode cL_within 7 = .ok (.i2l, 1) := by decide +kernel
theorem dL_within_8 : decode cL_within 8 = .ok (.lastore, 1) := by decide +kernel
theorem dL_within_9 : decode cL_within 9 = .ok (.goto 9, 3) := by decide +kernel
theorem dL_within_12 : decode cL_within 12 = .ok (.astore_n 3, 1) := by decide +kernel
theorem dL_within_13 : decode cL_within 13 = .ok (.iconst 1, 1) := by decide +kernel
theorem dL_within_14 : decode cL_within 14 = .ok (.ireturn, 1) := by decide +kernel
theorem dL_within_15 : decode cL_within 15 = .ok (.astore_n 3, 1) := by decide +kernel
theorem dL_within_16 : decode cL_within 16 = .ok (.iconst 2, 1) := by decide +kernel
theorem dL_within_17 : decode cL_within 17 = .ok (.ireturn, 1) := by decide +kernel
theorem dL_within_18 : decode cL_within 18 = .ok (.iconst 0, 1) := by decide +kernel
theorem dL_within_19 : decode cL_within 19 = .ok (.ireturn, 1) := by decide +kernel
def wp_L_within (x0 : Option Nat) (x1 : Int32) (x2 : Option Nat) (S : xm_S) (g : Int32 → xm_S → Prop) : Prop :=
  ∃ n1, x0 = some n1 ∧ st_t S n1 = some (11, 0) ∧ wp_X11_within n1 x1 S (fun r5 S4 => ∃ n6, x2 = some n6 ∧ ∃ z9, st_t S4 n6 = some (103, z9) ∧ vp_in (0 : Int32) z9 ∧ ∀ S11, S11 = st_pl S4 n6 ((0 : Int32)).toNatClampNeg ((r5).toInt64) → g (0 : Int32) S11) (fun X9 S9 => (X9 = xm_eI ∧ g (1 : Int32) S9) ∨ (X9 = xm_eA ∧ g (nI 2) S9))
set_option maxRecDepth 100000 in
set_option maxHeartbeats 4000000 in
theorem kp_L_within {K : xm_K} (x0 : Option Nat) (x1 : Int32) (x2 : Option Nat) (S : xm_S) {g : Int32 → xm_S → Prop} (C : xm_Cx K cL_within RL 4 (some (FieldType.int)) rm_L_within) (N : xm_Hx K [(0, 9, 12, 21), (0, 9, 15, 13)]) (hg : ∀ v S, g v S → xm_q K (some (xm_i v)) S)  (h1 : wp_L_within x0 x1 x2 S g) : xm_W K 0 0 0 [(0, xm_r x0), (1, xm_i x1), (2, xm_r x2)] [] S := by
  unfold wp_L_within at h1
  refine x_aload_n C 2 dL_within_0 rfl rfl ?_
  refine x_iconst (v := (0 : Int32)) C dL_within_1 (by decide) ?_
  refine x_aload_n C 0 dL_within_2 rfl rfl ?_
  refine x_iload_n C 1 dL_within_3 rfl rfl ?_
  obtain ⟨n1, hr2, h1⟩ := h1
  obtain ⟨ht3, h1⟩ := h1
  refine x_callV (rm' := rm_X11_within) (n := n1) C (kp_X11_within_met h1) lk_168 gw_924 gw_925 xv_11 rfl hr2 ht3 rfl (Nat.le_of_ble_eq_true rfl) ⟨Nat.le_of_ble_eq_true rfl, Nat.le_of_ble_eq_true rfl, (Nat.le_of_ble_eq_true rfl), (Nat.le_of_ble_eq_true rfl)⟩ dL_within_4 (fun X9 S9 hx9 => ?_) (xm_ki (fun r5 S4 h1 => ?_))
  · rcases hx9 with ⟨rfl, h1⟩ | ⟨rfl, h1⟩
    · refine x_catch (hh := [(0, 9, 12, 21), (0, 9, 15, 13)]) (pre := []) (suf := [(0, 9, 15, 13)]) (a := 0) (b := 9) (hp := 12) (ct := 21) C N th_I_in rfl (fun _ h => absurd h List.not_mem_nil) (by decide) (by decide) gw_791 (fun q9 => ?_)
      refine x_astore_n_w (L' := [(3, xm_w0 q9), (0, xm_r x0), (1, xm_i x1), (2, xm_r x2)]) C dL_within_12 rfl (by decide) rfl ?_
      refine x_iconst (v := (1 : Int32)) C dL_within_13 (by decide) ?_
      exact x_iret C (Nat.le_of_ble_eq_true rfl) (Nat.le_of_ble_eq_true rfl) rfl dL_within_14 (hg _ _ h1)
    · refine x_catch (hh := [(0, 9, 12, 21), (0, 9, 15, 13)]) (pre := [(0, 9, 12, 21)]) (suf := []) (a := 0) (b := 9) (hp := 15) (ct := 13) C N th_A_in rfl (List.forall_mem_cons.mpr ⟨⟨by decide, xm_eI, th_I_in, by decide +kernel, gw_791⟩, fun _ h => absurd h List.not_mem_nil⟩) (by decide) (by decide) gw_792 (fun q9 => ?_)
      refine x_astore_n_w (L' := [(3, xm_w0 q9), (0, xm_r x0), (1, xm_i x1), (2, xm_r x2)]) C dL_within_15 rfl (by decide) rfl ?_
      refine x_iconst (v := (nI 2)) C dL_within_16 (by decide) ?_
      exact x_iret C (Nat.le_of_ble_eq_true rfl) (Nat.le_of_ble_eq_true rfl) rfl dL_within_17 (hg _ _ h1)
  · skip
    refine x_i2l C dL_within_7 ?_
    obtain ⟨n6, hr7, h1⟩ := h1
    obtain ⟨z9, ht8, h1⟩ := h1
    obtain ⟨hi10, h1⟩ := h1
    refine x_last (n := n6) C hr7 ht8 hi10 dL_within_8 ?_
    refine x_topS (fun S11 e12 => ?_)
    have h1 := h1 S11 e12
    refine x_goto (tgt := 18) C dL_within_9 (by decide) ?_
    refine x_iconst (v := (0 : Int32)) C dL_within_18 (by decide) ?_
    exact x_iret C (Nat.le_of_ble_eq_true rfl) (Nat.le_of_ble_eq_true rfl) rfl dL_within_19 (hg _ _ h1)
theorem kp_L_within_met {x0 : Option Nat} {x1 : Int32} {x2 : Option Nat} {S : xm_S} {g : Int32 → xm_S → Prop} (h1 : wp_L_within x0 x1 x2 S g) : xm_MetH yL_within cL_within 4 (some (FieldType.int)) [(0, 9, 12, 21), (0, 9, 15, 13)] rm_L_within [xm_r x0, xm_i x1, xm_r x2] S (xm_qi g) xm_nox :=
  xm_ofWH RL (by decide +kernel) rfl (Nat.le_of_ble_eq_true rfl) (fun K C N hq hx => kp_L_within x0 x1 x2 S C N (fun v S h => by rw [hq]; exact ⟨v, rfl, h⟩)  h1)
def rm_L_yank : Room := { frames := 9, cells := 2, slots := 12, locals := 167 }
theorem dL_yank_0 : decode cL_yank 0 = .ok (.aload 4, 2) := by decide +kernel
theorem dL_yank_2 : decode cL_yank 2 = .ok (.iconst 0, 1) := by decide +kernel
theorem dL_yank_3 : decode cL_yank 3 = .ok (.aload_n 0, 1) := by decide +kernel
theorem dL_yank_4 : decode cL_yank 4 = .ok (.iload_n 1, 1) := by decide +kernel
theorem dL_yank_5 : decode cL_yank 5 = .ok (.iload_n 2, 1) := by decide +kernel
theorem dL_yank_6 : decode cL_yank 6 = .ok (.iload_n 3, 1) := by decide +kernel
theorem dL_yank_7 : decode cL_yank 7 = .ok (.invokevirtual 39, 3) := by decide +kernel
theorem dL_yank_10 : decode cL_yank 10 = .ok (.ifCond .eq 7, 3) := by decide +kernel
theorem dL_yank_13 : decode cL_yank 13 = .ok (.lconst 1, 1) := by decide +kernel
theorem dL_yank_14 : decode cL_yank 14 = .ok (.goto 4, 3) := by decide +kernel
theorem dL_yank_17 : decode cL_yank 17 = .ok (.lconst 0, 1) := by decide +kernel
theorem dL_yank_18 : decode cL_yank 18 = .ok (.lastore, 1) := by decide +kernel
theorem dL_yank_19 : decode cL_yank 19 = .ok (.goto 7, 3) := by decide +kernel
theorem dL_yank_22 : decode cL_yank 22 = .ok (.astore 5, 2) := by decide +kernel
theorem dL_yank_24 : decode cL_yank 24 = .ok (.iconst 1, 1) := by decide +kernel
theorem dL_yank_25 : decode cL_yank 25 = .ok (.ireturn, 1) := by decide +kernel
theorem dL_yank_26 : decode cL_yank 26 = .ok (.iconst 0, 1) := by decide +kernel
theorem dL_yank_27 : decode cL_yank 27 = .ok (.ireturn, 1) := by decide +kernel
def wp_L_yank_18 (s0 : Int64) (s1 : Int32) (s2 : Option Nat) (S : xm_S) (g : Int32 → xm_S → Prop) : Prop :=
  ∃ n1, s2 = some n1 ∧ ∃ z4, st_t S n1 = some (103, z4) ∧ vp_in s1 z4 ∧ ∀ S6, S6 = st_pl S n1 (s1).toNatClampNeg s0 → g (0 : Int32) S6
set_option maxRecDepth 100000 in
set_option maxHeartbeats 4000000 in
theorem kp_L_yank_18 {K : xm_K} (s0 : Int64) (s1 : Int32) (s2 : Option Nat) (S : xm_S) {g : Int32 → xm_S → Prop} (C : xm_Cx K cL_yank RL 6 (some (FieldType.int)) rm_L_yank) (N : xm_Hx K [(0, 19, 22, 21)]) (hg : ∀ v S, g v S → xm_q K (some (xm_i v)) S)  (h1 : wp_L_yank_18 s0 s1 s2 S g) : xm_W K 2 12 18 [] [xm_l s0, xm_i s1, xm_r s2] S := by
  unfold wp_L_yank_18 at h1
  obtain ⟨n1, hr2, h1⟩ := h1
  obtain ⟨z4, ht3, h1⟩ := h1
  obtain ⟨hi5, h1⟩ := h1
  refine x_last (n := n1) C hr2 ht3 hi5 dL_yank_18 ?_
  refine x_topS (fun S6 e7 => ?_)
  have h1 := h1 S6 e7
  refine x_goto (tgt := 26) C dL_yank_19 (by decide) ?_
  refine x_iconst (v := (0 : Int32)) C dL_yank_26 (by decide) ?_
  exact x_iret C (Nat.le_of_ble_eq_true rfl) (Nat.le_of_ble_eq_true rfl) rfl dL_yank_27 (hg _ _ h1)
def wp_L_yank (x0 : Option Nat) (x1 : Int32) (x2 : Int32) (x3 : Int32) (x4 : Option Nat) (S : xm_S) (g : Int32 → xm_S → Prop) : Prop :=
  ∃ n8, x0 = some n8 ∧ st_t S n8 = some (11, 0) ∧ wp_X11_yank n8 x1 x2 x3 S (fun r12 S11 => (r12 = 0 → wp_L_yank_18 (0 : Int64) (0 : Int32) x4 S11 g) ∧ (¬ r12 = 0 → wp_L_yank_18 (1 : Int64) (0 : Int32) x4 S11 g)) (fun X9 S9 => (X9 = xm_eI ∧ g (1 : Int32) S9))
set_option maxRecDepth 100000 in
set_option maxHeartbeats 4000000 in
theorem kp_L_yank {K : xm_K} (x0 : Option Nat) (x1 : Int32) (x2 : Int32) (x3 : Int32) (x4 : Option Nat) (S : xm_S) {g : Int32 → xm_S → Prop} (C : xm_Cx K cL_yank RL 6 (some (FieldType.int)) rm_L_yank) (N : xm_Hx K [(0, 19, 22, 21)]) (hg : ∀ v S, g v S → xm_q K (some (xm_i v)) S)  (h1 : wp_L_yank x0 x1 x2 x3 x4 S g) : xm_W K 0 0 0 [(0, xm_r x0), (1, xm_i x1), (2, xm_i x2), (3, xm_i x3), (4, xm_r x4)] [] S := by
  unfold wp_L_yank at h1
  refine x_aload C 4 dL_yank_0 rfl ?_
  refine x_iconst (v := (0 : Int32)) C dL_yank_2 (by decide) ?_
  refine x_aload_n C 0 dL_yank_3 rfl rfl ?_
  refine x_iload_n C 1 dL_yank_4 rfl rfl ?_
  refine x_iload_n C 2 dL_yank_5 rfl rfl ?_
  refine x_iload_n C 3 dL_yank_6 rfl rfl ?_
  obtain ⟨n8, hr9, h1⟩ := h1
  obtain ⟨ht10, h1⟩ := h1
  refine x_callV (rm' := rm_X11_yank) (n := n8) C (kp_X11_yank_met h1) lk_169 gw_928 gw_929 xv_11 rfl hr9 ht10 rfl (Nat.le_of_ble_eq_true rfl) ⟨Nat.le_of_ble_eq_true rfl, Nat.le_of_ble_eq_true rfl, (Nat.le_of_ble_eq_true rfl), (Nat.le_of_ble_eq_true rfl)⟩ dL_yank_7 (fun X9 S9 hx9 => ?_) (xm_ki (fun r12 S11 h1 => ?_))
  · obtain ⟨rfl, h1⟩ := hx9
    refine x_catch (hh := [(0, 19, 22, 21)]) (pre := []) (suf := []) (a := 0) (b := 19) (hp := 22) (ct := 21) C N th_I_in rfl (fun _ h => absurd h List.not_mem_nil) (by decide) (by decide) gw_791 (fun q9 => ?_)
    refine x_astore_w (L' := [(5, xm_w0 q9), (0, xm_r x0), (1, xm_i x1), (2, xm_i x2), (3, xm_i x3), (4, xm_r x4)]) C dL_yank_22 (by decide) rfl ?_
    refine x_iconst (v := (1 : Int32)) C dL_yank_24 (by decide) ?_
    exact x_iret C (Nat.le_of_ble_eq_true rfl) (Nat.le_of_ble_eq_true rfl) rfl dL_yank_25 (hg _ _ h1)
  · skip
    refine x_if_eq (tgt := 17) C dL_yank_10 (by decide) (fun z9 => ?_) (fun z9 => ?_)
    · have h1 := h1.1 z9
      refine x_lconst (v := (0 : Int64)) C dL_yank_17 (by decide) ?_
      refine x_keep (L' := []) C [] rfl ?_
      exact kp_L_yank_18 (0 : Int64) (0 : Int32) x4 S11 C N hg  h1
    · have h1 := h1.2 z9
      refine x_lconst (v := (1 : Int64)) C dL_yank_13 (by decide) ?_
      refine x_goto (tgt := 18) C dL_yank_14 (by decide) ?_
      refine x_keep (L' := []) C [] rfl ?_
      exact kp_L_yank_18 (1 : Int64) (0 : Int32) x4 S11 C N hg  h1
theorem kp_L_yank_met {x0 : Option Nat} {x1 : Int32} {x2 : Int32} {x3 : Int32} {x4 : Option Nat} {S : xm_S} {g : Int32 → xm_S → Prop} (h1 : wp_L_yank x0 x1 x2 x3 x4 S g) : xm_MetH yL_yank cL_yank 6 (some (FieldType.int)) [(0, 19, 22, 21)] rm_L_yank [xm_r x0, xm_i x1, xm_i x2, xm_i x3, xm_r x4] S (xm_qi g) xm_nox :=
  xm_ofWH RL (by decide +kernel) rfl (Nat.le_of_ble_eq_true rfl) (fun K C N hq hx => kp_L_yank x0 x1 x2 x3 x4 S C N (fun v S h => by rw [hq]; exact ⟨v, rfl, h⟩)  h1)
