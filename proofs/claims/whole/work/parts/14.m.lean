def rm_X11_allWishes : Room := { frames := 1, cells := 0, slots := 0, locals := 20 }
theorem dX11_allWishes_0 : decode cX11_allWishes 0 = .ok (.iconst 1, 1) := by decide +kernel
theorem dX11_allWishes_1 : decode cX11_allWishes 1 = .ok (.aload_n 0, 1) := by decide +kernel
theorem dX11_allWishes_2 : decode cX11_allWishes 2 = .ok (.getfield 28, 3) := by decide +kernel
theorem dX11_allWishes_5 : decode cX11_allWishes 5 = .ok (.ishl, 1) := by decide +kernel
theorem dX11_allWishes_6 : decode cX11_allWishes 6 = .ok (.iconst 1, 1) := by decide +kernel
theorem dX11_allWishes_7 : decode cX11_allWishes 7 = .ok (.isub, 1) := by decide +kernel
theorem dX11_allWishes_8 : decode cX11_allWishes 8 = .ok (.ireturn, 1) := by decide +kernel
def wp_X11_allWishes (h : Nat)  (S : xm_S) (g : Int32 → xm_S → Prop) : Prop :=
  st_t S h = some (11, 0) ∧ g (((1 : Int32) <<< ((st_i S h 3) &&& 31)) - (1 : Int32)) S
set_option maxRecDepth 100000 in
set_option maxHeartbeats 4000000 in
theorem kp_X11_allWishes {K : xm_K} (h : Nat)  (S : xm_S) {g : Int32 → xm_S → Prop} (C : xm_Cx K cX11_allWishes RX11 1 (some (FieldType.int)) rm_X11_allWishes) (N : xm_Nx K) (hg : ∀ v S, g v S → xm_q K (some (xm_i v)) S)  (h1 : wp_X11_allWishes h  S g) : xm_W K 0 0 0 [(0, xm_r (some h))] [] S := by
  unfold wp_X11_allWishes at h1
  refine x_iconst (v := (1 : Int32)) C dX11_allWishes_0 (by decide) ?_
  refine x_aload_n C 0 dX11_allWishes_1 rfl rfl ?_
  obtain ⟨ht1, h1⟩ := h1
  refine x_getf_i (n := h) C rfl ht1 fd_119 (by decide) dX11_allWishes_2 ?_
  refine x_ishl C dX11_allWishes_5 ?_
  refine x_iconst (v := (1 : Int32)) C dX11_allWishes_6 (by decide) ?_
  refine x_isub C dX11_allWishes_7 ?_
  exact x_iret C (Nat.le_of_ble_eq_true rfl) (Nat.le_of_ble_eq_true rfl) rfl dX11_allWishes_8 (hg _ _ h1)
theorem kp_X11_allWishes_met {h : Nat}  {S : xm_S} {g : Int32 → xm_S → Prop}  (h1 : wp_X11_allWishes h  S g) : xm_Met yX11_allWishes cX11_allWishes 1 (some (FieldType.int)) rm_X11_allWishes [xm_r (some h)] S (xm_qi g) xm_nox :=
  xm_ofW RX11 (by decide +kernel) rfl (Nat.le_of_ble_eq_true rfl) (fun K C N hq hx hi => kp_X11_allWishes h  S C N (fun v S h => by rw [hq]; exact ⟨v, rfl, h⟩)  h1)
def rm_X11_aside : Room := { frames := 1, cells := 0, slots := 0, locals := 20 }
theorem dX11_aside_0 : decode cX11_aside 0 = .ok (.aload_n 0, 1) := by decide +kernel
theorem dX11_aside_1 : decode cX11_aside 1 = .ok (.getfield 85, 3) := by decide +kernel
theorem dX11_aside_4 : decode cX11_aside 4 = .ok (.getfield 322, 3) := by decide +kernel
theorem dX11_aside_7 : decode cX11_aside 7 = .ok (.ireturn, 1) := by decide +kernel
def wp_X11_aside (h : Nat)  (S : xm_S) (g : Int32 → xm_S → Prop) : Prop :=
  st_t S h = some (11, 0) ∧ ∃ n2, (st_r S h 17) = some n2 ∧ st_t S n2 = some (2, 0) ∧ g (st_i S n2 6) S
set_option maxRecDepth 100000 in
set_option maxHeartbeats 4000000 in
theorem kp_X11_aside {K : xm_K} (h : Nat)  (S : xm_S) {g : Int32 → xm_S → Prop} (C : xm_Cx K cX11_aside RX11 1 (some (FieldType.int)) rm_X11_aside) (N : xm_Nx K) (hg : ∀ v S, g v S → xm_q K (some (xm_i v)) S)  (h1 : wp_X11_aside h  S g) : xm_W K 0 0 0 [(0, xm_r (some h))] [] S := by
  unfold wp_X11_aside at h1
  refine x_aload_n C 0 dX11_aside_0 rfl rfl ?_
  obtain ⟨ht1, h1⟩ := h1
  refine x_getf_r (n := h) C rfl ht1 fd_120 (by decide) dX11_aside_1 ?_
  obtain ⟨n2, hr3, h1⟩ := h1
  obtain ⟨ht4, h1⟩ := h1
  refine x_getf_i (n := n2) C hr3 ht4 fd_121 (by decide) dX11_aside_4 ?_
  exact x_iret C (Nat.le_of_ble_eq_true rfl) (Nat.le_of_ble_eq_true rfl) rfl dX11_aside_7 (hg _ _ h1)
theorem kp_X11_aside_met {h : Nat}  {S : xm_S} {g : Int32 → xm_S → Prop}  (h1 : wp_X11_aside h  S g) : xm_Met yX11_aside cX11_aside 1 (some (FieldType.int)) rm_X11_aside [xm_r (some h)] S (xm_qi g) xm_nox :=
  xm_ofW RX11 (by decide +kernel) rfl (Nat.le_of_ble_eq_true rfl) (fun K C N hq hx hi => kp_X11_aside h  S C N (fun v S h => by rw [hq]; exact ⟨v, rfl, h⟩)  h1)
def rm_X11_checkMirror : Room := { frames := 6, cells := 1, slots := 6, locals := 100 }
theorem dX11_checkMirror_0 : decode cX11_checkMirror 0 = .ok (.iload_n 0, 1) := by decide +kernel
theorem dX11_checkMirror_1 : decode cX11_checkMirror 1 = .ok (.ifCond .lt 8, 3) := by decide +kernel
theorem dX11_checkMirror_4 : decode cX11_checkMirror 4 = .ok (.iload_n 0, 1) := by decide +kernel
theorem dX11_checkMirror_5 : decode cX11_checkMirror 5 = .ok (.iconst 3, 1) := by decide +kernel
theorem dX11_checkMirror_6 : decode cX11_checkMirror 6 = .ok (.if_icmp .lt 14, 3) := by decide +kernel
theorem dX11_checkMirror_9 : decode cX11_checkMirror 9 = .ok (.new 349, 3) := by decide +kernel
theorem dX11_checkMirror_12 : decode cX11_checkMirror 12 = .ok (.dup, 1) := by decide +kernel
theorem dX11_checkMirror_13 : decode cX11_checkMirror 13 = .ok (.ldc_w 358, 3) := by decide +kernel
theorem dX11_checkMirror_16 : decode cX11_checkMirror 16 = .ok (.invokespecial 353, 3) := by decide +kernel
theorem dX11_checkMirror_19 : decode cX11_checkMirror 19 = .ok (.athrow, 1) := by decide +kernel
theorem dX11_checkMirror_20 : decode cX11_checkMirror 20 = .ok (.return_, 1) := by decide +kernel
def wp_X11_checkMirror_9  (S : xm_S) (g : xm_S → Prop) (Ex : String → xm_S → Prop) : Prop :=
  Ex xm_eI S
set_option maxRecDepth 100000 in
set_option maxHeartbeats 4000000 in
theorem kp_X11_checkMirror_9 {K : xm_K}  (S : xm_S) {g : xm_S → Prop} {Ex : String → xm_S → Prop} (C : xm_Cx K cX11_checkMirror RX11 1 none rm_X11_checkMirror) (N : xm_Nx K) (hg : ∀ S, g S → xm_q K none S) (hEx : ∀ X S, Ex X S → xm_x K X S)  (h1 : wp_X11_checkMirror_9  S g Ex) : xm_W K 0 0 9 [] [] S := by
  unfold wp_X11_checkMirror_9 at h1
  exact x_throw (text := "no such mirror") C N th_I_in th_I_fit gw_325 gw_326 (by decide +kernel) th_I_at th_I_no th_I_ot (Nat.le_of_ble_eq_true rfl) ⟨Nat.le_of_ble_eq_true rfl, Nat.le_of_ble_eq_true rfl, (Nat.le_of_ble_eq_true rfl), (Nat.le_of_ble_eq_true rfl)⟩ dX11_checkMirror_9 dX11_checkMirror_12 (Or.inr ⟨dX11_checkMirror_13, dX11_checkMirror_16, dX11_checkMirror_19⟩) (hEx _ _ h1)
def wp_X11_checkMirror (x0 : Int32) (S : xm_S) (g : xm_S → Prop) (Ex : String → xm_S → Prop) : Prop :=
  (x0 < 0 → wp_X11_checkMirror_9 S g Ex) ∧ (¬ x0 < 0 → (x0 < (nI 3) → g S) ∧ (¬ x0 < (nI 3) → wp_X11_checkMirror_9 S g Ex))
set_option maxRecDepth 100000 in
set_option maxHeartbeats 4000000 in
theorem kp_X11_checkMirror {K : xm_K} (x0 : Int32) (S : xm_S) {g : xm_S → Prop} {Ex : String → xm_S → Prop} (C : xm_Cx K cX11_checkMirror RX11 1 none rm_X11_checkMirror) (N : xm_Nx K) (hg : ∀ S, g S → xm_q K none S) (hEx : ∀ X S, Ex X S → xm_x K X S)  (h1 : wp_X11_checkMirror x0 S g Ex) : xm_W K 0 0 0 [(0, xm_i x0)] [] S := by
  unfold wp_X11_checkMirror at h1
  refine x_iload_n C 0 dX11_checkMirror_0 rfl rfl ?_
  refine x_if_lt (tgt := 9) C dX11_checkMirror_1 (by decide) (fun z9 => ?_) (fun z9 => ?_)
  · have h1 := h1.1 z9
    refine x_keep (L' := []) C [] rfl ?_
    exact kp_X11_checkMirror_9 S C N hg hEx  h1
  · have h1 := h1.2 z9
    refine x_iload_n C 0 dX11_checkMirror_4 rfl rfl ?_
    refine x_iconst (v := (nI 3)) C dX11_checkMirror_5 (by decide) ?_
    refine x_icmp_lt (tgt := 20) C dX11_checkMirror_6 (by decide) (fun z9 => ?_) (fun z9 => ?_)
    · have h1 := h1.1 z9
      exact x_vret C (Nat.le_of_ble_eq_true rfl) (Nat.le_of_ble_eq_true rfl) rfl dX11_checkMirror_20 (hg _ h1)
    · have h1 := h1.2 z9
      refine x_keep (L' := []) C [] rfl ?_
      exact kp_X11_checkMirror_9 S C N hg hEx  h1
theorem kp_X11_checkMirror_met {x0 : Int32} {S : xm_S} {g : xm_S → Prop} {Ex : String → xm_S → Prop}  (h1 : wp_X11_checkMirror x0 S g Ex) : xm_Met yX11_checkMirror cX11_checkMirror 1 none rm_X11_checkMirror [xm_i x0] S (xm_qv g) Ex :=
  xm_ofW RX11 (by decide +kernel) rfl (Nat.le_of_ble_eq_true rfl) (fun K C N hq hx hi => kp_X11_checkMirror x0 S C N (fun S h => by rw [hq]; exact ⟨rfl, h⟩) (fun X S h => by rw [hx]; exact h)  h1)
def rm_X11_checkOther : Room := { frames := 6, cells := 1, slots := 6, locals := 100 }
theorem dX11_checkOther_0 : decode cX11_checkOther 0 = .ok (.iload_n 0, 1) := by decide +kernel
theorem dX11_checkOther_1 : decode cX11_checkOther 1 = .ok (.iload_n 1, 1) := by decide +kernel
theorem dX11_checkOther_2 : decode cX11_checkOther 2 = .ok (.if_icmp .ne 14, 3) := by decide +kernel
theorem dX11_checkOther_5 : decode cX11_checkOther 5 = .ok (.new 90, 3) := by decide +kernel
theorem dX11_checkOther_8 : decode cX11_checkOther 8 = .ok (.dup, 1) := by decide +kernel
theorem dX11_checkOther_9 : decode cX11_checkOther 9 = .ok (.ldc_w 364, 3) := by decide +kernel
theorem dX11_checkOther_12 : decode cX11_checkOther 12 = .ok (.invokespecial 94, 3) := by decide +kernel
theorem dX11_checkOther_15 : decode cX11_checkOther 15 = .ok (.athrow, 1) := by decide +kernel
theorem dX11_checkOther_16 : decode cX11_checkOther 16 = .ok (.return_, 1) := by decide +kernel
def wp_X11_checkOther (x0 : Int32) (x1 : Int32) (S : xm_S) (g : xm_S → Prop) (Ex : String → xm_S → Prop) : Prop :=
  (¬ x0 = x1 → g S) ∧ (x0 = x1 → Ex xm_eA S)
set_option maxRecDepth 100000 in
set_option maxHeartbeats 4000000 in
theorem kp_X11_checkOther {K : xm_K} (x0 : Int32) (x1 : Int32) (S : xm_S) {g : xm_S → Prop} {Ex : String → xm_S → Prop} (C : xm_Cx K cX11_checkOther RX11 2 none rm_X11_checkOther) (N : xm_Nx K) (hg : ∀ S, g S → xm_q K none S) (hEx : ∀ X S, Ex X S → xm_x K X S)  (h1 : wp_X11_checkOther x0 x1 S g Ex) : xm_W K 0 0 0 [(0, xm_i x0), (1, xm_i x1)] [] S := by
  unfold wp_X11_checkOther at h1
  refine x_iload_n C 0 dX11_checkOther_0 rfl rfl ?_
  refine x_iload_n C 1 dX11_checkOther_1 rfl rfl ?_
  refine x_icmp_ne (tgt := 16) C dX11_checkOther_2 (by decide) (fun z9 => ?_) (fun z9 => ?_)
  · have h1 := h1.1 z9
    exact x_vret C (Nat.le_of_ble_eq_true rfl) (Nat.le_of_ble_eq_true rfl) rfl dX11_checkOther_16 (hg _ h1)
  · have h1 := h1.2 z9
    exact x_throw (text := "the other package is its own") C N th_A_in th_A_fit gw_327 gw_328 (by decide +kernel) th_A_at th_A_no th_A_ot (Nat.le_of_ble_eq_true rfl) ⟨Nat.le_of_ble_eq_true rfl, Nat.le_of_ble_eq_true rfl, (Nat.le_of_ble_eq_true rfl), (Nat.le_of_ble_eq_true rfl)⟩ dX11_checkOther_5 dX11_checkOther_8 (Or.inr ⟨dX11_checkOther_9, dX11_checkOther_12, dX11_checkOther_15⟩) (hEx _ _ h1)
theorem kp_X11_checkOther_met {x0 : Int32} {x1 : Int32} {S : xm_S} {g : xm_S → Prop} {Ex : String → xm_S → Prop}  (h1 : wp_X11_checkOther x0 x1 S g Ex) : xm_Met yX11_checkOther cX11_checkOther 2 none rm_X11_checkOther [xm_i x0, xm_i x1] S (xm_qv g) Ex :=
  xm_ofW RX11 (by decide +kernel) rfl (Nat.le_of_ble_eq_true rfl) (fun K C N hq hx hi => kp_X11_checkOther x0 x1 S C N (fun S h => by rw [hq]; exact ⟨rfl, h⟩) (fun X S h => by rw [hx]; exact h)  h1)
def rm_X11_checkOwnFeature : Room := { frames := 6, cells := 1, slots := 6, locals := 100 }
theorem dX11_checkOwnFeature_0 : decode cX11_checkOwnFeature 0 = .ok (.iload_n 0, 1) := by decide +kernel
theorem dX11_checkOwnFeature_1 : decode cX11_checkOwnFeature 1 = .ok (.iconst (-1), 1) := by decide +kernel
theorem dX11_checkOwnFeature_2 : decode cX11_checkOwnFeature 2 = .ok (.if_icmp .eq 35, 3) := by decide +kernel
theorem dX11_checkOwnFeature_5 : decode cX11_checkOwnFeature 5 = .ok (.iload_n 0, 1) := by decide +kernel
theorem dX11_checkOwnFeature_6 : decode cX11_checkOwnFeature 6 = .ok (.iconst 1, 1) := by decide +kernel
theorem dX11_checkOwnFeature_7 : decode cX11_checkOwnFeature 7 = .ok (.if_icmp .eq 30, 3) := by decide +kernel
theorem dX11_checkOwnFeature_10 : decode cX11_checkOwnFeature 10 = .ok (.iload_n 0, 1) := by decide +kernel
theorem dX11_checkOwnFeature_11 : decode cX11_checkOwnFeature 11 = .ok (.iconst 2, 1) := by decide +kernel
theorem dX11_checkOwnFeature_12 : decode cX11_checkOwnFeature 12 = .ok (.if_icmp .eq 25, 3) := by decide +kernel
theorem dX11_checkOwnFeature_15 : decode cX11_checkOwnFeature 15 = .ok (.iload_n 0, 1) := by decide +kernel
theorem dX11_checkOwnFeature_16 : decode cX11_checkOwnFeature 16 = .ok (.iconst 4, 1) := by decide +kernel
theorem dX11_checkOwnFeature_17 : decode cX11_checkOwnFeature 17 = .ok (.if_icmp .eq 20, 3) := by decide +kernel
theorem dX11_checkOwnFeature_20 : decode cX11_checkOwnFeature 20 = .ok (.iload_n 0, 1) := by decide +kernel
theorem dX11_checkOwnFeature_21 : decode cX11_checkOwnFeature 21 = .ok (.bipush 8, 2) := by decide +kernel
theorem dX11_checkOwnFeature_23 : decode cX11_checkOwnFeature 23 = .ok (.if_icmp .eq 14, 3) := by decide +kernel
theorem dX11_checkOwnFeature_26 : decode cX11_checkOwnFeature 26 = .ok (.new 90, 3) := by decide +kernel
theorem dX11_checkOwnFeature_29 : decode cX11_checkOwnFeature 29 = .ok (.dup, 1) := by decide +kernel
theorem dX11_checkOwnFeature_30 : decode cX11_checkOwnFeature 30 = .ok (.ldc_w 362, 3) := by decide +kernel
theorem dX11_checkOwnFeature_33 : decode cX11_checkOwnFeature 33 = .ok (.invokespecial 94, 3) := by decide +kernel
theorem dX11_checkOwnFeature_36 : decode cX11_checkOwnFeature 36 = .ok (.athrow, 1) := by decide +kernel
theorem dX11_checkOwnFeature_37 : decode cX11_checkOwnFeature 37 = .ok (.return_, 1) := by decide +kernel
def wp_X11_checkOwnFeature_37  (S : xm_S) (g : xm_S → Prop) (Ex : String → xm_S → Prop) : Prop :=
  g S
set_option maxRecDepth 100000 in
set_option maxHeartbeats 4000000 in
theorem kp_X11_checkOwnFeature_37 {K : xm_K}  (S : xm_S) {g : xm_S → Prop} {Ex : String → xm_S → Prop} (C : xm_Cx K cX11_checkOwnFeature RX11 1 none rm_X11_checkOwnFeature) (N : xm_Nx K) (hg : ∀ S, g S → xm_q K none S) (hEx : ∀ X S, Ex X S → xm_x K X S)  (h1 : wp_X11_checkOwnFeature_37  S g Ex) : xm_W K 0 0 37 [] [] S := by
  unfold wp_X11_checkOwnFeature_37 at h1
  exact x_vret C (Nat.le_of_ble_eq_true rfl) (Nat.le_of_ble_eq_true rfl) rfl dX11_checkOwnFeature_37 (hg _ h1)
def wp_X11_checkOwnFeature (x0 : Int32) (S : xm_S) (g : xm_S → Prop) (Ex : String → xm_S → Prop) : Prop :=
  (x0 = (-1 : Int32) → wp_X11_checkOwnFeature_37 S g Ex) ∧ (¬ x0 = (-1 : Int32) → (x0 = (1 : Int32) → wp_X11_checkOwnFeature_37 S g Ex) ∧ (¬ x0 = (1 : Int32) → (x0 = (nI 2) → wp_X11_checkOwnFeature_37 S g Ex) ∧ (¬ x0 = (nI 2) → (x0 = (nI 4) → wp_X11_checkOwnFeature_37 S g Ex) ∧ (¬ x0 = (nI 4) → (x0 = (nI 8) → wp_X11_checkOwnFeature_37 S g Ex) ∧ (¬ x0 = (nI 8) → Ex xm_eA S)))))
set_option maxRecDepth 100000 in
set_option maxHeartbeats 4000000 in
theorem kp_X11_checkOwnFeature {K : xm_K} (x0 : Int32) (S : xm_S) {g : xm_S → Prop} {Ex : String → xm_S → Prop} (C : xm_Cx K cX11_checkOwnFeature RX11 1 none rm_X11_checkOwnFeature) (N : xm_Nx K) (hg : ∀ S, g S → xm_q K none S) (hEx : ∀ X S, Ex X S → xm_x K X S)  (h1 : wp_X11_checkOwnFeature x0 S g Ex) : xm_W K 0 0 0 [(0, xm_i x0)] [] S := by
  unfold wp_X11_checkOwnFeature at h1
  refine x_iload_n C 0 dX11_checkOwnFeature_0 rfl rfl ?_
  refine x_iconst (v := (-1 : Int32)) C dX11_checkOwnFeature_1 (by decide) ?_
  refine x_icmp_eq (tgt := 37) C dX11_checkOwnFeature_2 (by decide) (fun z9 => ?_) (fun z9 => ?_)
  · have h1 := h1.1 z9
    refine x_keep (L' := []) C [] rfl ?_
    exact kp_X11_checkOwnFeature_37 S C N hg hEx  h1
  · have h1 := h1.2 z9
    refine x_iload_n C 0 dX11_checkOwnFeature_5 rfl rfl ?_
    refine x_iconst (v := (1 : Int32)) C dX11_checkOwnFeature_6 (by decide) ?_
    refine x_icmp_eq (tgt := 37) C dX11_checkOwnFeature_7 (by decide) (fun z9 => ?_) (fun z9 => ?_)
    · have h1 := h1.1 z9
      refine x_keep (L' := []) C [] rfl ?_
      exact kp_X11_checkOwnFeature_37 S C N hg hEx  h1
    · have h1 := h1.2 z9
      refine x_iload_n C 0 dX11_checkOwnFeature_10 rfl rfl ?_
      refine x_iconst (v := (nI 2)) C dX11_checkOwnFeature_11 (by decide) ?_
      refine x_icmp_eq (tgt := 37) C dX11_checkOwnFeature_12 (by decide) (fun z9 => ?_) (fun z9 => ?_)
      · have h1 := h1.1 z9
        refine x_keep (L' := []) C [] rfl ?_
        exact kp_X11_checkOwnFeature_37 S C N hg hEx  h1
      · have h1 := h1.2 z9
        refine x_iload_n C 0 dX11_checkOwnFeature_15 rfl rfl ?_
        refine x_iconst (v := (nI 4)) C dX11_checkOwnFeature_16 (by decide) ?_
        refine x_icmp_eq (tgt := 37) C dX11_checkOwnFeature_17 (by decide) (fun z9 => ?_) (fun z9 => ?_)
        · have h1 := h1.1 z9
          refine x_keep (L' := []) C [] rfl ?_
          exact kp_X11_checkOwnFeature_37 S C N hg hEx  h1
        · have h1 := h1.2 z9
          refine x_iload_n C 0 dX11_checkOwnFeature_20 rfl rfl ?_
          refine x_bipush (v := (nI 8)) C dX11_checkOwnFeature_21 (by decide) ?_
          refine x_icmp_eq (tgt := 37) C dX11_checkOwnFeature_23 (by decide) (fun z9 => ?_) (fun z9 => ?_)
          · have h1 := h1.1 z9
            refine x_keep (L' := []) C [] rfl ?_
            exact kp_X11_checkOwnFeature_37 S C N hg hEx  h1
          · have h1 := h1.2 z9
            exact x_throw (text := "the own feature is 1, 2, 4, 8 or NONE") C N th_A_in th_A_fit gw_327 gw_328 (by decide +kernel) th_A_at th_A_no th_A_ot (Nat.le_of_ble_eq_true rfl) ⟨Nat.le_of_ble_eq_true rfl, Nat.le_of_ble_eq_true rfl, (Nat.le_of_ble_eq_true rfl), (Nat.le_of_ble_eq_true rfl)⟩ dX11_checkOwnFeature_26 dX11_checkOwnFeature_29 (Or.inr ⟨dX11_checkOwnFeature_30, dX11_checkOwnFeature_33, dX11_checkOwnFeature_36⟩) (hEx _ _ h1)
theorem kp_X11_checkOwnFeature_met {x0 : Int32} {S : xm_S} {g : xm_S → Prop} {Ex : String → xm_S → Prop}  (h1 : wp_X11_checkOwnFeature x0 S g Ex) : xm_Met yX11_checkOwnFeature cX11_checkOwnFeature 1 none rm_X11_checkOwnFeature [xm_i x0] S (xm_qv g) Ex :=
  xm_ofW RX11 (by decide +kernel) rfl (Nat.le_of_ble_eq_true rfl) (fun K C N hq hx hi => kp_X11_checkOwnFeature x0 S C N (fun S h => by rw [hq]; exact ⟨rfl, h⟩) (fun X S h => by rw [hx]; exact h)  h1)
def rm_X11_checkVersion : Room := { frames := 7, cells := 2, slots := 12, locals := 120 }
theorem dX11_checkVersion_0 : decode cX11_checkVersion 0 = .ok (.iload_n 1, 1) := by decide +kernel
theorem dX11_checkVersion_1 : decode cX11_checkVersion 1 = .ok (.invokestatic 122, 3) := by decide +kernel
theorem dX11_checkVersion_4 : decode cX11_checkVersion 4 = .ok (.iload_n 2, 1) := by decide +kernel
theorem dX11_checkVersion_5 : decode cX11_checkVersion 5 = .ok (.ifCond .lt 16, 3) := by decide +kernel
theorem dX11_checkVersion_8 : decode cX11_checkVersion 8 = .ok (.iload_n 2, 1) := by decide +kernel
theorem dX11_checkVersion_9 : decode cX11_checkVersion 9 = .ok (.aload_n 0, 1) := by decide +kernel
theorem dX11_checkVersion_10 : decode cX11_checkVersion 10 = .ok (.getfield 18, 3) := by decide +kernel
theorem dX11_checkVersion_13 : decode cX11_checkVersion 13 = .ok (.iload_n 1, 1) := by decide +kernel
theorem dX11_checkVersion_14 : decode cX11_checkVersion 14 = .ok (.aaload, 1) := by decide +kernel
theorem dX11_checkVersion_15 : decode cX11_checkVersion 15 = .ok (.getfield 136, 3) := by decide +kernel
theorem dX11_checkVersion_18 : decode cX11_checkVersion 18 = .ok (.if_icmp .lt 14, 3) := by decide +kernel
theorem dX11_checkVersion_21 : decode cX11_checkVersion 21 = .ok (.new 349, 3) := by decide +kernel
theorem dX11_checkVersion_24 : decode cX11_checkVersion 24 = .ok (.dup, 1) := by decide +kernel
theorem dX11_checkVersion_25 : decode cX11_checkVersion 25 = .ok (.ldc_w 354, 3) := by decide +kernel
theorem dX11_checkVersion_28 : decode cX11_checkVersion 28 = .ok (.invokespecial 353, 3) := by decide +kernel
theorem dX11_checkVersion_31 : decode cX11_checkVersion 31 = .ok (.athrow, 1) := by decide +kernel
theorem dX11_checkVersion_32 : decode cX11_checkVersion 32 = .ok (.return_, 1) := by decide +kernel
def wp_X11_checkVersion_21 (h : Nat)  (S : xm_S) (g : xm_S → Prop) (Ex : String → xm_S → Prop) : Prop :=
  Ex xm_eI S
set_option maxRecDepth 100000 in
set_option maxHeartbeats 4000000 in
theorem kp_X11_checkVersion_21 {K : xm_K} (h : Nat)  (S : xm_S) {g : xm_S → Prop} {Ex : String → xm_S → Prop} (C : xm_Cx K cX11_checkVersion RX11 3 none rm_X11_checkVersion) (N : xm_Nx K) (hg : ∀ S, g S → xm_q K none S) (hEx : ∀ X S, Ex X S → xm_x K X S)  (h1 : wp_X11_checkVersion_21 h  S g Ex) : xm_W K 1 6 21 [] [] S := by
  unfold wp_X11_checkVersion_21 at h1
  exact x_throw (text := "no such version") C N th_I_in th_I_fit gw_325 gw_326 (by decide +kernel) th_I_at th_I_no th_I_ot (Nat.le_of_ble_eq_true rfl) ⟨Nat.le_of_ble_eq_true rfl, Nat.le_of_ble_eq_true rfl, (Nat.le_of_ble_eq_true rfl), (Nat.le_of_ble_eq_true rfl)⟩ dX11_checkVersion_21 dX11_checkVersion_24 (Or.inr ⟨dX11_checkVersion_25, dX11_checkVersion_28, dX11_checkVersion_31⟩) (hEx _ _ h1)
def wp_X11_checkVersion (h : Nat) (x1 : Int32) (x2 : Int32) (S : xm_S) (g : xm_S → Prop) (Ex : String → xm_S → Prop) : Prop :=
  wp_X11_checkPack x1 S (fun S1 => (x2 < 0 → wp_X11_checkVersion_21 h S1 g Ex) ∧ (¬ x2 < 0 → st_t S1 h = some (11, 0) ∧ ∃ n4, (st_r S1 h 1) = some n4 ∧ ∃ z7, st_t S1 n4 = some (115, z7) ∧ vp_in x1 z7 ∧ ∃ n9, (st_r S1 n4 (x1).toNatClampNeg) = some n9 ∧ st_t S1 n9 = some (5, 0) ∧ (x2 < (st_i S1 n9 2) → g S1) ∧ (¬ x2 < (st_i S1 n9 2) → wp_X11_checkVersion_21 h S1 g Ex))) Ex
set_option maxRecDepth 100000 in
set_option maxHeartbeats 4000000 in
theorem kp_X11_checkVersion {K : xm_K} (h : Nat) (x1 : Int32) (x2 : Int32) (S : xm_S) {g : xm_S → Prop} {Ex : String → xm_S → Prop} (C : xm_Cx K cX11_checkVersion RX11 3 none rm_X11_checkVersion) (N : xm_Nx K) (hg : ∀ S, g S → xm_q K none S) (hEx : ∀ X S, Ex X S → xm_x K X S)  (h1 : wp_X11_checkVersion h x1 x2 S g Ex) : xm_W K 0 0 0 [(0, xm_r (some h)), (1, xm_i x1), (2, xm_i x2)] [] S := by
  unfold wp_X11_checkVersion at h1
  refine x_iload_n C 1 dX11_checkVersion_0 rfl rfl ?_
  refine x_callS (rm' := rm_X11_checkPack) C (kp_X11_checkPack_met h1) lk_50 gw_336 rfl (Nat.le_of_ble_eq_true rfl) ⟨Nat.le_of_ble_eq_true rfl, Nat.le_of_ble_eq_true rfl, (Nat.le_of_ble_eq_true rfl), (Nat.le_of_ble_eq_true rfl)⟩ dX11_checkVersion_1 (fun X9 S9 hx9 => x_thru C N (Nat.le_of_ble_eq_true rfl) (Nat.le_of_ble_eq_true rfl) (hEx _ _ hx9)) (xm_kv (fun S1 h1 => ?_))
  refine x_iload_n C 2 dX11_checkVersion_4 rfl rfl ?_
  refine x_if_lt (tgt := 21) C dX11_checkVersion_5 (by decide) (fun z9 => ?_) (fun z9 => ?_)
  · have h1 := h1.1 z9
    refine x_keep (L' := []) C [] rfl ?_
    exact kp_X11_checkVersion_21 h S1 C N hg hEx  h1
  · have h1 := h1.2 z9
    refine x_iload_n C 2 dX11_checkVersion_8 rfl rfl ?_
    refine x_aload_n C 0 dX11_checkVersion_9 rfl rfl ?_
    obtain ⟨ht3, h1⟩ := h1
    refine x_getf_r (n := h) C rfl ht3 fd_111 (by decide) dX11_checkVersion_10 ?_
    refine x_iload_n C 1 dX11_checkVersion_13 rfl rfl ?_
    obtain ⟨n4, hr5, h1⟩ := h1
    obtain ⟨z7, ht6, h1⟩ := h1
    obtain ⟨hi8, h1⟩ := h1
    refine x_aald (n := n4) C hr5 (by decide) rfl ht6 hi8 dX11_checkVersion_14 ?_
    obtain ⟨n9, hr10, h1⟩ := h1
    obtain ⟨ht11, h1⟩ := h1
    refine x_getf_i (n := n9) C hr10 ht11 fd_122 (by decide) dX11_checkVersion_15 ?_
    refine x_icmp_lt (tgt := 32) C dX11_checkVersion_18 (by decide) (fun z9 => ?_) (fun z9 => ?_)
    · have h1 := h1.1 z9
      exact x_vret C (Nat.le_of_ble_eq_true rfl) (Nat.le_of_ble_eq_true rfl) rfl dX11_checkVersion_32 (hg _ h1)
    · have h1 := h1.2 z9
      refine x_keep (L' := []) C [] rfl ?_
      exact kp_X11_checkVersion_21 h S1 C N hg hEx  h1
theorem kp_X11_checkVersion_met {h : Nat} {x1 : Int32} {x2 : Int32} {S : xm_S} {g : xm_S → Prop} {Ex : String → xm_S → Prop}  (h1 : wp_X11_checkVersion h x1 x2 S g Ex) : xm_Met yX11_checkVersion cX11_checkVersion 3 none rm_X11_checkVersion [xm_r (some h), xm_i x1, xm_i x2] S (xm_qv g) Ex :=
  xm_ofW RX11 (by decide +kernel) rfl (Nat.le_of_ble_eq_true rfl) (fun K C N hq hx hi => kp_X11_checkVersion h x1 x2 S C N (fun S h => by rw [hq]; exact ⟨rfl, h⟩) (fun X S h => by rw [hx]; exact h)  h1)
def rm_X11_prepareSolver : Room := { frames := 6, cells := 0, slots := 0, locals := 148 }
theorem dX11_prepareSolver_0 : decode cX11_prepareSolver 0 = .ok (.aload_n 0, 1) := by decide +kernel
theorem dX11_prepareSolver_1 : decode cX11_prepareSolver 1 = .ok (.getfield 59, 3) := by decide +kernel
theorem dX11_prepareSolver_4 : decode cX11_prepareSolver 4 = .ok (.aload_n 0, 1) := by decide +kernel
theorem dX11_prepareSolver_5 : decode cX11_prepareSolver 5 = .ok (.getfield 18, 3) := by decide +kernel
theorem dX11_prepareSolver_8 : decode cX11_prepareSolver 8 = .ok (.aload_n 0, 1) := by decide +kernel
theorem dX11_prepareSolver_9 : decode cX11_prepareSolver 9 = .ok (.getfield 24, 3) := by decide +kernel
theorem dX11_prepareSolver_12 : decode cX11_prepareSolver 12 = .ok (.aload_n 0, 1) := by decide +kernel
theorem dX11_prepareSolver_13 : decode cX11_prepareSolver 13 = .ok (.getfield 28, 3) := by decide +kernel
theorem dX11_prepareSolver_16 : decode cX11_prepareSolver 16 = .ok (.iload_n 1, 1) := by decide +kernel
theorem dX11_prepareSolver_17 : decode cX11_prepareSolver 17 = .ok (.invokevirtual 378, 3) := by decide +kernel
theorem dX11_prepareSolver_20 : decode cX11_prepareSolver 20 = .ok (.aload_n 0, 1) := by decide +kernel
theorem dX11_prepareSolver_21 : decode cX11_prepareSolver 21 = .ok (.getfield 59, 3) := by decide +kernel
theorem dX11_prepareSolver_24 : decode cX11_prepareSolver 24 = .ok (.aload_n 0, 1) := by decide +kernel
theorem dX11_prepareSolver_25 : decode cX11_prepareSolver 25 = .ok (.getfield 32, 3) := by decide +kernel
theorem dX11_prepareSolver_28 : decode cX11_prepareSolver 28 = .ok (.aload_n 0, 1) := by decide +kernel
theorem dX11_prepareSolver_29 : decode cX11_prepareSolver 29 = .ok (.getfield 46, 3) := by decide +kernel
theorem dX11_prepareSolver_32 : decode cX11_prepareSolver 32 = .ok (.iload_n 1, 1) := by decide +kernel
theorem dX11_prepareSolver_33 : decode cX11_prepareSolver 33 = .ok (.aaload, 1) := by decide +kernel
theorem dX11_prepareSolver_34 : decode cX11_prepareSolver 34 = .ok (.iload_n 2, 1) := by decide +kernel
theorem dX11_prepareSolver_35 : decode cX11_prepareSolver 35 = .ok (.invokevirtual 382, 3) := by decide +kernel
theorem dX11_prepareSolver_38 : decode cX11_prepareSolver 38 = .ok (.return_, 1) := by decide +kernel
def wp_X11_prepareSolver (h : Nat) (x1 : Int32) (x2 : Int32) (S : xm_S) (g : xm_S → Prop) : Prop :=
  st_t S h = some (11, 0) ∧ ∃ n2, (st_r S h 10) = some n2 ∧ st_t S n2 = some (7, 0) ∧ wp_X7_study n2 (st_r S h 1) (st_r S h 2) (st_i S h 3) x1 S (fun S5 => st_t S5 h = some (11, 0) ∧ ∃ n8, (st_r S5 h 7) = some n8 ∧ ∃ z11, st_t S5 n8 = some (104, z11) ∧ vp_in x1 z11 ∧ ∃ n13, (st_r S5 h 10) = some n13 ∧ st_t S5 n13 = some (7, 0) ∧ wp_X7_permit n13 (st_i S5 h 4) (st_r S5 n8 (x1).toNatClampNeg) x2 S5 (fun S16 => g S16))
set_option maxRecDepth 100000 in
set_option maxHeartbeats 4000000 in
theorem kp_X11_prepareSolver {K : xm_K} (h : Nat) (x1 : Int32) (x2 : Int32) (S : xm_S) {g : xm_S → Prop} (C : xm_Cx K cX11_prepareSolver RX11 3 none rm_X11_prepareSolver) (N : xm_Nx K) (hg : ∀ S, g S → xm_q K none S)  (h1 : wp_X11_prepareSolver h x1 x2 S g) : xm_W K 0 0 0 [(0, xm_r (some h)), (1, xm_i x1), (2, xm_i x2)] [] S := by
  unfold wp_X11_prepareSolver at h1
  refine x_aload_n C 0 dX11_prepareSolver_0 rfl rfl ?_
  obtain ⟨ht1, h1⟩ := h1
  refine x_getf_r (n := h) C rfl ht1 fd_123 (by decide) dX11_prepareSolver_1 ?_
  refine x_aload_n C 0 dX11_prepareSolver_4 rfl rfl ?_
  refine x_getf_r (n := h) C rfl ht1 fd_111 (by decide) dX11_prepareSolver_5 ?_
  refine x_aload_n C 0 dX11_prepareSolver_8 rfl rfl ?_
  refine x_getf_r (n := h) C rfl ht1 fd_124 (by decide) dX11_prepareSolver_9 ?_
  refine x_aload_n C 0 dX11_prepareSolver_12 rfl rfl ?_
  refine x_getf_i (n := h) C rfl ht1 fd_119 (by decide) dX11_prepareSolver_13 ?_
  refine x_iload_n C 1 dX11_prepareSolver_16 rfl rfl ?_
  obtain ⟨n2, hr3, h1⟩ := h1
  obtain ⟨ht4, h1⟩ := h1
  refine x_callV (rm' := rm_X7_study) (n := n2) C (kp_X7_study_met h1) lk_59 gw_382 gw_383 xv_7 rfl hr3 ht4 rfl (Nat.le_of_ble_eq_true rfl) ⟨Nat.le_of_ble_eq_true rfl, Nat.le_of_ble_eq_true rfl, (Nat.le_of_ble_eq_true rfl), (Nat.le_of_ble_eq_true rfl)⟩ dX11_prepareSolver_17 xm_kx (xm_kv (fun S5 h1 => ?_))
  refine x_aload_n C 0 dX11_prepareSolver_20 rfl rfl ?_
  obtain ⟨ht7, h1⟩ := h1
  refine x_getf_r (n := h) C rfl ht7 fd_123 (by decide) dX11_prepareSolver_21 ?_
  refine x_aload_n C 0 dX11_prepareSolver_24 rfl rfl ?_
  refine x_getf_i (n := h) C rfl ht7 fd_125 (by decide) dX11_prepareSolver_25 ?_
  refine x_aload_n C 0 dX11_prepareSolver_28 rfl rfl ?_
  refine x_getf_r (n := h) C rfl ht7 fd_115 (by decide) dX11_prepareSolver_29 ?_
  refine x_iload_n C 1 dX11_prepareSolver_32 rfl rfl ?_
  obtain ⟨n8, hr9, h1⟩ := h1
  obtain ⟨z11, ht10, h1⟩ := h1
  obtain ⟨hi12, h1⟩ := h1
  refine x_aald (n := n8) C hr9 (by decide) rfl ht10 hi12 dX11_prepareSolver_33 ?_
  refine x_iload_n C 2 dX11_prepareSolver_34 rfl rfl ?_
  obtain ⟨n13, hr14, h1⟩ := h1
  obtain ⟨ht15, h1⟩ := h1
  refine x_callV (rm' := rm_X7_permit) (n := n13) C (kp_X7_permit_met h1) lk_60 gw_387 gw_388 xv_7 rfl hr14 ht15 rfl (Nat.le_of_ble_eq_true rfl) ⟨Nat.le_of_ble_eq_true rfl, Nat.le_of_ble_eq_true rfl, (Nat.le_of_ble_eq_true rfl), (Nat.le_of_ble_eq_true rfl)⟩ dX11_prepareSolver_35 xm_kx (xm_kv (fun S16 h1 => ?_))
  exact x_vret C (Nat.le_of_ble_eq_true rfl) (Nat.le_of_ble_eq_true rfl) rfl dX11_prepareSolver_38 (hg _ h1)
theorem kp_X11_prepareSolver_met {h : Nat} {x1 : Int32} {x2 : Int32} {S : xm_S} {g : xm_S → Prop}  (h1 : wp_X11_prepareSolver h x1 x2 S g) : xm_Met yX11_prepareSolver cX11_prepareSolver 3 none rm_X11_prepareSolver [xm_r (some h), xm_i x1, xm_i x2] S (xm_qv g) xm_nox :=
  xm_ofW RX11 (by decide +kernel) rfl (Nat.le_of_ble_eq_true rfl) (fun K C N hq hx hi => kp_X11_prepareSolver h x1 x2 S C N (fun S h => by rw [hq]; exact ⟨rfl, h⟩)  h1)
def rm_X11_closures : Room := { frames := 38, cells := 1, slots := 6, locals := 2150 }
theorem dX11_closures_0 : decode cX11_closures 0 = .ok (.iload_n 1, 1) := by decide +kernel
theorem dX11_closures_1 : decode cX11_closures 1 = .ok (.invokestatic 212, 3) := by decide +kernel
theorem dX11_closures_4 : decode cX11_closures 4 = .ok (.aload_n 0, 1) := by decide +kernel
theorem dX11_closures_5 : decode cX11_closures 5 = .ok (.iload_n 1, 1) := by decide +kernel
theorem dX11_closures_6 : decode cX11_closures 6 = .ok (.iconst 0, 1) := by decide +kernel
theorem dX11_closures_7 : decode cX11_closures 7 = .ok (.invokevirtual 215, 3) := by decide +kernel
theorem dX11_closures_10 : decode cX11_closures 10 = .ok (.aload_n 0, 1) := by decide +kernel
theorem dX11_closures_11 : decode cX11_closures 11 = .ok (.getfield 59, 3) := by decide +kernel
theorem dX11_closures_14 : decode cX11_closures 14 = .ok (.aload_n 0, 1) := by decide +kernel
theorem dX11_closures_15 : decode cX11_closures 15 = .ok (.invokevirtual 218, 3) := by decide +kernel
theorem dX11_closures_18 : decode cX11_closures 18 = .ok (.iconst 1, 1) := by decide +kernel
theorem dX11_closures_19 : decode cX11_closures 19 = .ok (.invokevirtual 221, 3) := by decide +kernel
theorem dX11_closures_22 : decode cX11_closures 22 = .ok (.ireturn, 1) := by decide +kernel
def wp_X11_closures (h : Nat) (x1 : Int32) (S : xm_S) (g : Int32 → xm_S → Prop) (Ex : String → xm_S → Prop) : Prop :=
  wp_X11_checkPlatform x1 S (fun S1 => st_t S1 h = some (11, 0) ∧ wp_X11_prepareSolver h x1 (0 : Int32) S1 (fun S4 => st_t S4 h = some (11, 0) ∧ wp_X11_allWishes h S4 (fun r8 S7 => ∃ n9, (st_r S4 h 10) = some n9 ∧ st_t S7 n9 = some (7, 0) ∧ wp_X7_seek n9 r8 (1 : Int32) S7 (fun r13 S12 => g r13 S12)))) Ex
set_option maxRecDepth 100000 in
set_option maxHeartbeats 4000000 in
theorem kp_X11_closures {K : xm_K} (h : Nat) (x1 : Int32) (S : xm_S) {g : Int32 → xm_S → Prop} {Ex : String → xm_S → Prop} (C : xm_Cx K cX11_closures RX11 2 (some (FieldType.int)) rm_X11_closures) (N : xm_Nx K) (hg : ∀ v S, g v S → xm_q K (some (xm_i v)) S) (hEx : ∀ X S, Ex X S → xm_x K X S)  (h1 : wp_X11_closures h x1 S g Ex) : xm_W K 0 0 0 [(0, xm_r (some h)), (1, xm_i x1)] [] S := by
  unfold wp_X11_closures at h1
  refine x_iload_n C 1 dX11_closures_0 rfl rfl ?_
  refine x_callS (rm' := rm_X11_checkPlatform) C (kp_X11_checkPlatform_met h1) lk_58 gw_373 rfl (Nat.le_of_ble_eq_true rfl) ⟨Nat.le_of_ble_eq_true rfl, Nat.le_of_ble_eq_true rfl, (Nat.le_of_ble_eq_true rfl), (Nat.le_of_ble_eq_true rfl)⟩ dX11_closures_1 (fun X9 S9 hx9 => x_thru C N (Nat.le_of_ble_eq_true rfl) (Nat.le_of_ble_eq_true rfl) (hEx _ _ hx9)) (xm_kv (fun S1 h1 => ?_))
  refine x_aload_n C 0 dX11_closures_4 rfl rfl ?_
  refine x_iload_n C 1 dX11_closures_5 rfl rfl ?_
  refine x_iconst (v := (0 : Int32)) C dX11_closures_6 (by decide) ?_
  obtain ⟨ht3, h1⟩ := h1
  refine x_callV (rm' := rm_X11_prepareSolver) (n := h) C (kp_X11_prepareSolver_met h1) lk_61 gw_391 gw_392 xv_11 rfl rfl ht3 rfl (Nat.le_of_ble_eq_true rfl) ⟨Nat.le_of_ble_eq_true rfl, Nat.le_of_ble_eq_true rfl, (Nat.le_of_ble_eq_true rfl), (Nat.le_of_ble_eq_true rfl)⟩ dX11_closures_7 xm_kx (xm_kv (fun S4 h1 => ?_))
  refine x_aload_n C 0 dX11_closures_10 rfl rfl ?_
  obtain ⟨ht6, h1⟩ := h1
  refine x_getf_r (n := h) C rfl ht6 fd_123 (by decide) dX11_closures_11 ?_
  refine x_aload_n C 0 dX11_closures_14 rfl rfl ?_
  refine x_callV (rm' := rm_X11_allWishes) (n := h) C (kp_X11_allWishes_met h1) lk_62 gw_395 gw_396 xv_11 rfl rfl ht6 rfl (Nat.le_of_ble_eq_true rfl) ⟨Nat.le_of_ble_eq_true rfl, Nat.le_of_ble_eq_true rfl, (Nat.le_of_ble_eq_true rfl), (Nat.le_of_ble_eq_true rfl)⟩ dX11_closures_15 xm_kx (xm_ki (fun r8 S7 h1 => ?_))
  refine x_iconst (v := (1 : Int32)) C dX11_closures_18 (by decide) ?_
  obtain ⟨n9, hr10, h1⟩ := h1
  obtain ⟨ht11, h1⟩ := h1
  refine x_callV (rm' := rm_X7_seek) (n := n9) C (kp_X7_seek_met h1) lk_63 gw_399 gw_400 xv_7 rfl hr10 ht11 rfl (Nat.le_of_ble_eq_true rfl) ⟨Nat.le_of_ble_eq_true rfl, Nat.le_of_ble_eq_true rfl, (Nat.le_of_ble_eq_true rfl), (Nat.le_of_ble_eq_true rfl)⟩ dX11_closures_19 xm_kx (xm_ki (fun r13 S12 h1 => ?_))
  exact x_iret C (Nat.le_of_ble_eq_true rfl) (Nat.le_of_ble_eq_true rfl) rfl dX11_closures_22 (hg _ _ h1)
theorem kp_X11_closures_met {h : Nat} {x1 : Int32} {S : xm_S} {g : Int32 → xm_S → Prop} {Ex : String → xm_S → Prop}  (h1 : wp_X11_closures h x1 S g Ex) : xm_Met yX11_closures cX11_closures 2 (some (FieldType.int)) rm_X11_closures [xm_r (some h), xm_i x1] S (xm_qi g) Ex :=
  xm_ofW RX11 (by decide +kernel) rfl (Nat.le_of_ble_eq_true rfl) (fun K C N hq hx hi => kp_X11_closures h x1 S C N (fun v S h => by rw [hq]; exact ⟨v, rfl, h⟩) (fun X S h => by rw [hx]; exact h)  h1)
def rm_X11_collect : Room := { frames := 3, cells := 0, slots := 0, locals := 65 }
theorem dX11_collect_0 : decode cX11_collect 0 = .ok (.aload_n 0, 1) := by decide +kernel
theorem dX11_collect_1 : decode cX11_collect 1 = .ok (.getfield 85, 3) := by decide +kernel
theorem dX11_collect_4 : decode cX11_collect 4 = .ok (.invokevirtual 338, 3) := by decide +kernel
theorem dX11_collect_7 : decode cX11_collect 7 = .ok (.ireturn, 1) := by decide +kernel
def wp_X11_collect (h : Nat)  (S : xm_S) (g : Int32 → xm_S → Prop) : Prop :=
  st_t S h = some (11, 0) ∧ ∃ n2, (st_r S h 17) = some n2 ∧ st_t S n2 = some (2, 0) ∧ wp_X2_sweep n2 S (fun r6 S5 => g r6 S5)
set_option maxRecDepth 100000 in
set_option maxHeartbeats 4000000 in
theorem kp_X11_collect {K : xm_K} (h : Nat)  (S : xm_S) {g : Int32 → xm_S → Prop} (C : xm_Cx K cX11_collect RX11 1 (some (FieldType.int)) rm_X11_collect) (N : xm_Nx K) (hg : ∀ v S, g v S → xm_q K (some (xm_i v)) S)  (h1 : wp_X11_collect h  S g) : xm_W K 0 0 0 [(0, xm_r (some h))] [] S := by
  unfold wp_X11_collect at h1
  refine x_aload_n C 0 dX11_collect_0 rfl rfl ?_
  obtain ⟨ht1, h1⟩ := h1
  refine x_getf_r (n := h) C rfl ht1 fd_120 (by decide) dX11_collect_1 ?_
  obtain ⟨n2, hr3, h1⟩ := h1
  obtain ⟨ht4, h1⟩ := h1
  refine x_callV (rm' := rm_X2_sweep) (n := n2) C (kp_X2_sweep_met h1) lk_64 gw_403 gw_404 xv_2 rfl hr3 ht4 rfl (Nat.le_of_ble_eq_true rfl) ⟨Nat.le_of_ble_eq_true rfl, Nat.le_of_ble_eq_true rfl, (Nat.le_of_ble_eq_true rfl), (Nat.le_of_ble_eq_true rfl)⟩ dX11_collect_4 xm_kx (xm_ki (fun r6 S5 h1 => ?_))
  exact x_iret C (Nat.le_of_ble_eq_true rfl) (Nat.le_of_ble_eq_true rfl) rfl dX11_collect_7 (hg _ _ h1)
theorem kp_X11_collect_met {h : Nat}  {S : xm_S} {g : Int32 → xm_S → Prop}  (h1 : wp_X11_collect h  S g) : xm_Met yX11_collect cX11_collect 1 (some (FieldType.int)) rm_X11_collect [xm_r (some h)] S (xm_qi g) xm_nox :=
  xm_ofW RX11 (by decide +kernel) rfl (Nat.le_of_ble_eq_true rfl) (fun K C N hq hx hi => kp_X11_collect h  S C N (fun v S h => by rw [hq]; exact ⟨v, rfl, h⟩)  h1)
def rm_X11_compare : Room := { frames := 8, cells := 4, slots := 24, locals := 142 }
theorem dX11_compare_0 : decode cX11_compare 0 = .ok (.aload_n 0, 1) := by decide +kernel
theorem dX11_compare_1 : decode cX11_compare 1 = .ok (.iload_n 1, 1) := by decide +kernel
theorem dX11_compare_2 : decode cX11_compare 2 = .ok (.iload_n 2, 1) := by decide +kernel
theorem dX11_compare_3 : decode cX11_compare 3 = .ok (.invokevirtual 152, 3) := by decide +kernel
theorem dX11_compare_6 : decode cX11_compare 6 = .ok (.aload_n 0, 1) := by decide +kernel
theorem dX11_compare_7 : decode cX11_compare 7 = .ok (.iload_n 1, 1) := by decide +kernel
theorem dX11_compare_8 : decode cX11_compare 8 = .ok (.iload_n 3, 1) := by decide +kernel
theorem dX11_compare_9 : decode cX11_compare 9 = .ok (.invokevirtual 152, 3) := by decide +kernel
theorem dX11_compare_12 : decode cX11_compare 12 = .ok (.aload_n 0, 1) := by decide +kernel
theorem dX11_compare_13 : decode cX11_compare 13 = .ok (.getfield 18, 3) := by decide +kernel
theorem dX11_compare_16 : decode cX11_compare 16 = .ok (.iload_n 1, 1) := by decide +kernel
theorem dX11_compare_17 : decode cX11_compare 17 = .ok (.aaload, 1) := by decide +kernel
theorem dX11_compare_18 : decode cX11_compare 18 = .ok (.iload_n 2, 1) := by decide +kernel
theorem dX11_compare_19 : decode cX11_compare 19 = .ok (.iload_n 3, 1) := by decide +kernel
theorem dX11_compare_20 : decode cX11_compare 20 = .ok (.invokevirtual 199, 3) := by decide +kernel
theorem dX11_compare_23 : decode cX11_compare 23 = .ok (.ireturn, 1) := by decide +kernel
def wp_X11_compare (h : Nat) (x1 : Int32) (x2 : Int32) (x3 : Int32) (S : xm_S) (g : Int32 → xm_S → Prop) (Ex : String → xm_S → Prop) : Prop :=
  st_t S h = some (11, 0) ∧ wp_X11_checkVersion h x1 x2 S (fun S2 => st_t S2 h = some (11, 0) ∧ wp_X11_checkVersion h x1 x3 S2 (fun S5 => st_t S5 h = some (11, 0) ∧ ∃ n8, (st_r S5 h 1) = some n8 ∧ ∃ z11, st_t S5 n8 = some (115, z11) ∧ vp_in x1 z11 ∧ ∃ n13, (st_r S5 n8 (x1).toNatClampNeg) = some n13 ∧ st_t S5 n13 = some (5, 0) ∧ wp_X5_order n13 x2 x3 S5 (fun r17 S16 => g r17 S16)) Ex) Ex
set_option maxRecDepth 100000 in
set_option maxHeartbeats 4000000 in
theorem kp_X11_compare {K : xm_K} (h : Nat) (x1 : Int32) (x2 : Int32) (x3 : Int32) (S : xm_S) {g : Int32 → xm_S → Prop} {Ex : String → xm_S → Prop} (C : xm_Cx K cX11_compare RX11 4 (some (FieldType.int)) rm_X11_compare) (N : xm_Nx K) (hg : ∀ v S, g v S → xm_q K (some (xm_i v)) S) (hEx : ∀ X S, Ex X S → xm_x K X S)  (h1 : wp_X11_compare h x1 x2 x3 S g Ex) : xm_W K 0 0 0 [(0, xm_r (some h)), (1, xm_i x1), (2, xm_i x2), (3, xm_i x3)] [] S := by
  unfold wp_X11_compare at h1
  refine x_aload_n C 0 dX11_compare_0 rfl rfl ?_
  refine x_iload_n C 1 dX11_compare_1 rfl rfl ?_
  refine x_iload_n C 2 dX11_compare_2 rfl rfl ?_
  obtain ⟨ht1, h1⟩ := h1
  refine x_callV (rm' := rm_X11_checkVersion) (n := h) C (kp_X11_checkVersion_met h1) lk_65 gw_407 gw_408 xv_11 rfl rfl ht1 rfl (Nat.le_of_ble_eq_true rfl) ⟨Nat.le_of_ble_eq_true rfl, Nat.le_of_ble_eq_true rfl, (Nat.le_of_ble_eq_true rfl), (Nat.le_of_ble_eq_true rfl)⟩ dX11_compare_3 (fun X9 S9 hx9 => x_thru C N (Nat.le_of_ble_eq_true rfl) (Nat.le_of_ble_eq_true rfl) (hEx _ _ hx9)) (xm_kv (fun S2 h1 => ?_))
  refine x_aload_n C 0 dX11_compare_6 rfl rfl ?_
  refine x_iload_n C 1 dX11_compare_7 rfl rfl ?_
  refine x_iload_n C 3 dX11_compare_8 rfl rfl ?_
  obtain ⟨ht4, h1⟩ := h1
  refine x_callV (rm' := rm_X11_checkVersion) (n := h) C (kp_X11_checkVersion_met h1) lk_65 gw_407 gw_408 xv_11 rfl rfl ht4 rfl (Nat.le_of_ble_eq_true rfl) ⟨Nat.le_of_ble_eq_true rfl, Nat.le_of_ble_eq_true rfl, (Nat.le_of_ble_eq_true rfl), (Nat.le_of_ble_eq_true rfl)⟩ dX11_compare_9 (fun X9 S9 hx9 => x_thru C N (Nat.le_of_ble_eq_true rfl) (Nat.le_of_ble_eq_true rfl) (hEx _ _ hx9)) (xm_kv (fun S5 h1 => ?_))
  refine x_aload_n C 0 dX11_compare_12 rfl rfl ?_
  obtain ⟨ht7, h1⟩ := h1
  refine x_getf_r (n := h) C rfl ht7 fd_111 (by decide) dX11_compare_13 ?_
  refine x_iload_n C 1 dX11_compare_16 rfl rfl ?_
  obtain ⟨n8, hr9, h1⟩ := h1
  obtain ⟨z11, ht10, h1⟩ := h1
  obtain ⟨hi12, h1⟩ := h1
  refine x_aald (n := n8) C hr9 (by decide) rfl ht10 hi12 dX11_compare_17 ?_
  refine x_iload_n C 2 dX11_compare_18 rfl rfl ?_
  refine x_iload_n C 3 dX11_compare_19 rfl rfl ?_
  obtain ⟨n13, hr14, h1⟩ := h1
  obtain ⟨ht15, h1⟩ := h1
  refine x_callV (rm' := rm_X5_order) (n := n13) C (kp_X5_order_met h1) lk_66 gw_178 gw_179 xv_5 rfl hr14 ht15 rfl (Nat.le_of_ble_eq_true rfl) ⟨Nat.le_of_ble_eq_true rfl, Nat.le_of_ble_eq_true rfl, (Nat.le_of_ble_eq_true rfl), (Nat.le_of_ble_eq_true rfl)⟩ dX11_compare_20 xm_kx (xm_ki (fun r17 S16 h1 => ?_))
  exact x_iret C (Nat.le_of_ble_eq_true rfl) (Nat.le_of_ble_eq_true rfl) rfl dX11_compare_23 (hg _ _ h1)
theorem kp_X11_compare_met {h : Nat} {x1 : Int32} {x2 : Int32} {x3 : Int32} {S : xm_S} {g : Int32 → xm_S → Prop} {Ex : String → xm_S → Prop}  (h1 : wp_X11_compare h x1 x2 x3 S g Ex) : xm_Met yX11_compare cX11_compare 4 (some (FieldType.int)) rm_X11_compare [xm_r (some h), xm_i x1, xm_i x2, xm_i x3] S (xm_qi g) Ex :=
  xm_ofW RX11 (by decide +kernel) rfl (Nat.le_of_ble_eq_true rfl) (fun K C N hq hx hi => kp_X11_compare h x1 x2 x3 S C N (fun v S h => by rw [hq]; exact ⟨v, rfl, h⟩) (fun X S h => by rw [hx]; exact h)  h1)
def rm_X11_conflict : Room := { frames := 8, cells := 137, slots := 492, locals := 150 }
theorem dX11_conflict_0 : decode cX11_conflict 0 = .ok (.aload_n 0, 1) := by decide +kernel
theorem dX11_conflict_1 : decode cX11_conflict 1 = .ok (.iload_n 1, 1) := by decide +kernel
theorem dX11_conflict_2 : decode cX11_conflict 2 = .ok (.iload_n 2, 1) := by decide +kernel
theorem dX11_conflict_3 : decode cX11_conflict 3 = .ok (.invokevirtual 152, 3) := by decide +kernel
theorem dX11_conflict_6 : decode cX11_conflict 6 = .ok (.iload_n 3, 1) := by decide +kernel
theorem dX11_conflict_7 : decode cX11_conflict 7 = .ok (.invokestatic 122, 3) := by decide +kernel
theorem dX11_conflict_10 : decode cX11_conflict 10 = .ok (.iload_n 1, 1) := by decide +kernel
theorem dX11_conflict_11 : decode cX11_conflict 11 = .ok (.iload_n 3, 1) := by decide +kernel
theorem dX11_conflict_12 : decode cX11_conflict 12 = .ok (.invokestatic 158, 3) := by decide +kernel
theorem dX11_conflict_15 : decode cX11_conflict 15 = .ok (.aload_n 0, 1) := by decide +kernel
theorem dX11_conflict_16 : decode cX11_conflict 16 = .ok (.invokevirtual 161, 3) := by decide +kernel
theorem dX11_conflict_19 : decode cX11_conflict 19 = .ok (.astore 4, 2) := by decide +kernel
theorem dX11_conflict_21 : decode cX11_conflict 21 = .ok (.aload_n 0, 1) := by decide +kernel
theorem dX11_conflict_22 : decode cX11_conflict 22 = .ok (.getfield 18, 3) := by decide +kernel
theorem dX11_conflict_25 : decode cX11_conflict 25 = .ok (.iload_n 1, 1) := by decide +kernel
theorem dX11_conflict_26 : decode cX11_conflict 26 = .ok (.aaload, 1) := by decide +kernel
theorem dX11_conflict_27 : decode cX11_conflict 27 = .ok (.getfield 143, 3) := by decide +kernel
theorem dX11_conflict_30 : decode cX11_conflict 30 = .ok (.iload_n 2, 1) := by decide +kernel
theorem dX11_conflict_31 : decode cX11_conflict 31 = .ok (.aaload, 1) := by decide +kernel
theorem dX11_conflict_32 : decode cX11_conflict 32 = .ok (.astore 5, 2) := by decide +kernel
theorem dX11_conflict_34 : decode cX11_conflict 34 = .ok (.aload 5, 2) := by decide +kernel
theorem dX11_conflict_36 : decode cX11_conflict 36 = .ok (.getfield 174, 3) := by decide +kernel
theorem dX11_conflict_39 : decode cX11_conflict 39 = .ok (.iconst 2, 1) := by decide +kernel
theorem dX11_conflict_40 : decode cX11_conflict 40 = .ok (.invokestatic 139, 3) := by decide +kernel
theorem dX11_conflict_43 : decode cX11_conflict 43 = .ok (.aload 5, 2) := by decide +kernel
theorem dX11_conflict_45 : decode cX11_conflict 45 = .ok (.getfield 177, 3) := by decide +kernel
theorem dX11_conflict_48 : decode cX11_conflict 48 = .ok (.aload 5, 2) := by decide +kernel
theorem dX11_conflict_50 : decode cX11_conflict 50 = .ok (.getfield 174, 3) := by decide +kernel
theorem dX11_conflict_53 : decode cX11_conflict 53 = .ok (.new 22, 3) := by decide +kernel
theorem dX11_conflict_56 : decode cX11_conflict 56 = .ok (.dup, 1) := by decide +kernel
theorem dX11_conflict_57 : decode cX11_conflict 57 = .ok (.iload_n 3, 1) := by decide +kernel
theorem dX11_conflict_58 : decode cX11_conflict 58 = .ok (.aload 4, 2) := by decide +kernel
theorem dX11_conflict_60 : decode cX11_conflict 60 = .ok (.iconst 0, 1) := by decide +kernel
theorem dX11_conflict_61 : decode cX11_conflict 61 = .ok (.bipush 7, 2) := by decide +kernel
theorem dX11_conflict_63 : decode cX11_conflict 63 = .ok (.iconst (-1), 1) := by decide +kernel
theorem dX11_conflict_64 : decode cX11_conflict 64 = .ok (.invokespecial 171, 3) := by decide +kernel
theorem dX11_conflict_67 : decode cX11_conflict 67 = .ok (.aastore, 1) := by decide +kernel
theorem dX11_conflict_68 : decode cX11_conflict 68 = .ok (.aload 5, 2) := by decide +kernel
theorem dX11_conflict_70 : decode cX11_conflict 70 = .ok (.dup, 1) := by decide +kernel
theorem dX11_conflict_71 : decode cX11_conflict 71 = .ok (.getfield 174, 3) := by decide +kernel
theorem dX11_conflict_74 : decode cX11_conflict 74 = .ok (.iconst 1, 1) := by decide +kernel
theorem dX11_conflict_75 : decode cX11_conflict 75 = .ok (.iadd, 1) := by decide +kernel
theorem dX11_conflict_76 : decode cX11_conflict 76 = .ok (.putfield 174, 3) := by decide +kernel
theorem dX11_conflict_79 : decode cX11_conflict 79 = .ok (.aload_n 0, 1) := by decide +kernel
theorem dX11_conflict_80 : decode cX11_conflict 80 = .ok (.getfield 12, 3) := by decide +kernel
theorem dX11_conflict_83 : decode cX11_conflict 83 = .ok (.invokevirtual 115, 3) := by decide +kernel
theorem dX11_conflict_86 : decode cX11_conflict 86 = .ok (.aload 5, 2) := by decide +kernel
theorem dX11_conflict_88 : decode cX11_conflict 88 = .ok (.getfield 174, 3) := by decide +kernel
theorem dX11_conflict_91 : decode cX11_conflict 91 = .ok (.ireturn, 1) := by decide +kernel
def wp_X11_conflict (h : Nat) (x1 : Int32) (x2 : Int32) (x3 : Int32) (S : xm_S) (g : Int32 → xm_S → Prop) (Ex : String → xm_S → Prop) : Prop :=
  st_t S h = some (11, 0) ∧ wp_X11_checkVersion h x1 x2 S (fun S2 => wp_X11_checkPack x3 S2 (fun S4 => wp_X11_checkOther x1 x3 S4 (fun S6 => st_t S6 h = some (11, 0) ∧ wp_X11_tapeAsRange h S6 (fun r10 S9 => st_t S9 h = some (11, 0) ∧ ∃ n12, (st_r S9 h 1) = some n12 ∧ ∃ z15, st_t S9 n12 = some (115, z15) ∧ vp_in x1 z15 ∧ ∃ n17, (st_r S9 n12 (x1).toNatClampNeg) = some n17 ∧ st_t S9 n17 = some (5, 0) ∧ ∃ n20, (st_r S9 n17 1) = some n20 ∧ ∃ z23, st_t S9 n20 = some (120, z23) ∧ vp_in x2 z23 ∧ ∃ n25, (st_r S9 n20 (x2).toNatClampNeg) = some n25 ∧ st_t S9 n25 = some (10, 0) ∧ wp_X11_checkRoom (st_i S9 n25 9) (nI 2) S9 (fun S28 => ∃ n30, (st_r S9 n20 (x2).toNatClampNeg) = some n30 ∧ st_t S28 n30 = some (10, 0) ∧ ∃ n33, (st_r S9 n20 (x2).toNatClampNeg) = some n33 ∧ st_t S28 n33 = some (10, 0) ∧ ∃ n36, st_t S28 n36 = none ∧ ∀ S38, S38 = st_nw S28 n36 (4, 0) → wp_X4_init n36 x3 r10 (0 : Int32) (nI 7) (-1 : Int32) S38 (fun S40 => ∃ n42, (st_r S28 n30 8) = some n42 ∧ ∃ z45, st_t S40 n42 = some (114, z45) ∧ vp_in (st_i S28 n33 9) z45 ∧ (∀ v9, (some n36) = some v9 → st_t S40 v9 = some (4, 0)) ∧ ∀ S48, S48 = st_pr S40 n42 ((st_i S28 n33 9)).toNatClampNeg (some n36) → ∃ n50, (st_r S9 n20 (x2).toNatClampNeg) = some n50 ∧ st_t S48 n50 = some (10, 0) ∧ ∃ n53, (st_r S9 n20 (x2).toNatClampNeg) = some n53 ∧ st_t S48 n53 = some (10, 0) ∧ ∀ S56, S56 = st_pi S48 n53 9 ((st_i S48 n50 9) + (1 : Int32)) → st_t S56 h = some (11, 0) ∧ ∃ n59, (st_r S56 h 0) = some n59 ∧ st_t S56 n59 = some (8, 0) ∧ wp_X8_clear n59 S56 (fun S62 => ∃ n64, (st_r S9 n20 (x2).toNatClampNeg) = some n64 ∧ st_t S62 n64 = some (10, 0) ∧ g (st_i S62 n64 9) S62))) Ex) Ex) Ex) Ex) Ex
set_option maxRecDepth 100000 in
set_option maxHeartbeats 4000000 in
theorem kp_X11_conflict {K : xm_K} (h : Nat) (x1 : Int32) (x2 : Int32) (x3 : Int32) (S : xm_S) {g : Int32 → xm_S → Prop} {Ex : String → xm_S → Prop} (C : xm_Cx K cX11_conflict RX11 6 (some (FieldType.int)) rm_X11_conflict) (N : xm_Nx K) (hg : ∀ v S, g v S → xm_q K (some (xm_i v)) S) (hEx : ∀ X S, Ex X S → xm_x K X S)  (h1 : wp_X11_conflict h x1 x2 x3 S g Ex) : xm_W K 0 0 0 [(0, xm_r (some h)), (1, xm_i x1), (2, xm_i x2), (3, xm_i x3)] [] S := by
  unfold wp_X11_conflict at h1
  refine x_aload_n C 0 dX11_conflict_0 rfl rfl ?_
  refine x_iload_n C 1 dX11_conflict_1 rfl rfl ?_
  refine x_iload_n C 2 dX11_conflict_2 rfl rfl ?_
  obtain ⟨ht1, h1⟩ := h1
  refine x_callV (rm' := rm_X11_checkVersion) (n := h) C (kp_X11_checkVersion_met h1) lk_65 gw_407 gw_408 xv_11 rfl rfl ht1 rfl (Nat.le_of_ble_eq_true rfl) ⟨Nat.le_of_ble_eq_true rfl, Nat.le_of_ble_eq_true rfl, (Nat.le_of_ble_eq_true rfl), (Nat.le_of_ble_eq_true rfl)⟩ dX11_conflict_3 (fun X9 S9 hx9 => x_thru C N (Nat.le_of_ble_eq_true rfl) (Nat.le_of_ble_eq_true rfl) (hEx _ _ hx9)) (xm_kv (fun S2 h1 => ?_))
  refine x_iload_n C 3 dX11_conflict_6 rfl rfl ?_
  refine x_callS (rm' := rm_X11_checkPack) C (kp_X11_checkPack_met h1) lk_50 gw_336 rfl (Nat.le_of_ble_eq_true rfl) ⟨Nat.le_of_ble_eq_true rfl, Nat.le_of_ble_eq_true rfl, (Nat.le_of_ble_eq_true rfl), (Nat.le_of_ble_eq_true rfl)⟩ dX11_conflict_7 (fun X9 S9 hx9 => x_thru C N (Nat.le_of_ble_eq_true rfl) (Nat.le_of_ble_eq_true rfl) (hEx _ _ hx9)) (xm_kv (fun S4 h1 => ?_))
  refine x_iload_n C 1 dX11_conflict_10 rfl rfl ?_
  refine x_iload_n C 3 dX11_conflict_11 rfl rfl ?_
  refine x_callS (rm' := rm_X11_checkOther) C (kp_X11_checkOther_met h1) lk_67 gw_412 rfl (Nat.le_of_ble_eq_true rfl) ⟨Nat.le_of_ble_eq_true rfl, Nat.le_of_ble_eq_true rfl, (Nat.le_of_ble_eq_true rfl), (Nat.le_of_ble_eq_true rfl)⟩ dX11_conflict_12 (fun X9 S9 hx9 => x_thru C N (Nat.le_of_ble_eq_true rfl) (Nat.le_of_ble_eq_true rfl) (hEx _ _ hx9)) (xm_kv (fun S6 h1 => ?_))
  refine x_aload_n C 0 dX11_conflict_15 rfl rfl ?_
  obtain ⟨ht8, h1⟩ := h1
  refine x_callV (rm' := rm_X11_tapeAsRange) (n := h) C (kp_X11_tapeAsRange_met h1) lk_52 gw_342 gw_343 xv_11 rfl rfl ht8 rfl (Nat.le_of_ble_eq_true rfl) ⟨Nat.le_of_ble_eq_true rfl, Nat.le_of_ble_eq_true rfl, (Nat.le_of_ble_eq_true rfl), (Nat.le_of_ble_eq_true rfl)⟩ dX11_conflict_16 (fun X9 S9 hx9 => x_thru C N (Nat.le_of_ble_eq_true rfl) (Nat.le_of_ble_eq_true rfl) (hEx _ _ hx9)) (xm_kr (fun r10 S9 h1 => ?_))
  refine x_astore (L' := [(4, xm_r r10), (0, xm_r (some h)), (1, xm_i x1), (2, xm_i x2), (3, xm_i x3)]) C dX11_conflict_19 (by decide) rfl ?_
  refine x_aload_n C 1 dX11_conflict_21 rfl rfl ?_
  obtain ⟨ht11, h1⟩ := h1
  refine x_getf_r (n := h) C rfl ht11 fd_111 (by decide) dX11_conflict_22 ?_
  refine x_iload_n C 2 dX11_conflict_25 rfl rfl ?_
  obtain ⟨n12, hr13, h1⟩ := h1
  obtain ⟨z15, ht14, h1⟩ := h1
  obtain ⟨hi16, h1⟩ := h1
  refine x_aald (n := n12) C hr13 (by decide) rfl ht14 hi16 dX11_conflict_26 ?_
  obtain ⟨n17, hr18, h1⟩ := h1
  obtain ⟨ht19, h1⟩ := h1
  refine x_getf_r (n := n17) C hr18 ht19 fd_112 (by decide) dX11_conflict_27 ?_
  refine x_iload_n C 3 dX11_conflict_30 rfl rfl ?_
  obtain ⟨n20, hr21, h1⟩ := h1
  obtain ⟨z23, ht22, h1⟩ := h1
  obtain ⟨hi24, h1⟩ := h1
  refine x_aald (n := n20) C hr21 (by decide) rfl ht22 hi24 dX11_conflict_31 ?_
  refine x_astore (L' := [(5, xm_r (st_r S9 n20 (x2).toNatClampNeg)), (4, xm_r r10), (0, xm_r (some h)), (1, xm_i x1), (2, xm_i x2), (3, xm_i x3)]) C dX11_conflict_32 (by decide) rfl ?_
  refine x_aload C 0 dX11_conflict_34 rfl ?_
  obtain ⟨n25, hr26, h1⟩ := h1
  obtain ⟨ht27, h1⟩ := h1
  refine x_getf_i (n := n25) C hr26 ht27 fd_126 (by decide) dX11_conflict_36 ?_
  refine x_iconst (v := (nI 2)) C dX11_conflict_39 (by decide) ?_
  refine x_callS (rm' := rm_X11_checkRoom) C (kp_X11_checkRoom_met h1) lk_53 gw_347 rfl (Nat.le_of_ble_eq_true rfl) ⟨Nat.le_of_ble_eq_true rfl, Nat.le_of_ble_eq_true rfl, (Nat.le_of_ble_eq_true rfl), (Nat.le_of_ble_eq_true rfl)⟩ dX11_conflict_40 (fun X9 S9 hx9 => x_thru C N (Nat.le_of_ble_eq_true rfl) (Nat.le_of_ble_eq_true rfl) (hEx _ _ hx9)) (xm_kv (fun S28 h1 => ?_))
  refine x_aload C 0 dX11_conflict_43 rfl ?_
  obtain ⟨n30, hr31, h1⟩ := h1
  obtain ⟨ht32, h1⟩ := h1
  refine x_getf_r (n := n30) C hr31 ht32 fd_127 (by decide) dX11_conflict_45 ?_
  refine x_aload C 0 dX11_conflict_48 rfl ?_
  obtain ⟨n33, hr34, h1⟩ := h1
  obtain ⟨ht35, h1⟩ := h1
  refine x_getf_i (n := n33) C hr34 ht35 fd_126 (by decide) dX11_conflict_50 ?_
  obtain ⟨n36, hn37, h1⟩ := h1
  refine x_new (n := n36) C xc_4 gw_415 hn37 (Nat.le_of_ble_eq_true rfl) (Nat.le_of_ble_eq_true rfl) dX11_conflict_53 ?_
  refine x_topS (fun S38 e39 => ?_)
  have h1 := h1 S38 e39
  refine x_dup_r C dX11_conflict_56 ?_
  refine x_iload_n C 5 dX11_conflict_57 rfl rfl ?_
  refine x_aload C 1 dX11_conflict_58 rfl ?_
  refine x_iconst (v := (0 : Int32)) C dX11_conflict_60 (by decide) ?_
  refine x_bipush (v := (nI 7)) C dX11_conflict_61 (by decide) ?_
  refine x_iconst (v := (-1 : Int32)) C dX11_conflict_63 (by decide) ?_
  refine x_callI (rm' := rm_X4_init) (n := n36) C (kp_X4_init_met h1) lk_68 gw_419 rfl rfl rfl (Nat.le_of_ble_eq_true rfl) ⟨Nat.le_of_ble_eq_true rfl, Nat.le_of_ble_eq_true rfl, (Nat.le_of_ble_eq_true rfl), (Nat.le_of_ble_eq_true rfl)⟩ dX11_conflict_64 xm_kx (xm_kv (fun S40 h1 => ?_))
  obtain ⟨n42, hr43, h1⟩ := h1
  obtain ⟨z45, ht44, h1⟩ := h1
  obtain ⟨hi46, h1⟩ := h1
  obtain ⟨hv47, h1⟩ := h1
  refine x_aast (n := n42) (ci := 4) C hr43 (by decide) rfl rfl ht44 hi46 hv47 dX11_conflict_67 ?_
  refine x_topS (fun S48 e49 => ?_)
  have h1 := h1 S48 e49
  refine x_aload C 0 dX11_conflict_68 rfl ?_
  refine x_dup_r C dX11_conflict_70 ?_
  obtain ⟨n50, hr51, h1⟩ := h1
  obtain ⟨ht52, h1⟩ := h1
  refine x_getf_i (n := n50) C hr51 ht52 fd_126 (by decide) dX11_conflict_71 ?_
  refine x_iconst (v := (1 : Int32)) C dX11_conflict_74 (by decide) ?_
  refine x_iadd C dX11_conflict_75 ?_
  obtain ⟨n53, hr54, h1⟩ := h1
  obtain ⟨ht55, h1⟩ := h1
  refine x_putf_i (n := n53) C hr54 ht55 fd_126 xc_10 (by decide) rfl ⟨rfl, rfl⟩ dX11_conflict_76 ?_
  refine x_topS (fun S56 e57 => ?_)
  have h1 := h1 S56 e57
  refine x_aload_n C 2 dX11_conflict_79 rfl rfl ?_
  obtain ⟨ht58, h1⟩ := h1
  refine x_getf_r (n := h) C rfl ht58 fd_108 (by decide) dX11_conflict_80 ?_
  obtain ⟨n59, hr60, h1⟩ := h1
  obtain ⟨ht61, h1⟩ := h1
  refine x_callV (rm' := rm_X8_clear) (n := n59) C (kp_X8_clear_met h1) lk_55 gw_356 gw_357 xv_8 rfl hr60 ht61 rfl (Nat.le_of_ble_eq_true rfl) ⟨Nat.le_of_ble_eq_true rfl, Nat.le_of_ble_eq_true rfl, (Nat.le_of_ble_eq_true rfl), (Nat.le_of_ble_eq_true rfl)⟩ dX11_conflict_83 xm_kx (xm_kv (fun S62 h1 => ?_))
  refine x_aload C 0 dX11_conflict_86 rfl ?_
  obtain ⟨n64, hr65, h1⟩ := h1
  obtain ⟨ht66, h1⟩ := h1
  refine x_getf_i (n := n64) C hr65 ht66 fd_126 (by decide) dX11_conflict_88 ?_
  exact x_iret C (Nat.le_of_ble_eq_true rfl) (Nat.le_of_ble_eq_true rfl) rfl dX11_conflict_91 (hg _ _ h1)
theorem kp_X11_conflict_met {h : Nat} {x1 : Int32} {x2 : Int32} {x3 : Int32} {S : xm_S} {g : Int32 → xm_S → Prop} {Ex : String → xm_S → Prop}  (h1 : wp_X11_conflict h x1 x2 x3 S g Ex) : xm_Met yX11_conflict cX11_conflict 6 (some (FieldType.int)) rm_X11_conflict [xm_r (some h), xm_i x1, xm_i x2, xm_i x3] S (xm_qi g) Ex :=
  xm_ofW RX11 (by decide +kernel) rfl (Nat.le_of_ble_eq_true rfl) (fun K C N hq hx hi => kp_X11_conflict h x1 x2 x3 S C N (fun v S h => by rw [hq]; exact ⟨v, rfl, h⟩) (fun X S h => by rw [hx]; exact h)  h1)
def rm_X11_divert : Room := { frames := 7, cells := 4, slots := 24, locals := 122 }
theorem dX11_divert_0 : decode cX11_divert 0 = .ok (.iload_n 1, 1) := by decide +kernel
theorem dX11_divert_1 : decode cX11_divert 1 = .ok (.iconst (-1), 1) := by decide +kernel
theorem dX11_divert_2 : decode cX11_divert 2 = .ok (.if_icmp .eq 7, 3) := by decide +kernel
theorem dX11_divert_5 : decode cX11_divert 5 = .ok (.iload_n 1, 1) := by decide +kernel
theorem dX11_divert_6 : decode cX11_divert 6 = .ok (.invokestatic 122, 3) := by decide +kernel
theorem dX11_divert_9 : decode cX11_divert 9 = .ok (.iload_n 2, 1) := by decide +kernel
theorem dX11_divert_10 : decode cX11_divert 10 = .ok (.iconst 0, 1) := by decide +kernel
theorem dX11_divert_11 : decode cX11_divert 11 = .ok (.bipush 15, 2) := by decide +kernel
theorem dX11_divert_13 : decode cX11_divert 13 = .ok (.invokestatic 132, 3) := by decide +kernel
theorem dX11_divert_16 : decode cX11_divert 16 = .ok (.iload_n 3, 1) := by decide +kernel
theorem dX11_divert_17 : decode cX11_divert 17 = .ok (.iconst 0, 1) := by decide +kernel
theorem dX11_divert_18 : decode cX11_divert 18 = .ok (.bipush 15, 2) := by decide +kernel
theorem dX11_divert_20 : decode cX11_divert 20 = .ok (.invokestatic 132, 3) := by decide +kernel
theorem dX11_divert_23 : decode cX11_divert 23 = .ok (.iload_n 2, 1) := by decide +kernel
theorem dX11_divert_24 : decode cX11_divert 24 = .ok (.iload_n 3, 1) := by decide +kernel
theorem dX11_divert_25 : decode cX11_divert 25 = .ok (.if_icmp .ne 14, 3) := by decide +kernel
theorem dX11_divert_28 : decode cX11_divert 28 = .ok (.new 90, 3) := by decide +kernel
theorem dX11_divert_31 : decode cX11_divert 31 = .ok (.dup, 1) := by decide +kernel
theorem dX11_divert_32 : decode cX11_divert 32 = .ok (.ldc_w 290, 3) := by decide +kernel
theorem dX11_divert_35 : decode cX11_divert 35 = .ok (.invokespecial 94, 3) := by decide +kernel
theorem dX11_divert_38 : decode cX11_divert 38 = .ok (.athrow, 1) := by decide +kernel
theorem dX11_divert_39 : decode cX11_divert 39 = .ok (.aload_n 0, 1) := by decide +kernel
theorem dX11_divert_40 : decode cX11_divert 40 = .ok (.getfield 85, 3) := by decide +kernel
theorem dX11_divert_43 : decode cX11_divert 43 = .ok (.iload_n 1, 1) := by decide +kernel
theorem dX11_divert_44 : decode cX11_divert 44 = .ok (.iload_n 2, 1) := by decide +kernel
theorem dX11_divert_45 : decode cX11_divert 45 = .ok (.iload_n 3, 1) := by decide +kernel
theorem dX11_divert_46 : decode cX11_divert 46 = .ok (.invokevirtual 292, 3) := by decide +kernel
theorem dX11_divert_49 : decode cX11_divert 49 = .ok (.ireturn, 1) := by decide +kernel
def wp_X11_divert_9 (h : Nat) (x1 : Int32) (x2 : Int32) (x3 : Int32) (S : xm_S) (g : Int32 → xm_S → Prop) (Ex : String → xm_S → Prop) : Prop :=
  wp_X11_checkRange x2 (0 : Int32) (nI 15) S (fun S1 => wp_X11_checkRange x3 (0 : Int32) (nI 15) S1 (fun S3 => (¬ x2 = x3 → st_t S3 h = some (11, 0) ∧ ∃ n6, (st_r S3 h 17) = some n6 ∧ st_t S3 n6 = some (2, 0) ∧ wp_X2_setDiversion n6 x1 x2 x3 S3 (fun r10 S9 => g r10 S9)) ∧ (x2 = x3 → Ex xm_eA S3)) Ex) Ex
set_option maxRecDepth 100000 in
set_option maxHeartbeats 4000000 in
theorem kp_X11_divert_9 {K : xm_K} (h : Nat) (x1 : Int32) (x2 : Int32) (x3 : Int32) (S : xm_S) {g : Int32 → xm_S → Prop} {Ex : String → xm_S → Prop} (C : xm_Cx K cX11_divert RX11 4 (some (FieldType.int)) rm_X11_divert) (N : xm_Nx K) (hg : ∀ v S, g v S → xm_q K (some (xm_i v)) S) (hEx : ∀ X S, Ex X S → xm_x K X S)  (h1 : wp_X11_divert_9 h x1 x2 x3 S g Ex) : xm_W K 1 6 9 [(0, xm_r (some h)), (1, xm_i x1), (2, xm_i x2), (3, xm_i x3)] [] S := by
  unfold wp_X11_divert_9 at h1
  refine x_iload_n C 2 dX11_divert_9 rfl rfl ?_
  refine x_iconst (v := (0 : Int32)) C dX11_divert_10 (by decide) ?_
  refine x_bipush (v := (nI 15)) C dX11_divert_11 (by decide) ?_
  refine x_callS (rm' := rm_X11_checkRange) C (kp_X11_checkRange_met h1) lk_51 gw_339 rfl (Nat.le_of_ble_eq_true rfl) ⟨Nat.le_of_ble_eq_true rfl, Nat.le_of_ble_eq_true rfl, (Nat.le_of_ble_eq_true rfl), (Nat.le_of_ble_eq_true rfl)⟩ dX11_divert_13 (fun X9 S9 hx9 => x_thru C N (Nat.le_of_ble_eq_true rfl) (Nat.le_of_ble_eq_true rfl) (hEx _ _ hx9)) (xm_kv (fun S1 h1 => ?_))
  refine x_iload_n C 3 dX11_divert_16 rfl rfl ?_
  refine x_iconst (v := (0 : Int32)) C dX11_divert_17 (by decide) ?_
  refine x_bipush (v := (nI 15)) C dX11_divert_18 (by decide) ?_
  refine x_callS (rm' := rm_X11_checkRange) C (kp_X11_checkRange_met h1) lk_51 gw_339 rfl (Nat.le_of_ble_eq_true rfl) ⟨Nat.le_of_ble_eq_true rfl, Nat.le_of_ble_eq_true rfl, (Nat.le_of_ble_eq_true rfl), (Nat.le_of_ble_eq_true rfl)⟩ dX11_divert_20 (fun X9 S9 hx9 => x_thru C N (Nat.le_of_ble_eq_true rfl) (Nat.le_of_ble_eq_true rfl) (hEx _ _ hx9)) (xm_kv (fun S3 h1 => ?_))
  refine x_iload_n C 2 dX11_divert_23 rfl rfl ?_
  refine x_iload_n C 3 dX11_divert_24 rfl rfl ?_
  refine x_icmp_ne (tgt := 39) C dX11_divert_25 (by decide) (fun z9 => ?_) (fun z9 => ?_)
  · have h1 := h1.1 z9
    refine x_aload_n C 0 dX11_divert_39 rfl rfl ?_
    obtain ⟨ht5, h1⟩ := h1
    refine x_getf_r (n := h) C rfl ht5 fd_120 (by decide) dX11_divert_40 ?_
    refine x_iload_n C 1 dX11_divert_43 rfl rfl ?_
    refine x_iload_n C 2 dX11_divert_44 rfl rfl ?_
    refine x_iload_n C 3 dX11_divert_45 rfl rfl ?_
    obtain ⟨n6, hr7, h1⟩ := h1
    obtain ⟨ht8, h1⟩ := h1
    refine x_callV (rm' := rm_X2_setDiversion) (n := n6) C (kp_X2_setDiversion_met h1) lk_69 gw_422 gw_423 xv_2 rfl hr7 ht8 rfl (Nat.le_of_ble_eq_true rfl) ⟨Nat.le_of_ble_eq_true rfl, Nat.le_of_ble_eq_true rfl, (Nat.le_of_ble_eq_true rfl), (Nat.le_of_ble_eq_true rfl)⟩ dX11_divert_46 xm_kx (xm_ki (fun r10 S9 h1 => ?_))
    exact x_iret C (Nat.le_of_ble_eq_true rfl) (Nat.le_of_ble_eq_true rfl) rfl dX11_divert_49 (hg _ _ h1)
  · have h1 := h1.2 z9
    exact x_throw (text := "a path is diverted to another one") C N th_A_in th_A_fit gw_327 gw_328 (by decide +kernel) th_A_at th_A_no th_A_ot (Nat.le_of_ble_eq_true rfl) ⟨Nat.le_of_ble_eq_true rfl, Nat.le_of_ble_eq_true rfl, (Nat.le_of_ble_eq_true rfl), (Nat.le_of_ble_eq_true rfl)⟩ dX11_divert_28 dX11_divert_31 (Or.inr ⟨dX11_divert_32, dX11_divert_35, dX11_divert_38⟩) (hEx _ _ h1)
def wp_X11_divert (h : Nat) (x1 : Int32) (x2 : Int32) (x3 : Int32) (S : xm_S) (g : Int32 → xm_S → Prop) (Ex : String → xm_S → Prop) : Prop :=
  (x1 = (-1 : Int32) → wp_X11_divert_9 h x1 x2 x3 S g Ex) ∧ (¬ x1 = (-1 : Int32) → wp_X11_checkPack x1 S (fun S11 => wp_X11_divert_9 h x1 x2 x3 S11 g Ex) Ex)
set_option maxRecDepth 100000 in
set_option maxHeartbeats 4000000 in
theorem kp_X11_divert {K : xm_K} (h : Nat) (x1 : Int32) (x2 : Int32) (x3 : Int32) (S : xm_S) {g : Int32 → xm_S → Prop} {Ex : String → xm_S → Prop} (C : xm_Cx K cX11_divert RX11 4 (some (FieldType.int)) rm_X11_divert) (N : xm_Nx K) (hg : ∀ v S, g v S → xm_q K (some (xm_i v)) S) (hEx : ∀ X S, Ex X S → xm_x K X S)  (h1 : wp_X11_divert h x1 x2 x3 S g Ex) : xm_W K 0 0 0 [(0, xm_r (some h)), (1, xm_i x1), (2, xm_i x2), (3, xm_i x3)] [] S := by
  unfold wp_X11_divert at h1
  refine x_iload_n C 1 dX11_divert_0 rfl rfl ?_
  refine x_iconst (v := (-1 : Int32)) C dX11_divert_1 (by decide) ?_
  refine x_icmp_eq (tgt := 9) C dX11_divert_2 (by decide) (fun z9 => ?_) (fun z9 => ?_)
  · have h1 := h1.1 z9
    refine x_cs (cells' := 1) (slots' := 6) C (Nat.le_of_ble_eq_true rfl) (Nat.le_of_ble_eq_true rfl) ?_
    exact kp_X11_divert_9 h x1 x2 x3 S C N hg hEx  h1
  · have h1 := h1.2 z9
    refine x_iload_n C 1 dX11_divert_5 rfl rfl ?_
    refine x_callS (rm' := rm_X11_checkPack) C (kp_X11_checkPack_met h1) lk_50 gw_336 rfl (Nat.le_of_ble_eq_true rfl) ⟨Nat.le_of_ble_eq_true rfl, Nat.le_of_ble_eq_true rfl, (Nat.le_of_ble_eq_true rfl), (Nat.le_of_ble_eq_true rfl)⟩ dX11_divert_6 (fun X9 S9 hx9 => x_thru C N (Nat.le_of_ble_eq_true rfl) (Nat.le_of_ble_eq_true rfl) (hEx _ _ hx9)) (xm_kv (fun S11 h1 => ?_))
    exact kp_X11_divert_9 h x1 x2 x3 S11 C N hg hEx  h1
theorem kp_X11_divert_met {h : Nat} {x1 : Int32} {x2 : Int32} {x3 : Int32} {S : xm_S} {g : Int32 → xm_S → Prop} {Ex : String → xm_S → Prop}  (h1 : wp_X11_divert h x1 x2 x3 S g Ex) : xm_Met yX11_divert cX11_divert 4 (some (FieldType.int)) rm_X11_divert [xm_r (some h), xm_i x1, xm_i x2, xm_i x3] S (xm_qi g) Ex :=
  xm_ofW RX11 (by decide +kernel) rfl (Nat.le_of_ble_eq_true rfl) (fun K C N hq hx hi => kp_X11_divert h x1 x2 x3 S C N (fun v S h => by rw [hq]; exact ⟨v, rfl, h⟩) (fun X S h => by rw [hx]; exact h)  h1)
def rm_X11_edit : Room := { frames := 7, cells := 3, slots := 18, locals := 122 }
theorem dX11_edit_0 : decode cX11_edit 0 = .ok (.iload_n 1, 1) := by decide +kernel
theorem dX11_edit_1 : decode cX11_edit 1 = .ok (.iconst 0, 1) := by decide +kernel
theorem dX11_edit_2 : decode cX11_edit 2 = .ok (.bipush 15, 2) := by decide +kernel
theorem dX11_edit_4 : decode cX11_edit 4 = .ok (.invokestatic 132, 3) := by decide +kernel
theorem dX11_edit_7 : decode cX11_edit 7 = .ok (.iload_n 2, 1) := by decide +kernel
theorem dX11_edit_8 : decode cX11_edit 8 = .ok (.iconst 0, 1) := by decide +kernel
theorem dX11_edit_9 : decode cX11_edit 9 = .ok (.sipush 999, 3) := by decide +kernel
theorem dX11_edit_12 : decode cX11_edit 12 = .ok (.invokestatic 132, 3) := by decide +kernel
theorem dX11_edit_15 : decode cX11_edit 15 = .ok (.aload_n 0, 1) := by decide +kernel
theorem dX11_edit_16 : decode cX11_edit 16 = .ok (.getfield 85, 3) := by decide +kernel
theorem dX11_edit_19 : decode cX11_edit 19 = .ok (.getfield 303, 3) := by decide +kernel
theorem dX11_edit_22 : decode cX11_edit 22 = .ok (.getfield 307, 3) := by decide +kernel
theorem dX11_edit_25 : decode cX11_edit 25 = .ok (.iload_n 1, 1) := by decide +kernel
theorem dX11_edit_26 : decode cX11_edit 26 = .ok (.iaload, 1) := by decide +kernel
theorem dX11_edit_27 : decode cX11_edit 27 = .ok (.istore_n 3, 1) := by decide +kernel
theorem dX11_edit_28 : decode cX11_edit 28 = .ok (.iload_n 3, 1) := by decide +kernel
theorem dX11_edit_29 : decode cX11_edit 29 = .ok (.iconst (-1), 1) := by decide +kernel
theorem dX11_edit_30 : decode cX11_edit 30 = .ok (.if_icmp .ne 14, 3) := by decide +kernel
theorem dX11_edit_33 : decode cX11_edit 33 = .ok (.new 106, 3) := by decide +kernel
theorem dX11_edit_36 : decode cX11_edit 36 = .ok (.dup, 1) := by decide +kernel
theorem dX11_edit_37 : decode cX11_edit 37 = .ok (.ldc_w 312, 3) := by decide +kernel
theorem dX11_edit_40 : decode cX11_edit 40 = .ok (.invokespecial 110, 3) := by decide +kernel
theorem dX11_edit_43 : decode cX11_edit 43 = .ok (.athrow, 1) := by decide +kernel
theorem dX11_edit_44 : decode cX11_edit 44 = .ok (.aload_n 0, 1) := by decide +kernel
theorem dX11_edit_45 : decode cX11_edit 45 = .ok (.getfield 85, 3) := by decide +kernel
theorem dX11_edit_48 : decode cX11_edit 48 = .ok (.getfield 303, 3) := by decide +kernel
theorem dX11_edit_51 : decode cX11_edit 51 = .ok (.getfield 307, 3) := by decide +kernel
theorem dX11_edit_54 : decode cX11_edit 54 = .ok (.iload_n 1, 1) := by decide +kernel
theorem dX11_edit_55 : decode cX11_edit 55 = .ok (.iload_n 2, 1) := by decide +kernel
theorem dX11_edit_56 : decode cX11_edit 56 = .ok (.iastore, 1) := by decide +kernel
theorem dX11_edit_57 : decode cX11_edit 57 = .ok (.iload_n 3, 1) := by decide +kernel
theorem dX11_edit_58 : decode cX11_edit 58 = .ok (.ireturn, 1) := by decide +kernel
def wp_X11_edit (h : Nat) (x1 : Int32) (x2 : Int32) (S : xm_S) (g : Int32 → xm_S → Prop) (Ex : String → xm_S → Prop) : Prop :=
  wp_X11_checkRange x1 (0 : Int32) (nI 15) S (fun S1 => wp_X11_checkRange x2 (0 : Int32) (nI 999) S1 (fun S3 => st_t S3 h = some (11, 0) ∧ ∃ n6, (st_r S3 h 17) = some n6 ∧ st_t S3 n6 = some (2, 0) ∧ ∃ n9, (st_r S3 n6 0) = some n9 ∧ st_t S3 n9 = some (3, 0) ∧ ∃ n12, (st_r S3 n9 1) = some n12 ∧ ∃ z15, st_t S3 n12 = some (100, z15) ∧ vp_in x1 z15 ∧ ∀ y17, y17 = (st_i S3 n12 (x1).toNatClampNeg) → (¬ y17 = (-1 : Int32) → ∃ n19, (st_r S3 h 17) = some n19 ∧ st_t S3 n19 = some (2, 0) ∧ ∃ n22, (st_r S3 n19 0) = some n22 ∧ st_t S3 n22 = some (3, 0) ∧ ∃ n25, (st_r S3 n22 1) = some n25 ∧ ∃ z28, st_t S3 n25 = some (100, z28) ∧ vp_in x1 z28 ∧ ∀ S30, S30 = st_pi S3 n25 (x1).toNatClampNeg x2 → g y17 S30) ∧ (y17 = (-1 : Int32) → Ex xm_eS S3)) Ex) Ex
set_option maxRecDepth 100000 in
set_option maxHeartbeats 4000000 in
theorem kp_X11_edit {K : xm_K} (h : Nat) (x1 : Int32) (x2 : Int32) (S : xm_S) {g : Int32 → xm_S → Prop} {Ex : String → xm_S → Prop} (C : xm_Cx K cX11_edit RX11 4 (some (FieldType.int)) rm_X11_edit) (N : xm_Nx K) (hg : ∀ v S, g v S → xm_q K (some (xm_i v)) S) (hEx : ∀ X S, Ex X S → xm_x K X S)  (h1 : wp_X11_edit h x1 x2 S g Ex) : xm_W K 0 0 0 [(0, xm_r (some h)), (1, xm_i x1), (2, xm_i x2)] [] S := by
  unfold wp_X11_edit at h1
  refine x_iload_n C 1 dX11_edit_0 rfl rfl ?_
  refine x_iconst (v := (0 : Int32)) C dX11_edit_1 (by decide) ?_
  refine x_bipush (v := (nI 15)) C dX11_edit_2 (by decide) ?_
  refine x_callS (rm' := rm_X11_checkRange) C (kp_X11_checkRange_met h1) lk_51 gw_339 rfl (Nat.le_of_ble_eq_true rfl) ⟨Nat.le_of_ble_eq_true rfl, Nat.le_of_ble_eq_true rfl, (Nat.le_of_ble_eq_true rfl), (Nat.le_of_ble_eq_true rfl)⟩ dX11_edit_4 (fun X9 S9 hx9 => x_thru C N (Nat.le_of_ble_eq_true rfl) (Nat.le_of_ble_eq_true rfl) (hEx _ _ hx9)) (xm_kv (fun S1 h1 => ?_))
  refine x_iload_n C 2 dX11_edit_7 rfl rfl ?_
  refine x_iconst (v := (0 : Int32)) C dX11_edit_8 (by decide) ?_
  refine x_sipush (v := (nI 999)) C dX11_edit_9 (by decide) ?_
  refine x_callS (rm' := rm_X11_checkRange) C (kp_X11_checkRange_met h1) lk_51 gw_339 rfl (Nat.le_of_ble_eq_true rfl) ⟨Nat.le_of_ble_eq_true rfl, Nat.le_of_ble_eq_true rfl, (Nat.le_of_ble_eq_true rfl), (Nat.le_of_ble_eq_true rfl)⟩ dX11_edit_12 (fun X9 S9 hx9 => x_thru C N (Nat.le_of_ble_eq_true rfl) (Nat.le_of_ble_eq_true rfl) (hEx _ _ hx9)) (xm_kv (fun S3 h1 => ?_))
  refine x_aload_n C 0 dX11_edit_15 rfl rfl ?_
  obtain ⟨ht5, h1⟩ := h1
  refine x_getf_r (n := h) C rfl ht5 fd_120 (by decide) dX11_edit_16 ?_
  obtain ⟨n6, hr7, h1⟩ := h1
  obtain ⟨ht8, h1⟩ := h1
  refine x_getf_r (n := n6) C hr7 ht8 fd_128 (by decide) dX11_edit_19 ?_
  obtain ⟨n9, hr10, h1⟩ := h1
  obtain ⟨ht11, h1⟩ := h1
  refine x_getf_r (n := n9) C hr10 ht11 fd_129 (by decide) dX11_edit_22 ?_
  refine x_iload_n C 1 dX11_edit_25 rfl rfl ?_
  obtain ⟨n12, hr13, h1⟩ := h1
  obtain ⟨z15, ht14, h1⟩ := h1
  obtain ⟨hi16, h1⟩ := h1
  refine x_iald (n := n12) C hr13 ht14 hi16 dX11_edit_26 ?_
  refine x_topi (fun y17 e18 => ?_)
  have h1 := h1 y17 e18
  refine x_istore_n (L' := [(3, xm_i y17), (0, xm_r (some h)), (1, xm_i x1), (2, xm_i x2)]) C dX11_edit_27 rfl (by decide) rfl ?_
  refine x_iload_n C 0 dX11_edit_28 rfl rfl ?_
  refine x_iconst (v := (-1 : Int32)) C dX11_edit_29 (by decide) ?_
  refine x_icmp_ne (tgt := 44) C dX11_edit_30 (by decide) (fun z9 => ?_) (fun z9 => ?_)
  · have h1 := h1.1 z9
    refine x_aload_n C 1 dX11_edit_44 rfl rfl ?_
    refine x_getf_r (n := h) C rfl ht5 fd_120 (by decide) dX11_edit_45 ?_
    obtain ⟨n19, hr20, h1⟩ := h1
    obtain ⟨ht21, h1⟩ := h1
    refine x_getf_r (n := n19) C hr20 ht21 fd_128 (by decide) dX11_edit_48 ?_
    obtain ⟨n22, hr23, h1⟩ := h1
    obtain ⟨ht24, h1⟩ := h1
    refine x_getf_r (n := n22) C hr23 ht24 fd_129 (by decide) dX11_edit_51 ?_
    refine x_iload_n C 2 dX11_edit_54 rfl rfl ?_
    refine x_iload_n C 3 dX11_edit_55 rfl rfl ?_
    obtain ⟨n25, hr26, h1⟩ := h1
    obtain ⟨z28, ht27, h1⟩ := h1
    obtain ⟨hi29, h1⟩ := h1
    refine x_iast (n := n25) C hr26 ht27 hi29 dX11_edit_56 ?_
    refine x_topS (fun S30 e31 => ?_)
    have h1 := h1 S30 e31
    refine x_iload_n C 0 dX11_edit_57 rfl rfl ?_
    exact x_iret C (Nat.le_of_ble_eq_true rfl) (Nat.le_of_ble_eq_true rfl) rfl dX11_edit_58 (hg _ _ h1)
  · have h1 := h1.2 z9
    exact x_throw (text := "the path has nothing") C N th_S_in th_S_fit gw_329 gw_330 (by decide +kernel) th_S_at th_S_no th_S_ot (Nat.le_of_ble_eq_true rfl) ⟨Nat.le_of_ble_eq_true rfl, Nat.le_of_ble_eq_true rfl, (Nat.le_of_ble_eq_true rfl), (Nat.le_of_ble_eq_true rfl)⟩ dX11_edit_33 dX11_edit_36 (Or.inr ⟨dX11_edit_37, dX11_edit_40, dX11_edit_43⟩) (hEx _ _ h1)
theorem kp_X11_edit_met {h : Nat} {x1 : Int32} {x2 : Int32} {S : xm_S} {g : Int32 → xm_S → Prop} {Ex : String → xm_S → Prop}  (h1 : wp_X11_edit h x1 x2 S g Ex) : xm_Met yX11_edit cX11_edit 4 (some (FieldType.int)) rm_X11_edit [xm_r (some h), xm_i x1, xm_i x2] S (xm_qi g) Ex :=
  xm_ofW RX11 (by decide +kernel) rfl (Nat.le_of_ble_eq_true rfl) (fun K C N hq hx hi => kp_X11_edit h x1 x2 S C N (fun v S h => by rw [hq]; exact ⟨v, rfl, h⟩) (fun X S h => by rw [hx]; exact h)  h1)
def rm_X11_fault : Room := { frames := 6, cells := 130, slots := 450, locals := 149 }
theorem dX11_fault_0 : decode cX11_fault 0 = .ok (.aload_n 0, 1) := by decide +kernel
theorem dX11_fault_1 : decode cX11_fault 1 = .ok (.getfield 12, 3) := by decide +kernel
theorem dX11_fault_4 : decode cX11_fault 4 = .ok (.invokevirtual 118, 3) := by decide +kernel
theorem dX11_fault_7 : decode cX11_fault 7 = .ok (.ireturn, 1) := by decide +kernel
def wp_X11_fault (h : Nat)  (S : xm_S) (g : Int32 → xm_S → Prop) : Prop :=
  st_t S h = some (11, 0) ∧ ∃ n2, (st_r S h 0) = some n2 ∧ st_t S n2 = some (8, 0) ∧ wp_X8_faultPlace n2 S (fun r6 S5 => g r6 S5)
set_option maxRecDepth 100000 in
set_option maxHeartbeats 4000000 in
theorem kp_X11_fault {K : xm_K} (h : Nat)  (S : xm_S) {g : Int32 → xm_S → Prop} (C : xm_Cx K cX11_fault RX11 1 (some (FieldType.int)) rm_X11_fault) (N : xm_Nx K) (hg : ∀ v S, g v S → xm_q K (some (xm_i v)) S)  (h1 : wp_X11_fault h  S g) : xm_W K 0 0 0 [(0, xm_r (some h))] [] S := by
  unfold wp_X11_fault at h1
  refine x_aload_n C 0 dX11_fault_0 rfl rfl ?_
  obtain ⟨ht1, h1⟩ := h1
  refine x_getf_r (n := h) C rfl ht1 fd_108 (by decide) dX11_fault_1 ?_
  obtain ⟨n2, hr3, h1⟩ := h1
  obtain ⟨ht4, h1⟩ := h1
  refine x_callV (rm' := rm_X8_faultPlace) (n := n2) C (kp_X8_faultPlace_met h1) lk_70 gw_428 gw_429 xv_8 rfl hr3 ht4 rfl (Nat.le_of_ble_eq_true rfl) ⟨Nat.le_of_ble_eq_true rfl, Nat.le_of_ble_eq_true rfl, (Nat.le_of_ble_eq_true rfl), (Nat.le_of_ble_eq_true rfl)⟩ dX11_fault_4 xm_kx (xm_ki (fun r6 S5 h1 => ?_))
  exact x_iret C (Nat.le_of_ble_eq_true rfl) (Nat.le_of_ble_eq_true rfl) rfl dX11_fault_7 (hg _ _ h1)
theorem kp_X11_fault_met {h : Nat}  {S : xm_S} {g : Int32 → xm_S → Prop}  (h1 : wp_X11_fault h  S g) : xm_Met yX11_fault cX11_fault 1 (some (FieldType.int)) rm_X11_fault [xm_r (some h)] S (xm_qi g) xm_nox :=
  xm_ofW RX11 (by decide +kernel) rfl (Nat.le_of_ble_eq_true rfl) (fun K C N hq hx hi => kp_X11_fault h  S C N (fun v S h => by rw [hq]; exact ⟨v, rfl, h⟩)  h1)
def rm_X11_fetch : Room := { frames := 8, cells := 2, slots := 12, locals := 142 }
theorem dX11_fetch_0 : decode cX11_fetch 0 = .ok (.aload_n 0, 1) := by decide +kernel
theorem dX11_fetch_1 : decode cX11_fetch 1 = .ok (.iload_n 1, 1) := by decide +kernel
theorem dX11_fetch_2 : decode cX11_fetch 2 = .ok (.iload_n 2, 1) := by decide +kernel
theorem dX11_fetch_3 : decode cX11_fetch 3 = .ok (.invokevirtual 152, 3) := by decide +kernel
theorem dX11_fetch_6 : decode cX11_fetch 6 = .ok (.aload_n 0, 1) := by decide +kernel
theorem dX11_fetch_7 : decode cX11_fetch 7 = .ok (.getfield 18, 3) := by decide +kernel
theorem dX11_fetch_10 : decode cX11_fetch 10 = .ok (.iload_n 1, 1) := by decide +kernel
theorem dX11_fetch_11 : decode cX11_fetch 11 = .ok (.aaload, 1) := by decide +kernel
theorem dX11_fetch_12 : decode cX11_fetch 12 = .ok (.getfield 143, 3) := by decide +kernel
theorem dX11_fetch_15 : decode cX11_fetch 15 = .ok (.iload_n 2, 1) := by decide +kernel
theorem dX11_fetch_16 : decode cX11_fetch 16 = .ok (.aaload, 1) := by decide +kernel
theorem dX11_fetch_17 : decode cX11_fetch 17 = .ok (.astore_n 3, 1) := by decide +kernel
theorem dX11_fetch_18 : decode cX11_fetch 18 = .ok (.aload_n 3, 1) := by decide +kernel
theorem dX11_fetch_19 : decode cX11_fetch 19 = .ok (.getfield 271, 3) := by decide +kernel
theorem dX11_fetch_22 : decode cX11_fetch 22 = .ok (.ifCond .eq 5, 3) := by decide +kernel
theorem dX11_fetch_25 : decode cX11_fetch 25 = .ok (.iconst 3, 1) := by decide +kernel
theorem dX11_fetch_26 : decode cX11_fetch 26 = .ok (.ireturn, 1) := by decide +kernel
theorem dX11_fetch_27 : decode cX11_fetch 27 = .ok (.iconst 0, 1) := by decide +kernel
theorem dX11_fetch_28 : decode cX11_fetch 28 = .ok (.istore 4, 2) := by decide +kernel
theorem dX11_fetch_30 : decode cX11_fetch 30 = .ok (.iload 4, 2) := by decide +kernel
theorem dX11_fetch_32 : decode cX11_fetch 32 = .ok (.iconst 3, 1) := by decide +kernel
theorem dX11_fetch_33 : decode cX11_fetch 33 = .ok (.if_icmp .ge 54, 3) := by decide +kernel
theorem dX11_fetch_36 : decode cX11_fetch 36 = .ok (.aload_n 0, 1) := by decide +kernel
theorem dX11_fetch_37 : decode cX11_fetch 37 = .ok (.getfield 75, 3) := by decide +kernel
theorem dX11_fetch_40 : decode cX11_fetch 40 = .ok (.iload 4, 2) := by decide +kernel
theorem dX11_fetch_42 : decode cX11_fetch 42 = .ok (.baload, 1) := by decide +kernel
theorem dX11_fetch_43 : decode cX11_fetch 43 = .ok (.ifCond .eq 6, 3) := by decide +kernel
theorem dX11_fetch_46 : decode cX11_fetch 46 = .ok (.goto 35, 3) := by decide +kernel
theorem dX11_fetch_49 : decode cX11_fetch 49 = .ok (.aload_n 3, 1) := by decide +kernel
theorem dX11_fetch_50 : decode cX11_fetch 50 = .ok (.iload 4, 2) := by decide +kernel
theorem dX11_fetch_52 : decode cX11_fetch 52 = .ok (.invokevirtual 265, 3) := by decide +kernel
theorem dX11_fetch_55 : decode cX11_fetch 55 = .ok (.aload_n 3, 1) := by decide +kernel
theorem dX11_fetch_56 : decode cX11_fetch 56 = .ok (.getfield 274, 3) := by decide +kernel
theorem dX11_fetch_59 : decode cX11_fetch 59 = .ok (.if_icmp .ne 11, 3) := by decide +kernel
theorem dX11_fetch_62 : decode cX11_fetch 62 = .ok (.aload_n 3, 1) := by decide +kernel
theorem dX11_fetch_63 : decode cX11_fetch 63 = .ok (.iconst 1, 1) := by decide +kernel
theorem dX11_fetch_64 : decode cX11_fetch 64 = .ok (.putfield 271, 3) := by decide +kernel
theorem dX11_fetch_67 : decode cX11_fetch 67 = .ok (.iload 4, 2) := by decide +kernel
theorem dX11_fetch_69 : decode cX11_fetch 69 = .ok (.ireturn, 1) := by decide +kernel
theorem dX11_fetch_70 : decode cX11_fetch 70 = .ok (.aload_n 0, 1) := by decide +kernel
theorem dX11_fetch_71 : decode cX11_fetch 71 = .ok (.getfield 78, 3) := by decide +kernel
theorem dX11_fetch_74 : decode cX11_fetch 74 = .ok (.iload 4, 2) := by decide +kernel
theorem dX11_fetch_76 : decode cX11_fetch 76 = .ok (.dup2, 1) := by decide +kernel
theorem dX11_fetch_77 : decode cX11_fetch 77 = .ok (.iaload, 1) := by decide +kernel
theorem dX11_fetch_78 : decode cX11_fetch 78 = .ok (.iconst 1, 1) := by decide +kernel
theorem dX11_fetch_79 : decode cX11_fetch 79 = .ok (.iadd, 1) := by decide +kernel
theorem dX11_fetch_80 : decode cX11_fetch 80 = .ok (.iastore, 1) := by decide +kernel
theorem dX11_fetch_81 : decode cX11_fetch 81 = .ok (.iinc 4 1, 3) := by decide +kernel
theorem dX11_fetch_84 : decode cX11_fetch 84 = .ok (.goto (-54), 3) := by decide +kernel
theorem dX11_fetch_87 : decode cX11_fetch 87 = .ok (.iconst (-1), 1) := by decide +kernel
theorem dX11_fetch_88 : decode cX11_fetch 88 = .ok (.ireturn, 1) := by decide +kernel
def wp_X11_fetch_81 (h : Nat) (x3 : Option Nat) (x4 : Int32) (S : xm_S) (g : Int32 → xm_S → Prop) (Ex : String → xm_S → Prop) (Z30 : Option Nat → Int32 → xm_S → Prop) : Prop :=
  ∀ y1, y1 = (x4 + (1 : Int32)) → Z30 x3 y1 S
set_option maxRecDepth 100000 in
set_option maxHeartbeats 4000000 in
theorem kp_X11_fetch_81 {K : xm_K} (h : Nat) (x3 : Option Nat) (x4 : Int32) (S : xm_S) {g : Int32 → xm_S → Prop} {Ex : String → xm_S → Prop} {Z30 : Option Nat → Int32 → xm_S → Prop} (C : xm_Cx K cX11_fetch RX11 5 (some (FieldType.int)) rm_X11_fetch) (N : xm_Nx K) (hg : ∀ v S, g v S → xm_q K (some (xm_i v)) S) (hEx : ∀ X S, Ex X S → xm_x K X S) (hZ30 : ∀ x3 x4 S, Z30 x3 x4 S → xm_W K 2 12 30 [(0, xm_r (some h)), (3, xm_r x3), (4, xm_i x4)] [] S) (h1 : wp_X11_fetch_81 h x3 x4 S g Ex Z30) : xm_W K 2 12 81 [(0, xm_r (some h)), (3, xm_r x3), (4, xm_i x4)] [] S := by
  unfold wp_X11_fetch_81 at h1
  obtain ⟨y1, e2⟩ : ∃ y1, y1 = (x4 + (1 : Int32)) := ⟨_, rfl⟩
  have h1 := h1 y1 e2
  refine x_iinc (v := y1) (L' := [(4, xm_i y1), (0, xm_r (some h)), (3, xm_r x3)]) C 2 dX11_fetch_81 rfl (by rw [e2]; rfl) (by decide) rfl ?_
  refine x_goto (tgt := 30) C dX11_fetch_84 (by decide) ?_
  refine x_keep (L' := [(0, xm_r (some h)), (3, xm_r x3), (4, xm_i y1)]) C [1, 2, 0] rfl ?_
  exact hZ30 x3 y1 S h1
def wp_X11_fetch_30B (h : Nat) (x3 : Option Nat) (x4 : Int32) (S : xm_S) (g : Int32 → xm_S → Prop) (Ex : String → xm_S → Prop) (Z30 : Option Nat → Int32 → xm_S → Prop) : Prop :=
  ((nI 3) ≤ x4 → g (-1 : Int32) S) ∧ (¬ (nI 3) ≤ x4 → st_t S h = some (11, 0) ∧ ∃ n4, (st_r S h 15) = some n4 ∧ ∃ z7, st_t S n4 = some (101, z7) ∧ vp_in x4 z7 ∧ ((st_i S n4 (x4).toNatClampNeg) = 0 → ∃ n9, x3 = some n9 ∧ st_t S n9 = some (10, 0) ∧ wp_X10_givenBy n9 x4 S (fun r13 S12 => ∃ n14, x3 = some n14 ∧ st_t S12 n14 = some (10, 0) ∧ (¬ r13 = (st_i S12 n14 3) → st_t S12 h = some (11, 0) ∧ ∃ n18, (st_r S12 h 16) = some n18 ∧ ∃ z21, st_t S12 n18 = some (100, z21) ∧ vp_in x4 z21 ∧ ∃ n23, (st_r S12 h 16) = some n23 ∧ ∃ z26, st_t S12 n23 = some (100, z26) ∧ vp_in x4 z26 ∧ ∀ S28, S28 = st_pi S12 n23 (x4).toNatClampNeg ((st_i S12 n18 (x4).toNatClampNeg) + (1 : Int32)) → wp_X11_fetch_81 h x3 x4 S28 g Ex Z30) ∧ (r13 = (st_i S12 n14 3) → ∃ n30, x3 = some n30 ∧ st_t S12 n30 = some (10, 0) ∧ ∀ S33, S33 = st_pi S12 n30 5 (1 : Int32) → g x4 S33))) ∧ (¬ (st_i S n4 (x4).toNatClampNeg) = 0 → wp_X11_fetch_81 h x3 x4 S g Ex Z30))
def wp_X11_fetch_30 (h : Nat) (x3 : Option Nat) (x4 : Int32) (S : xm_S) (g : Int32 → xm_S → Prop) (Ex : String → xm_S → Prop) : Prop :=
  ∀ Z30 : Option Nat → Int32 → xm_S → Prop, (∀ x3 x4 S, wp_X11_fetch_30B h x3 x4 S g Ex Z30 → Z30 x3 x4 S) → Z30 x3 x4 S
set_option maxRecDepth 100000 in
set_option maxHeartbeats 4000000 in
theorem kp_X11_fetch_30B {K : xm_K} (h : Nat) (x3 : Option Nat) (x4 : Int32) (S : xm_S) {g : Int32 → xm_S → Prop} {Ex : String → xm_S → Prop} {Z30 : Option Nat → Int32 → xm_S → Prop} (C : xm_Cx K cX11_fetch RX11 5 (some (FieldType.int)) rm_X11_fetch) (N : xm_Nx K) (hg : ∀ v S, g v S → xm_q K (some (xm_i v)) S) (hEx : ∀ X S, Ex X S → xm_x K X S) (hZ30 : ∀ x3 x4 S, Z30 x3 x4 S → xm_W K 2 12 30 [(0, xm_r (some h)), (3, xm_r x3), (4, xm_i x4)] [] S) (h1 : wp_X11_fetch_30B h x3 x4 S g Ex Z30) : xm_W K 2 12 30 [(0, xm_r (some h)), (3, xm_r x3), (4, xm_i x4)] [] S := by
  unfold wp_X11_fetch_30B at h1
  refine x_iload C 2 dX11_fetch_30 rfl ?_
  refine x_iconst (v := (nI 3)) C dX11_fetch_32 (by decide) ?_
  refine x_icmp_ge (tgt := 87) C dX11_fetch_33 (by decide) (fun z9 => ?_) (fun z9 => ?_)
  · have h1 := h1.1 z9
    refine x_iconst (v := (-1 : Int32)) C dX11_fetch_87 (by decide) ?_
    exact x_iret C (Nat.le_of_ble_eq_true rfl) (Nat.le_of_ble_eq_true rfl) rfl dX11_fetch_88 (hg _ _ h1)
  · have h1 := h1.2 z9
    refine x_aload_n C 0 dX11_fetch_36 rfl rfl ?_
    obtain ⟨ht3, h1⟩ := h1
    refine x_getf_r (n := h) C rfl ht3 fd_130 (by decide) dX11_fetch_37 ?_
    refine x_iload C 2 dX11_fetch_40 rfl ?_
    obtain ⟨n4, hr5, h1⟩ := h1
    obtain ⟨z7, ht6, h1⟩ := h1
    obtain ⟨hi8, h1⟩ := h1
    refine x_zald (n := n4) C hr5 ht6 hi8 dX11_fetch_42 ?_
    refine x_if_eq (tgt := 49) C dX11_fetch_43 (by decide) (fun z9 => ?_) (fun z9 => ?_)
    · have h1 := h1.1 z9
      refine x_aload_n C 1 dX11_fetch_49 rfl rfl ?_
      refine x_iload C 2 dX11_fetch_50 rfl ?_
      obtain ⟨n9, hr10, h1⟩ := h1
      obtain ⟨ht11, h1⟩ := h1
      refine x_callV (rm' := rm_X10_givenBy) (n := n9) C (kp_X10_givenBy_met h1) lk_71 gw_433 gw_434 xv_10 rfl hr10 ht11 rfl (Nat.le_of_ble_eq_true rfl) ⟨Nat.le_of_ble_eq_true rfl, Nat.le_of_ble_eq_true rfl, (Nat.le_of_ble_eq_true rfl), (Nat.le_of_ble_eq_true rfl)⟩ dX11_fetch_52 xm_kx (xm_ki (fun r13 S12 h1 => ?_))
      refine x_aload_n C 1 dX11_fetch_55 rfl rfl ?_
      obtain ⟨n14, hr15, h1⟩ := h1
      obtain ⟨ht16, h1⟩ := h1
      refine x_getf_i (n := n14) C hr15 ht16 fd_131 (by decide) dX11_fetch_56 ?_
      refine x_icmp_ne (tgt := 70) C dX11_fetch_59 (by decide) (fun z9 => ?_) (fun z9 => ?_)
      · have h1 := h1.1 z9
        refine x_aload_n C 0 dX11_fetch_70 rfl rfl ?_
        obtain ⟨ht17, h1⟩ := h1
        refine x_getf_r (n := h) C rfl ht17 fd_132 (by decide) dX11_fetch_71 ?_
        refine x_iload C 2 dX11_fetch_74 rfl ?_
        refine x_dup2_ir C dX11_fetch_76 ?_
        obtain ⟨n18, hr19, h1⟩ := h1
        obtain ⟨z21, ht20, h1⟩ := h1
        obtain ⟨hi22, h1⟩ := h1
        refine x_iald (n := n18) C hr19 ht20 hi22 dX11_fetch_77 ?_
        refine x_iconst (v := (1 : Int32)) C dX11_fetch_78 (by decide) ?_
        refine x_iadd C dX11_fetch_79 ?_
        obtain ⟨n23, hr24, h1⟩ := h1
        obtain ⟨z26, ht25, h1⟩ := h1
        obtain ⟨hi27, h1⟩ := h1
        refine x_iast (n := n23) C hr24 ht25 hi27 dX11_fetch_80 ?_
        refine x_topS (fun S28 e29 => ?_)
        have h1 := h1 S28 e29
        exact kp_X11_fetch_81 h x3 x4 S28 C N hg hEx hZ30 h1
      · have h1 := h1.2 z9
        refine x_aload_n C 1 dX11_fetch_62 rfl rfl ?_
        refine x_iconst (v := (1 : Int32)) C dX11_fetch_63 (by decide) ?_
        obtain ⟨n30, hr31, h1⟩ := h1
        obtain ⟨ht32, h1⟩ := h1
        refine x_putf_i (n := n30) C hr31 ht32 fd_133 xc_10 (by decide) rfl (xm_nz (by decide)) dX11_fetch_64 ?_
        refine x_topS (fun S33 e34 => ?_)
        have h1 := h1 S33 e34
        refine x_iload C 2 dX11_fetch_67 rfl ?_
        exact x_iret C (Nat.le_of_ble_eq_true rfl) (Nat.le_of_ble_eq_true rfl) rfl dX11_fetch_69 (hg _ _ h1)
    · have h1 := h1.2 z9
      refine x_goto (tgt := 81) C dX11_fetch_46 (by decide) ?_
      exact kp_X11_fetch_81 h x3 x4 S C N hg hEx hZ30 h1
theorem kp_X11_fetch_30 {K : xm_K} (h : Nat) (x3 : Option Nat) (x4 : Int32) (S : xm_S) {g : Int32 → xm_S → Prop} {Ex : String → xm_S → Prop} (C : xm_Cx K cX11_fetch RX11 5 (some (FieldType.int)) rm_X11_fetch) (N : xm_Nx K) (hg : ∀ v S, g v S → xm_q K (some (xm_i v)) S) (hEx : ∀ X S, Ex X S → xm_x K X S)  (h1 : wp_X11_fetch_30 h x3 x4 S g Ex) : xm_W K 2 12 30 [(0, xm_r (some h)), (3, xm_r x3), (4, xm_i x4)] [] S :=
  h1 (fun x3 x4 S => xm_W K 2 12 30 [(0, xm_r (some h)), (3, xm_r x3), (4, xm_i x4)] [] S) (fun x3 x4 S hb => kp_X11_fetch_30B h x3 x4 S C N hg hEx (fun x3 x4 S hz => hz) hb)
def wp_X11_fetch (h : Nat) (x1 : Int32) (x2 : Int32) (S : xm_S) (g : Int32 → xm_S → Prop) (Ex : String → xm_S → Prop) : Prop :=
  st_t S h = some (11, 0) ∧ wp_X11_checkVersion h x1 x2 S (fun S36 => st_t S36 h = some (11, 0) ∧ ∃ n39, (st_r S36 h 1) = some n39 ∧ ∃ z42, st_t S36 n39 = some (115, z42) ∧ vp_in x1 z42 ∧ ∃ n44, (st_r S36 n39 (x1).toNatClampNeg) = some n44 ∧ st_t S36 n44 = some (5, 0) ∧ ∃ n47, (st_r S36 n44 1) = some n47 ∧ ∃ z50, st_t S36 n47 = some (120, z50) ∧ vp_in x2 z50 ∧ ∃ n52, (st_r S36 n47 (x2).toNatClampNeg) = some n52 ∧ st_t S36 n52 = some (10, 0) ∧ ((st_i S36 n52 5) = 0 → wp_X11_fetch_30 h (st_r S36 n47 (x2).toNatClampNeg) (0 : Int32) S36 g Ex) ∧ (¬ (st_i S36 n52 5) = 0 → g (nI 3) S36)) Ex
set_option maxRecDepth 100000 in
set_option maxHeartbeats 4000000 in
theorem kp_X11_fetch {K : xm_K} (h : Nat) (x1 : Int32) (x2 : Int32) (S : xm_S) {g : Int32 → xm_S → Prop} {Ex : String → xm_S → Prop} (C : xm_Cx K cX11_fetch RX11 5 (some (FieldType.int)) rm_X11_fetch) (N : xm_Nx K) (hg : ∀ v S, g v S → xm_q K (some (xm_i v)) S) (hEx : ∀ X S, Ex X S → xm_x K X S)  (h1 : wp_X11_fetch h x1 x2 S g Ex) : xm_W K 0 0 0 [(0, xm_r (some h)), (1, xm_i x1), (2, xm_i x2)] [] S := by
  unfold wp_X11_fetch at h1
  refine x_aload_n C 0 dX11_fetch_0 rfl rfl ?_
  refine x_iload_n C 1 dX11_fetch_1 rfl rfl ?_
  refine x_iload_n C 2 dX11_fetch_2 rfl rfl ?_
  obtain ⟨ht35, h1⟩ := h1
  refine x_callV (rm' := rm_X11_checkVersion) (n := h) C (kp_X11_checkVersion_met h1) lk_65 gw_407 gw_408 xv_11 rfl rfl ht35 rfl (Nat.le_of_ble_eq_true rfl) ⟨Nat.le_of_ble_eq_true rfl, Nat.le_of_ble_eq_true rfl, (Nat.le_of_ble_eq_true rfl), (Nat.le_of_ble_eq_true rfl)⟩ dX11_fetch_3 (fun X9 S9 hx9 => x_thru C N (Nat.le_of_ble_eq_true rfl) (Nat.le_of_ble_eq_true rfl) (hEx _ _ hx9)) (xm_kv (fun S36 h1 => ?_))
  refine x_aload_n C 0 dX11_fetch_6 rfl rfl ?_
  obtain ⟨ht38, h1⟩ := h1
  refine x_getf_r (n := h) C rfl ht38 fd_111 (by decide) dX11_fetch_7 ?_
  refine x_iload_n C 1 dX11_fetch_10 rfl rfl ?_
  obtain ⟨n39, hr40, h1⟩ := h1
  obtain ⟨z42, ht41, h1⟩ := h1
  obtain ⟨hi43, h1⟩ := h1
  refine x_aald (n := n39) C hr40 (by decide) rfl ht41 hi43 dX11_fetch_11 ?_
  obtain ⟨n44, hr45, h1⟩ := h1
  obtain ⟨ht46, h1⟩ := h1
  refine x_getf_r (n := n44) C hr45 ht46 fd_112 (by decide) dX11_fetch_12 ?_
  refine x_iload_n C 2 dX11_fetch_15 rfl rfl ?_
  obtain ⟨n47, hr48, h1⟩ := h1
  obtain ⟨z50, ht49, h1⟩ := h1
  obtain ⟨hi51, h1⟩ := h1
  refine x_aald (n := n47) C hr48 (by decide) rfl ht49 hi51 dX11_fetch_16 ?_
  refine x_astore_n (L' := [(3, xm_r (st_r S36 n47 (x2).toNatClampNeg)), (0, xm_r (some h)), (1, xm_i x1), (2, xm_i x2)]) C dX11_fetch_17 rfl (by decide) rfl ?_
  refine x_aload_n C 0 dX11_fetch_18 rfl rfl ?_
  obtain ⟨n52, hr53, h1⟩ := h1
  obtain ⟨ht54, h1⟩ := h1
  refine x_getf_i (n := n52) C hr53 ht54 fd_133 (by decide) dX11_fetch_19 ?_
  refine x_if_eq (tgt := 27) C dX11_fetch_22 (by decide) (fun z9 => ?_) (fun z9 => ?_)
  · have h1 := h1.1 z9
    refine x_iconst (v := (0 : Int32)) C dX11_fetch_27 (by decide) ?_
    refine x_istore (L' := [(4, xm_i (0 : Int32)), (3, xm_r (st_r S36 n47 (x2).toNatClampNeg)), (0, xm_r (some h)), (1, xm_i x1), (2, xm_i x2)]) C dX11_fetch_28 (by decide) rfl ?_
    refine x_keep (L' := [(0, xm_r (some h)), (3, xm_r (st_r S36 n47 (x2).toNatClampNeg)), (4, xm_i (0 : Int32))]) C [2, 1, 0] rfl ?_
    exact kp_X11_fetch_30 h (st_r S36 n47 (x2).toNatClampNeg) (0 : Int32) S36 C N hg hEx  h1
  · have h1 := h1.2 z9
    refine x_iconst (v := (nI 3)) C dX11_fetch_25 (by decide) ?_
    exact x_iret C (Nat.le_of_ble_eq_true rfl) (Nat.le_of_ble_eq_true rfl) rfl dX11_fetch_26 (hg _ _ h1)
theorem kp_X11_fetch_met {h : Nat} {x1 : Int32} {x2 : Int32} {S : xm_S} {g : Int32 → xm_S → Prop} {Ex : String → xm_S → Prop}  (h1 : wp_X11_fetch h x1 x2 S g Ex) : xm_Met yX11_fetch cX11_fetch 5 (some (FieldType.int)) rm_X11_fetch [xm_r (some h), xm_i x1, xm_i x2] S (xm_qi g) Ex :=
  xm_ofW RX11 (by decide +kernel) rfl (Nat.le_of_ble_eq_true rfl) (fun K C N hq hx hi => kp_X11_fetch h x1 x2 S C N (fun v S h => by rw [hq]; exact ⟨v, rfl, h⟩) (fun X S h => by rw [hx]; exact h)  h1)
def rm_X11_file : Room := { frames := 8, cells := 5, slots := 30, locals := 142 }
theorem dX11_file_0 : decode cX11_file 0 = .ok (.aload_n 0, 1) := by decide +kernel
theorem dX11_file_1 : decode cX11_file 1 = .ok (.iload_n 1, 1) := by decide +kernel
theorem dX11_file_2 : decode cX11_file 2 = .ok (.iload_n 2, 1) := by decide +kernel
theorem dX11_file_3 : decode cX11_file 3 = .ok (.invokevirtual 152, 3) := by decide +kernel
theorem dX11_file_6 : decode cX11_file 6 = .ok (.iload_n 3, 1) := by decide +kernel
theorem dX11_file_7 : decode cX11_file 7 = .ok (.iconst 0, 1) := by decide +kernel
theorem dX11_file_8 : decode cX11_file 8 = .ok (.bipush 15, 2) := by decide +kernel
theorem dX11_file_10 : decode cX11_file 10 = .ok (.invokestatic 132, 3) := by decide +kernel
theorem dX11_file_13 : decode cX11_file 13 = .ok (.iload 4, 2) := by decide +kernel
theorem dX11_file_15 : decode cX11_file 15 = .ok (.iconst 0, 1) := by decide +kernel
theorem dX11_file_16 : decode cX11_file 16 = .ok (.sipush 999, 3) := by decide +kernel
theorem dX11_file_19 : decode cX11_file 19 = .ok (.invokestatic 132, 3) := by decide +kernel
theorem dX11_file_22 : decode cX11_file 22 = .ok (.aload_n 0, 1) := by decide +kernel
theorem dX11_file_23 : decode cX11_file 23 = .ok (.getfield 18, 3) := by decide +kernel
theorem dX11_file_26 : decode cX11_file 26 = .ok (.iload_n 1, 1) := by decide +kernel
theorem dX11_file_27 : decode cX11_file 27 = .ok (.aaload, 1) := by decide +kernel
theorem dX11_file_28 : decode cX11_file 28 = .ok (.getfield 143, 3) := by decide +kernel
theorem dX11_file_31 : decode cX11_file 31 = .ok (.iload_n 2, 1) := by decide +kernel
theorem dX11_file_32 : decode cX11_file 32 = .ok (.aaload, 1) := by decide +kernel
theorem dX11_file_33 : decode cX11_file 33 = .ok (.astore 6, 2) := by decide +kernel
theorem dX11_file_35 : decode cX11_file 35 = .ok (.aload 6, 2) := by decide +kernel
theorem dX11_file_37 : decode cX11_file 37 = .ok (.iload_n 3, 1) := by decide +kernel
theorem dX11_file_38 : decode cX11_file 38 = .ok (.invokevirtual 277, 3) := by decide +kernel
theorem dX11_file_41 : decode cX11_file 41 = .ok (.ifCond .eq 14, 3) := by decide +kernel
theorem dX11_file_44 : decode cX11_file 44 = .ok (.new 90, 3) := by decide +kernel
theorem dX11_file_47 : decode cX11_file 47 = .ok (.dup, 1) := by decide +kernel
theorem dX11_file_48 : decode cX11_file 48 = .ok (.ldc_w 281, 3) := by decide +kernel
theorem dX11_file_51 : decode cX11_file 51 = .ok (.invokespecial 94, 3) := by decide +kernel
theorem dX11_file_54 : decode cX11_file 54 = .ok (.athrow, 1) := by decide +kernel
theorem dX11_file_55 : decode cX11_file 55 = .ok (.aload 6, 2) := by decide +kernel
theorem dX11_file_57 : decode cX11_file 57 = .ok (.getfield 283, 3) := by decide +kernel
theorem dX11_file_60 : decode cX11_file 60 = .ok (.iconst 3, 1) := by decide +kernel
theorem dX11_file_61 : decode cX11_file 61 = .ok (.invokestatic 139, 3) := by decide +kernel
theorem dX11_file_64 : decode cX11_file 64 = .ok (.aload 6, 2) := by decide +kernel
theorem dX11_file_66 : decode cX11_file 66 = .ok (.iload_n 3, 1) := by decide +kernel
theorem dX11_file_67 : decode cX11_file 67 = .ok (.iload 4, 2) := by decide +kernel
theorem dX11_file_69 : decode cX11_file 69 = .ok (.iload 5, 2) := by decide +kernel
theorem dX11_file_71 : decode cX11_file 71 = .ok (.invokevirtual 286, 3) := by decide +kernel
theorem dX11_file_74 : decode cX11_file 74 = .ok (.aload 6, 2) := by decide +kernel
theorem dX11_file_76 : decode cX11_file 76 = .ok (.getfield 283, 3) := by decide +kernel
theorem dX11_file_79 : decode cX11_file 79 = .ok (.ireturn, 1) := by decide +kernel
def wp_X11_file (h : Nat) (x1 : Int32) (x2 : Int32) (x3 : Int32) (x4 : Int32) (x5 : Int32) (S : xm_S) (g : Int32 → xm_S → Prop) (Ex : String → xm_S → Prop) : Prop :=
  st_t S h = some (11, 0) ∧ wp_X11_checkVersion h x1 x2 S (fun S2 => wp_X11_checkRange x3 (0 : Int32) (nI 15) S2 (fun S4 => wp_X11_checkRange x4 (0 : Int32) (nI 999) S4 (fun S6 => st_t S6 h = some (11, 0) ∧ ∃ n9, (st_r S6 h 1) = some n9 ∧ ∃ z12, st_t S6 n9 = some (115, z12) ∧ vp_in x1 z12 ∧ ∃ n14, (st_r S6 n9 (x1).toNatClampNeg) = some n14 ∧ st_t S6 n14 = some (5, 0) ∧ ∃ n17, (st_r S6 n14 1) = some n17 ∧ ∃ z20, st_t S6 n17 = some (120, z20) ∧ vp_in x2 z20 ∧ ∃ n22, (st_r S6 n17 (x2).toNatClampNeg) = some n22 ∧ st_t S6 n22 = some (10, 0) ∧ wp_X10_hasFileAt n22 x3 S6 (fun r26 S25 => (r26 = 0 → ∃ n27, (st_r S6 n17 (x2).toNatClampNeg) = some n27 ∧ st_t S25 n27 = some (10, 0) ∧ wp_X11_checkRoom (st_i S25 n27 16) (nI 3) S25 (fun S30 => ∃ n32, (st_r S6 n17 (x2).toNatClampNeg) = some n32 ∧ st_t S30 n32 = some (10, 0) ∧ wp_X10_addFile n32 x3 x4 x5 S30 (fun S35 => ∃ n37, (st_r S6 n17 (x2).toNatClampNeg) = some n37 ∧ st_t S35 n37 = some (10, 0) ∧ g (st_i S35 n37 16) S35)) Ex) ∧ (¬ r26 = 0 → Ex xm_eA S25))) Ex) Ex) Ex
set_option maxRecDepth 100000 in
set_option maxHeartbeats 4000000 in
theorem kp_X11_file {K : xm_K} (h : Nat) (x1 : Int32) (x2 : Int32) (x3 : Int32) (x4 : Int32) (x5 : Int32) (S : xm_S) {g : Int32 → xm_S → Prop} {Ex : String → xm_S → Prop} (C : xm_Cx K cX11_file RX11 7 (some (FieldType.int)) rm_X11_file) (N : xm_Nx K) (hg : ∀ v S, g v S → xm_q K (some (xm_i v)) S) (hEx : ∀ X S, Ex X S → xm_x K X S)  (h1 : wp_X11_file h x1 x2 x3 x4 x5 S g Ex) : xm_W K 0 0 0 [(0, xm_r (some h)), (1, xm_i x1), (2, xm_i x2), (3, xm_i x3), (4, xm_i x4), (5, xm_i x5)] [] S := by
  unfold wp_X11_file at h1
  refine x_aload_n C 0 dX11_file_0 rfl rfl ?_
  refine x_iload_n C 1 dX11_file_1 rfl rfl ?_
  refine x_iload_n C 2 dX11_file_2 rfl rfl ?_
  obtain ⟨ht1, h1⟩ := h1
  refine x_callV (rm' := rm_X11_checkVersion) (n := h) C (kp_X11_checkVersion_met h1) lk_65 gw_407 gw_408 xv_11 rfl rfl ht1 rfl (Nat.le_of_ble_eq_true rfl) ⟨Nat.le_of_ble_eq_true rfl, Nat.le_of_ble_eq_true rfl, (Nat.le_of_ble_eq_true rfl), (Nat.le_of_ble_eq_true rfl)⟩ dX11_file_3 (fun X9 S9 hx9 => x_thru C N (Nat.le_of_ble_eq_true rfl) (Nat.le_of_ble_eq_true rfl) (hEx _ _ hx9)) (xm_kv (fun S2 h1 => ?_))
  refine x_iload_n C 3 dX11_file_6 rfl rfl ?_
  refine x_iconst (v := (0 : Int32)) C dX11_file_7 (by decide) ?_
  refine x_bipush (v := (nI 15)) C dX11_file_8 (by decide) ?_
  refine x_callS (rm' := rm_X11_checkRange) C (kp_X11_checkRange_met h1) lk_51 gw_339 rfl (Nat.le_of_ble_eq_true rfl) ⟨Nat.le_of_ble_eq_true rfl, Nat.le_of_ble_eq_true rfl, (Nat.le_of_ble_eq_true rfl), (Nat.le_of_ble_eq_true rfl)⟩ dX11_file_10 (fun X9 S9 hx9 => x_thru C N (Nat.le_of_ble_eq_true rfl) (Nat.le_of_ble_eq_true rfl) (hEx _ _ hx9)) (xm_kv (fun S4 h1 => ?_))
  refine x_iload C 4 dX11_file_13 rfl ?_
  refine x_iconst (v := (0 : Int32)) C dX11_file_15 (by decide) ?_
  refine x_sipush (v := (nI 999)) C dX11_file_16 (by decide) ?_
  refine x_callS (rm' := rm_X11_checkRange) C (kp_X11_checkRange_met h1) lk_51 gw_339 rfl (Nat.le_of_ble_eq_true rfl) ⟨Nat.le_of_ble_eq_true rfl, Nat.le_of_ble_eq_true rfl, (Nat.le_of_ble_eq_true rfl), (Nat.le_of_ble_eq_true rfl)⟩ dX11_file_19 (fun X9 S9 hx9 => x_thru C N (Nat.le_of_ble_eq_true rfl) (Nat.le_of_ble_eq_true rfl) (hEx _ _ hx9)) (xm_kv (fun S6 h1 => ?_))
  refine x_aload_n C 0 dX11_file_22 rfl rfl ?_
  obtain ⟨ht8, h1⟩ := h1
  refine x_getf_r (n := h) C rfl ht8 fd_111 (by decide) dX11_file_23 ?_
  refine x_iload_n C 1 dX11_file_26 rfl rfl ?_
  obtain ⟨n9, hr10, h1⟩ := h1
  obtain ⟨z12, ht11, h1⟩ := h1
  obtain ⟨hi13, h1⟩ := h1
  refine x_aald (n := n9) C hr10 (by decide) rfl ht11 hi13 dX11_file_27 ?_
  obtain ⟨n14, hr15, h1⟩ := h1
  obtain ⟨ht16, h1⟩ := h1
  refine x_getf_r (n := n14) C hr15 ht16 fd_112 (by decide) dX11_file_28 ?_
  refine x_iload_n C 2 dX11_file_31 rfl rfl ?_
  obtain ⟨n17, hr18, h1⟩ := h1
  obtain ⟨z20, ht19, h1⟩ := h1
  obtain ⟨hi21, h1⟩ := h1
  refine x_aald (n := n17) C hr18 (by decide) rfl ht19 hi21 dX11_file_32 ?_
  refine x_astore (L' := [(6, xm_r (st_r S6 n17 (x2).toNatClampNeg)), (0, xm_r (some h)), (1, xm_i x1), (2, xm_i x2), (3, xm_i x3), (4, xm_i x4), (5, xm_i x5)]) C dX11_file_33 (by decide) rfl ?_
  refine x_aload C 0 dX11_file_35 rfl ?_
  refine x_iload_n C 4 dX11_file_37 rfl rfl ?_
  obtain ⟨n22, hr23, h1⟩ := h1
  obtain ⟨ht24, h1⟩ := h1
  refine x_callV (rm' := rm_X10_hasFileAt) (n := n22) C (kp_X10_hasFileAt_met h1) lk_72 gw_440 gw_441 xv_10 rfl hr23 ht24 rfl (Nat.le_of_ble_eq_true rfl) ⟨Nat.le_of_ble_eq_true rfl, Nat.le_of_ble_eq_true rfl, (Nat.le_of_ble_eq_true rfl), (Nat.le_of_ble_eq_true rfl)⟩ dX11_file_38 xm_kx (xm_ki (fun r26 S25 h1 => ?_))
  refine x_if_eq (tgt := 55) C dX11_file_41 (by decide) (fun z9 => ?_) (fun z9 => ?_)
  · have h1 := h1.1 z9
    refine x_aload C 0 dX11_file_55 rfl ?_
    obtain ⟨n27, hr28, h1⟩ := h1
    obtain ⟨ht29, h1⟩ := h1
    refine x_getf_i (n := n27) C hr28 ht29 fd_134 (by decide) dX11_file_57 ?_
    refine x_iconst (v := (nI 3)) C dX11_file_60 (by decide) ?_
    refine x_callS (rm' := rm_X11_checkRoom) C (kp_X11_checkRoom_met h1) lk_53 gw_347 rfl (Nat.le_of_ble_eq_true rfl) ⟨Nat.le_of_ble_eq_true rfl, Nat.le_of_ble_eq_true rfl, (Nat.le_of_ble_eq_true rfl), (Nat.le_of_ble_eq_true rfl)⟩ dX11_file_61 (fun X9 S9 hx9 => x_thru C N (Nat.le_of_ble_eq_true rfl) (Nat.le_of_ble_eq_true rfl) (hEx _ _ hx9)) (xm_kv (fun S30 h1 => ?_))
    refine x_aload C 0 dX11_file_64 rfl ?_
    refine x_iload_n C 4 dX11_file_66 rfl rfl ?_
    refine x_iload C 5 dX11_file_67 rfl ?_
    refine x_iload C 6 dX11_file_69 rfl ?_
    obtain ⟨n32, hr33, h1⟩ := h1
    obtain ⟨ht34, h1⟩ := h1
    refine x_callV (rm' := rm_X10_addFile) (n := n32) C (kp_X10_addFile_met h1) lk_73 gw_445 gw_446 xv_10 rfl hr33 ht34 rfl (Nat.le_of_ble_eq_true rfl) ⟨Nat.le_of_ble_eq_true rfl, Nat.le_of_ble_eq_true rfl, (Nat.le_of_ble_eq_true rfl), (Nat.le_of_ble_eq_true rfl)⟩ dX11_file_71 xm_kx (xm_kv (fun S35 h1 => ?_))
    refine x_aload C 0 dX11_file_74 rfl ?_
    obtain ⟨n37, hr38, h1⟩ := h1
    obtain ⟨ht39, h1⟩ := h1
    refine x_getf_i (n := n37) C hr38 ht39 fd_134 (by decide) dX11_file_76 ?_
    exact x_iret C (Nat.le_of_ble_eq_true rfl) (Nat.le_of_ble_eq_true rfl) rfl dX11_file_79 (hg _ _ h1)
  · have h1 := h1.2 z9
    exact x_throw (text := "it has a file with this path") C N th_A_in th_A_fit gw_327 gw_328 (by decide +kernel) th_A_at th_A_no th_A_ot (Nat.le_of_ble_eq_true rfl) ⟨Nat.le_of_ble_eq_true rfl, Nat.le_of_ble_eq_true rfl, (Nat.le_of_ble_eq_true rfl), (Nat.le_of_ble_eq_true rfl)⟩ dX11_file_44 dX11_file_47 (Or.inr ⟨dX11_file_48, dX11_file_51, dX11_file_54⟩) (hEx _ _ h1)
theorem kp_X11_file_met {h : Nat} {x1 : Int32} {x2 : Int32} {x3 : Int32} {x4 : Int32} {x5 : Int32} {S : xm_S} {g : Int32 → xm_S → Prop} {Ex : String → xm_S → Prop}  (h1 : wp_X11_file h x1 x2 x3 x4 x5 S g Ex) : xm_Met yX11_file cX11_file 7 (some (FieldType.int)) rm_X11_file [xm_r (some h), xm_i x1, xm_i x2, xm_i x3, xm_i x4, xm_i x5] S (xm_qi g) Ex :=
  xm_ofW RX11 (by decide +kernel) rfl (Nat.le_of_ble_eq_true rfl) (fun K C N hq hx hi => kp_X11_file h x1 x2 x3 x4 x5 S C N (fun v S h => by rw [hq]; exact ⟨v, rfl, h⟩) (fun X S h => by rw [hx]; exact h)  h1)
def rm_X11_generation : Room := { frames := 1, cells := 0, slots := 0, locals := 20 }
theorem dX11_generation_0 : decode cX11_generation 0 = .ok (.aload_n 0, 1) := by decide +kernel
theorem dX11_generation_1 : decode cX11_generation 1 = .ok (.getfield 85, 3) := by decide +kernel
theorem dX11_generation_4 : decode cX11_generation 4 = .ok (.getfield 341, 3) := by decide +kernel
theorem dX11_generation_7 : decode cX11_generation 7 = .ok (.ireturn, 1) := by decide +kernel
def wp_X11_generation (h : Nat)  (S : xm_S) (g : Int32 → xm_S → Prop) : Prop :=
  st_t S h = some (11, 0) ∧ ∃ n2, (st_r S h 17) = some n2 ∧ st_t S n2 = some (2, 0) ∧ g (st_i S n2 3) S
set_option maxRecDepth 100000 in
set_option maxHeartbeats 4000000 in
theorem kp_X11_generation {K : xm_K} (h : Nat)  (S : xm_S) {g : Int32 → xm_S → Prop} (C : xm_Cx K cX11_generation RX11 1 (some (FieldType.int)) rm_X11_generation) (N : xm_Nx K) (hg : ∀ v S, g v S → xm_q K (some (xm_i v)) S)  (h1 : wp_X11_generation h  S g) : xm_W K 0 0 0 [(0, xm_r (some h))] [] S := by
  unfold wp_X11_generation at h1
  refine x_aload_n C 0 dX11_generation_0 rfl rfl ?_
  obtain ⟨ht1, h1⟩ := h1
  refine x_getf_r (n := h) C rfl ht1 fd_120 (by decide) dX11_generation_1 ?_
  obtain ⟨n2, hr3, h1⟩ := h1
  obtain ⟨ht4, h1⟩ := h1
  refine x_getf_i (n := n2) C hr3 ht4 fd_135 (by decide) dX11_generation_4 ?_
  exact x_iret C (Nat.le_of_ble_eq_true rfl) (Nat.le_of_ble_eq_true rfl) rfl dX11_generation_7 (hg _ _ h1)
theorem kp_X11_generation_met {h : Nat}  {S : xm_S} {g : Int32 → xm_S → Prop}  (h1 : wp_X11_generation h  S g) : xm_Met yX11_generation cX11_generation 1 (some (FieldType.int)) rm_X11_generation [xm_r (some h)] S (xm_qi g) xm_nox :=
  xm_ofW RX11 (by decide +kernel) rfl (Nat.le_of_ble_eq_true rfl) (fun K C N hq hx hi => kp_X11_generation h  S C N (fun v S h => by rw [hq]; exact ⟨v, rfl, h⟩)  h1)
def rm_X11_generations : Room := { frames := 1, cells := 0, slots := 0, locals := 20 }
theorem dX11_generations_0 : decode cX11_generations 0 = .ok (.aload_n 0, 1) := by decide +kernel
theorem dX11_generations_1 : decode cX11_generations 1 = .ok (.getfield 85, 3) := by decide +kernel
theorem dX11_generations_4 : decode cX11_generations 4 = .ok (.getfield 344, 3) := by decide +kernel
theorem dX11_generations_7 : decode cX11_generations 7 = .ok (.ireturn, 1) := by decide +kernel
def wp_X11_generations (h : Nat)  (S : xm_S) (g : Int32 → xm_S → Prop) : Prop :=
  st_t S h = some (11, 0) ∧ ∃ n2, (st_r S h 17) = some n2 ∧ st_t S n2 = some (2, 0) ∧ g (st_i S n2 2) S
set_option maxRecDepth 100000 in
set_option maxHeartbeats 4000000 in
theorem kp_X11_generations {K : xm_K} (h : Nat)  (S : xm_S) {g : Int32 → xm_S → Prop} (C : xm_Cx K cX11_generations RX11 1 (some (FieldType.int)) rm_X11_generations) (N : xm_Nx K) (hg : ∀ v S, g v S → xm_q K (some (xm_i v)) S)  (h1 : wp_X11_generations h  S g) : xm_W K 0 0 0 [(0, xm_r (some h))] [] S := by
  unfold wp_X11_generations at h1
  refine x_aload_n C 0 dX11_generations_0 rfl rfl ?_
  obtain ⟨ht1, h1⟩ := h1
  refine x_getf_r (n := h) C rfl ht1 fd_120 (by decide) dX11_generations_1 ?_
  obtain ⟨n2, hr3, h1⟩ := h1
  obtain ⟨ht4, h1⟩ := h1
  refine x_getf_i (n := n2) C hr3 ht4 fd_136 (by decide) dX11_generations_4 ?_
  exact x_iret C (Nat.le_of_ble_eq_true rfl) (Nat.le_of_ble_eq_true rfl) rfl dX11_generations_7 (hg _ _ h1)
theorem kp_X11_generations_met {h : Nat}  {S : xm_S} {g : Int32 → xm_S → Prop}  (h1 : wp_X11_generations h  S g) : xm_Met yX11_generations cX11_generations 1 (some (FieldType.int)) rm_X11_generations [xm_r (some h)] S (xm_qi g) xm_nox :=
  xm_ofW RX11 (by decide +kernel) rfl (Nat.le_of_ble_eq_true rfl) (fun K C N hq hx hi => kp_X11_generations h  S C N (fun v S h => by rw [hq]; exact ⟨v, rfl, h⟩)  h1)
def rm_X11_holds : Room := { frames := 7, cells := 1, slots := 6, locals := 170 }
theorem dX11_holds_0 : decode cX11_holds 0 = .ok (.iload_n 1, 1) := by decide +kernel
theorem dX11_holds_1 : decode cX11_holds 1 = .ok (.invokestatic 212, 3) := by decide +kernel
theorem dX11_holds_4 : decode cX11_holds 4 = .ok (.aload_n 0, 1) := by decide +kernel
theorem dX11_holds_5 : decode cX11_holds 5 = .ok (.iload_n 1, 1) := by decide +kernel
theorem dX11_holds_6 : decode cX11_holds 6 = .ok (.iconst 0, 1) := by decide +kernel
theorem dX11_holds_7 : decode cX11_holds 7 = .ok (.invokevirtual 215, 3) := by decide +kernel
theorem dX11_holds_10 : decode cX11_holds 10 = .ok (.aload_n 0, 1) := by decide +kernel
theorem dX11_holds_11 : decode cX11_holds 11 = .ok (.getfield 59, 3) := by decide +kernel
theorem dX11_holds_14 : decode cX11_holds 14 = .ok (.aload_n 0, 1) := by decide +kernel
theorem dX11_holds_15 : decode cX11_holds 15 = .ok (.invokevirtual 218, 3) := by decide +kernel
theorem dX11_holds_18 : decode cX11_holds 18 = .ok (.aload_n 0, 1) := by decide +kernel
theorem dX11_holds_19 : decode cX11_holds 19 = .ok (.getfield 46, 3) := by decide +kernel
theorem dX11_holds_22 : decode cX11_holds 22 = .ok (.iload_n 1, 1) := by decide +kernel
theorem dX11_holds_23 : decode cX11_holds 23 = .ok (.aaload, 1) := by decide +kernel
theorem dX11_holds_24 : decode cX11_holds 24 = .ok (.invokevirtual 237, 3) := by decide +kernel
theorem dX11_holds_27 : decode cX11_holds 27 = .ok (.ireturn, 1) := by decide +kernel
def wp_X11_holds (h : Nat) (x1 : Int32) (S : xm_S) (g : Int32 → xm_S → Prop) (Ex : String → xm_S → Prop) : Prop :=
  wp_X11_checkPlatform x1 S (fun S1 => st_t S1 h = some (11, 0) ∧ wp_X11_prepareSolver h x1 (0 : Int32) S1 (fun S4 => st_t S4 h = some (11, 0) ∧ wp_X11_allWishes h S4 (fun r8 S7 => st_t S7 h = some (11, 0) ∧ ∃ n10, (st_r S7 h 7) = some n10 ∧ ∃ z13, st_t S7 n10 = some (104, z13) ∧ vp_in x1 z13 ∧ ∃ n15, (st_r S4 h 10) = some n15 ∧ st_t S7 n15 = some (7, 0) ∧ wp_X7_isClosure n15 r8 (st_r S7 n10 (x1).toNatClampNeg) S7 (fun r19 S18 => (r19 = 0 ∨ r19 = 1) ∧ g r19 S18)))) Ex
set_option maxRecDepth 100000 in
set_option maxHeartbeats 4000000 in
theorem kp_X11_holds {K : xm_K} (h : Nat) (x1 : Int32) (S : xm_S) {g : Int32 → xm_S → Prop} {Ex : String → xm_S → Prop} (C : xm_Cx K cX11_holds RX11 2 (some (FieldType.boolean)) rm_X11_holds) (N : xm_Nx K) (hg : ∀ v S, g v S → xm_q K (some (xm_i v)) S) (hEx : ∀ X S, Ex X S → xm_x K X S)  (h1 : wp_X11_holds h x1 S g Ex) : xm_W K 0 0 0 [(0, xm_r (some h)), (1, xm_i x1)] [] S := by
  unfold wp_X11_holds at h1
  refine x_iload_n C 1 dX11_holds_0 rfl rfl ?_
  refine x_callS (rm' := rm_X11_checkPlatform) C (kp_X11_checkPlatform_met h1) lk_58 gw_373 rfl (Nat.le_of_ble_eq_true rfl) ⟨Nat.le_of_ble_eq_true rfl, Nat.le_of_ble_eq_true rfl, (Nat.le_of_ble_eq_true rfl), (Nat.le_of_ble_eq_true rfl)⟩ dX11_holds_1 (fun X9 S9 hx9 => x_thru C N (Nat.le_of_ble_eq_true rfl) (Nat.le_of_ble_eq_true rfl) (hEx _ _ hx9)) (xm_kv (fun S1 h1 => ?_))
  refine x_aload_n C 0 dX11_holds_4 rfl rfl ?_
  refine x_iload_n C 1 dX11_holds_5 rfl rfl ?_
  refine x_iconst (v := (0 : Int32)) C dX11_holds_6 (by decide) ?_
  obtain ⟨ht3, h1⟩ := h1
  refine x_callV (rm' := rm_X11_prepareSolver) (n := h) C (kp_X11_prepareSolver_met h1) lk_61 gw_391 gw_392 xv_11 rfl rfl ht3 rfl (Nat.le_of_ble_eq_true rfl) ⟨Nat.le_of_ble_eq_true rfl, Nat.le_of_ble_eq_true rfl, (Nat.le_of_ble_eq_true rfl), (Nat.le_of_ble_eq_true rfl)⟩ dX11_holds_7 xm_kx (xm_kv (fun S4 h1 => ?_))
  refine x_aload_n C 0 dX11_holds_10 rfl rfl ?_
  obtain ⟨ht6, h1⟩ := h1
  refine x_getf_r (n := h) C rfl ht6 fd_123 (by decide) dX11_holds_11 ?_
  refine x_aload_n C 0 dX11_holds_14 rfl rfl ?_
  refine x_callV (rm' := rm_X11_allWishes) (n := h) C (kp_X11_allWishes_met h1) lk_62 gw_395 gw_396 xv_11 rfl rfl ht6 rfl (Nat.le_of_ble_eq_true rfl) ⟨Nat.le_of_ble_eq_true rfl, Nat.le_of_ble_eq_true rfl, (Nat.le_of_ble_eq_true rfl), (Nat.le_of_ble_eq_true rfl)⟩ dX11_holds_15 xm_kx (xm_ki (fun r8 S7 h1 => ?_))
  refine x_aload_n C 0 dX11_holds_18 rfl rfl ?_
  obtain ⟨ht9, h1⟩ := h1
  refine x_getf_r (n := h) C rfl ht9 fd_115 (by decide) dX11_holds_19 ?_
  refine x_iload_n C 1 dX11_holds_22 rfl rfl ?_
  obtain ⟨n10, hr11, h1⟩ := h1
  obtain ⟨z13, ht12, h1⟩ := h1
  obtain ⟨hi14, h1⟩ := h1
  refine x_aald (n := n10) C hr11 (by decide) rfl ht12 hi14 dX11_holds_23 ?_
  obtain ⟨n15, hr16, h1⟩ := h1
  obtain ⟨ht17, h1⟩ := h1
  refine x_callV (rm' := rm_X7_isClosure) (n := n15) C (kp_X7_isClosure_met h1) lk_74 gw_451 gw_452 xv_7 rfl hr16 ht17 rfl (Nat.le_of_ble_eq_true rfl) ⟨Nat.le_of_ble_eq_true rfl, Nat.le_of_ble_eq_true rfl, (Nat.le_of_ble_eq_true rfl), (Nat.le_of_ble_eq_true rfl)⟩ dX11_holds_24 xm_kx (xm_ki (fun r19 S18 h1 => ?_))
  exact x_zret C (Nat.le_of_ble_eq_true rfl) (Nat.le_of_ble_eq_true rfl) rfl h1.1 dX11_holds_27 (hg _ _ h1.2)
theorem kp_X11_holds_met {h : Nat} {x1 : Int32} {S : xm_S} {g : Int32 → xm_S → Prop} {Ex : String → xm_S → Prop}  (h1 : wp_X11_holds h x1 S g Ex) : xm_Met yX11_holds cX11_holds 2 (some (FieldType.boolean)) rm_X11_holds [xm_r (some h), xm_i x1] S (xm_qi g) Ex :=
  xm_ofW RX11 (by decide +kernel) rfl (Nat.le_of_ble_eq_true rfl) (fun K C N hq hx hi => kp_X11_holds h x1 S C N (fun v S h => by rw [hq]; exact ⟨v, rfl, h⟩) (fun X S h => by rw [hx]; exact h)  h1)
def rm_X11_index : Room := { frames := 7, cells := 3, slots := 18, locals := 122 }
theorem dX11_index_0 : decode cX11_index 0 = .ok (.iload_n 1, 1) := by decide +kernel
theorem dX11_index_1 : decode cX11_index 1 = .ok (.iconst 0, 1) := by decide +kernel
theorem dX11_index_2 : decode cX11_index 2 = .ok (.sipush 9999, 3) := by decide +kernel
theorem dX11_index_5 : decode cX11_index 5 = .ok (.invokestatic 132, 3) := by decide +kernel
theorem dX11_index_8 : decode cX11_index 8 = .ok (.iload_n 2, 1) := by decide +kernel
theorem dX11_index_9 : decode cX11_index 9 = .ok (.iconst 0, 1) := by decide +kernel
theorem dX11_index_10 : decode cX11_index 10 = .ok (.ldc_w 261, 3) := by decide +kernel
theorem dX11_index_13 : decode cX11_index 13 = .ok (.invokestatic 132, 3) := by decide +kernel
theorem dX11_index_16 : decode cX11_index 16 = .ok (.iload_n 3, 1) := by decide +kernel
theorem dX11_index_17 : decode cX11_index 17 = .ok (.iconst 0, 1) := by decide +kernel
theorem dX11_index_18 : decode cX11_index 18 = .ok (.bipush 31, 2) := by decide +kernel
theorem dX11_index_20 : decode cX11_index 20 = .ok (.invokestatic 132, 3) := by decide +kernel
theorem dX11_index_23 : decode cX11_index 23 = .ok (.iload_n 3, 1) := by decide +kernel
theorem dX11_index_24 : decode cX11_index 24 = .ok (.aload_n 0, 1) := by decide +kernel
theorem dX11_index_25 : decode cX11_index 25 = .ok (.getfield 66, 3) := by decide +kernel
theorem dX11_index_28 : decode cX11_index 28 = .ok (.iand, 1) := by decide +kernel
theorem dX11_index_29 : decode cX11_index 29 = .ok (.invokestatic 230, 3) := by decide +kernel
theorem dX11_index_32 : decode cX11_index 32 = .ok (.aload_n 0, 1) := by decide +kernel
theorem dX11_index_33 : decode cX11_index 33 = .ok (.getfield 69, 3) := by decide +kernel
theorem dX11_index_36 : decode cX11_index 36 = .ok (.if_icmp .ge 5, 3) := by decide +kernel
theorem dX11_index_39 : decode cX11_index 39 = .ok (.iconst 1, 1) := by decide +kernel
theorem dX11_index_40 : decode cX11_index 40 = .ok (.ireturn, 1) := by decide +kernel
theorem dX11_index_41 : decode cX11_index 41 = .ok (.iload_n 1, 1) := by decide +kernel
theorem dX11_index_42 : decode cX11_index 42 = .ok (.aload_n 0, 1) := by decide +kernel
theorem dX11_index_43 : decode cX11_index 43 = .ok (.getfield 72, 3) := by decide +kernel
theorem dX11_index_46 : decode cX11_index 46 = .ok (.if_icmp .ge 5, 3) := by decide +kernel
theorem dX11_index_49 : decode cX11_index 49 = .ok (.iconst 2, 1) := by decide +kernel
theorem dX11_index_50 : decode cX11_index 50 = .ok (.ireturn, 1) := by decide +kernel
theorem dX11_index_51 : decode cX11_index 51 = .ok (.iload_n 2, 1) := by decide +kernel
theorem dX11_index_52 : decode cX11_index 52 = .ok (.aload_n 0, 1) := by decide +kernel
theorem dX11_index_53 : decode cX11_index 53 = .ok (.getfield 63, 3) := by decide +kernel
theorem dX11_index_56 : decode cX11_index 56 = .ok (.if_icmp .gt 5, 3) := by decide +kernel
theorem dX11_index_59 : decode cX11_index 59 = .ok (.iconst 3, 1) := by decide +kernel
theorem dX11_index_60 : decode cX11_index 60 = .ok (.ireturn, 1) := by decide +kernel
theorem dX11_index_61 : decode cX11_index 61 = .ok (.aload_n 0, 1) := by decide +kernel
theorem dX11_index_62 : decode cX11_index 62 = .ok (.iload_n 1, 1) := by decide +kernel
theorem dX11_index_63 : decode cX11_index 63 = .ok (.putfield 72, 3) := by decide +kernel
theorem dX11_index_66 : decode cX11_index 66 = .ok (.iconst 0, 1) := by decide +kernel
theorem dX11_index_67 : decode cX11_index 67 = .ok (.ireturn, 1) := by decide +kernel
def wp_X11_index (h : Nat) (x1 : Int32) (x2 : Int32) (x3 : Int32) (S : xm_S) (g : Int32 → xm_S → Prop) (Ex : String → xm_S → Prop) : Prop :=
  wp_X11_checkRange x1 (0 : Int32) (nI 9999) S (fun S1 => wp_X11_checkRange x2 (0 : Int32) (nI 200000) S1 (fun S3 => wp_X11_checkRange x3 (0 : Int32) (nI 31) S3 (fun S5 => st_t S5 h = some (11, 0) ∧ wp_J6_bitCount_0f7a4 (x3 &&& (st_i S5 h 12)) S5 (fun r9 S8 => st_t S8 h = some (11, 0) ∧ ((st_i S8 h 13) ≤ r9 → ((st_i S8 h 14) ≤ x1 → ((st_i S8 h 11) < x2 → ∀ S11, S11 = st_pi S8 h 14 x1 → g (0 : Int32) S11) ∧ (¬ (st_i S8 h 11) < x2 → g (nI 3) S8)) ∧ (¬ (st_i S8 h 14) ≤ x1 → g (nI 2) S8)) ∧ (¬ (st_i S8 h 13) ≤ r9 → g (1 : Int32) S8))) Ex) Ex) Ex
set_option maxRecDepth 100000 in
set_option maxHeartbeats 4000000 in
theorem kp_X11_index {K : xm_K} (h : Nat) (x1 : Int32) (x2 : Int32) (x3 : Int32) (S : xm_S) {g : Int32 → xm_S → Prop} {Ex : String → xm_S → Prop} (C : xm_Cx K cX11_index RX11 4 (some (FieldType.int)) rm_X11_index) (N : xm_Nx K) (hg : ∀ v S, g v S → xm_q K (some (xm_i v)) S) (hEx : ∀ X S, Ex X S → xm_x K X S)  (h1 : wp_X11_index h x1 x2 x3 S g Ex) : xm_W K 0 0 0 [(0, xm_r (some h)), (1, xm_i x1), (2, xm_i x2), (3, xm_i x3)] [] S := by
  unfold wp_X11_index at h1
  refine x_iload_n C 1 dX11_index_0 rfl rfl ?_
  refine x_iconst (v := (0 : Int32)) C dX11_index_1 (by decide) ?_
  refine x_sipush (v := (nI 9999)) C dX11_index_2 (by decide) ?_
  refine x_callS (rm' := rm_X11_checkRange) C (kp_X11_checkRange_met h1) lk_51 gw_339 rfl (Nat.le_of_ble_eq_true rfl) ⟨Nat.le_of_ble_eq_true rfl, Nat.le_of_ble_eq_true rfl, (Nat.le_of_ble_eq_true rfl), (Nat.le_of_ble_eq_true rfl)⟩ dX11_index_5 (fun X9 S9 hx9 => x_thru C N (Nat.le_of_ble_eq_true rfl) (Nat.le_of_ble_eq_true rfl) (hEx _ _ hx9)) (xm_kv (fun S1 h1 => ?_))
  refine x_iload_n C 2 dX11_index_8 rfl rfl ?_
  refine x_iconst (v := (0 : Int32)) C dX11_index_9 (by decide) ?_
  refine x_ldcw (v := nI 200000) C gw_453 dX11_index_10 ?_
  refine x_callS (rm' := rm_X11_checkRange) C (kp_X11_checkRange_met h1) lk_51 gw_339 rfl (Nat.le_of_ble_eq_true rfl) ⟨Nat.le_of_ble_eq_true rfl, Nat.le_of_ble_eq_true rfl, (Nat.le_of_ble_eq_true rfl), (Nat.le_of_ble_eq_true rfl)⟩ dX11_index_13 (fun X9 S9 hx9 => x_thru C N (Nat.le_of_ble_eq_true rfl) (Nat.le_of_ble_eq_true rfl) (hEx _ _ hx9)) (xm_kv (fun S3 h1 => ?_))
  refine x_iload_n C 3 dX11_index_16 rfl rfl ?_
  refine x_iconst (v := (0 : Int32)) C dX11_index_17 (by decide) ?_
  refine x_bipush (v := (nI 31)) C dX11_index_18 (by decide) ?_
  refine x_callS (rm' := rm_X11_checkRange) C (kp_X11_checkRange_met h1) lk_51 gw_339 rfl (Nat.le_of_ble_eq_true rfl) ⟨Nat.le_of_ble_eq_true rfl, Nat.le_of_ble_eq_true rfl, (Nat.le_of_ble_eq_true rfl), (Nat.le_of_ble_eq_true rfl)⟩ dX11_index_20 (fun X9 S9 hx9 => x_thru C N (Nat.le_of_ble_eq_true rfl) (Nat.le_of_ble_eq_true rfl) (hEx _ _ hx9)) (xm_kv (fun S5 h1 => ?_))
  refine x_iload_n C 3 dX11_index_23 rfl rfl ?_
  refine x_aload_n C 0 dX11_index_24 rfl rfl ?_
  obtain ⟨ht7, h1⟩ := h1
  refine x_getf_i (n := h) C rfl ht7 fd_137 (by decide) dX11_index_25 ?_
  refine x_iand C dX11_index_28 ?_
  refine x_callS (rm' := rm_J6_bitCount_0f7a4) C (kp_J6_bitCount_0f7a4_met h1) lk_75 gw_457 rfl (Nat.le_of_ble_eq_true rfl) ⟨Nat.le_of_ble_eq_true rfl, Nat.le_of_ble_eq_true rfl, (Nat.le_of_ble_eq_true rfl), (Nat.le_of_ble_eq_true rfl)⟩ dX11_index_29 xm_kx (xm_ki (fun r9 S8 h1 => ?_))
  refine x_aload_n C 0 dX11_index_32 rfl rfl ?_
  obtain ⟨ht10, h1⟩ := h1
  refine x_getf_i (n := h) C rfl ht10 fd_138 (by decide) dX11_index_33 ?_
  refine x_icmp_ge (tgt := 41) C dX11_index_36 (by decide) (fun z9 => ?_) (fun z9 => ?_)
  · have h1 := h1.1 z9
    refine x_iload_n C 1 dX11_index_41 rfl rfl ?_
    refine x_aload_n C 0 dX11_index_42 rfl rfl ?_
    refine x_getf_i (n := h) C rfl ht10 fd_139 (by decide) dX11_index_43 ?_
    refine x_icmp_ge (tgt := 51) C dX11_index_46 (by decide) (fun z9 => ?_) (fun z9 => ?_)
    · have h1 := h1.1 z9
      refine x_iload_n C 2 dX11_index_51 rfl rfl ?_
      refine x_aload_n C 0 dX11_index_52 rfl rfl ?_
      refine x_getf_i (n := h) C rfl ht10 fd_140 (by decide) dX11_index_53 ?_
      refine x_icmp_gt (tgt := 61) C dX11_index_56 (by decide) (fun z9 => ?_) (fun z9 => ?_)
      · have h1 := h1.1 z9
        refine x_aload_n C 0 dX11_index_61 rfl rfl ?_
        refine x_iload_n C 1 dX11_index_62 rfl rfl ?_
        refine x_putf_i (n := h) C rfl ht10 fd_139 xc_11 (by decide) rfl ⟨rfl, rfl⟩ dX11_index_63 ?_
        refine x_topS (fun S11 e12 => ?_)
        have h1 := h1 S11 e12
        refine x_iconst (v := (0 : Int32)) C dX11_index_66 (by decide) ?_
        exact x_iret C (Nat.le_of_ble_eq_true rfl) (Nat.le_of_ble_eq_true rfl) rfl dX11_index_67 (hg _ _ h1)
      · have h1 := h1.2 z9
        refine x_iconst (v := (nI 3)) C dX11_index_59 (by decide) ?_
        exact x_iret C (Nat.le_of_ble_eq_true rfl) (Nat.le_of_ble_eq_true rfl) rfl dX11_index_60 (hg _ _ h1)
    · have h1 := h1.2 z9
      refine x_iconst (v := (nI 2)) C dX11_index_49 (by decide) ?_
      exact x_iret C (Nat.le_of_ble_eq_true rfl) (Nat.le_of_ble_eq_true rfl) rfl dX11_index_50 (hg _ _ h1)
  · have h1 := h1.2 z9
    refine x_iconst (v := (1 : Int32)) C dX11_index_39 (by decide) ?_
    exact x_iret C (Nat.le_of_ble_eq_true rfl) (Nat.le_of_ble_eq_true rfl) rfl dX11_index_40 (hg _ _ h1)
theorem kp_X11_index_met {h : Nat} {x1 : Int32} {x2 : Int32} {x3 : Int32} {S : xm_S} {g : Int32 → xm_S → Prop} {Ex : String → xm_S → Prop}  (h1 : wp_X11_index h x1 x2 x3 S g Ex) : xm_Met yX11_index cX11_index 4 (some (FieldType.int)) rm_X11_index [xm_r (some h), xm_i x1, xm_i x2, xm_i x3] S (xm_qi g) Ex :=
  xm_ofW RX11 (by decide +kernel) rfl (Nat.le_of_ble_eq_true rfl) (fun K C N hq hx hi => kp_X11_index h x1 x2 x3 S C N (fun v S h => by rw [hq]; exact ⟨v, rfl, h⟩) (fun X S h => by rw [hx]; exact h)  h1)
def rm_X11_init : Room := { frames := 4, cells := 400, slots := 3000, locals := 82 }
theorem dX11_init_0 : decode cX11_init 0 = .ok (.aload_n 0, 1) := by decide +kernel
theorem dX11_init_1 : decode cX11_init 1 = .ok (.invokespecial 3, 3) := by decide +kernel
theorem dX11_init_4 : decode cX11_init 4 = .ok (.aload_n 0, 1) := by decide +kernel
theorem dX11_init_5 : decode cX11_init 5 = .ok (.new 9, 3) := by decide +kernel
theorem dX11_init_8 : decode cX11_init 8 = .ok (.dup, 1) := by decide +kernel
theorem dX11_init_9 : decode cX11_init 9 = .ok (.invokespecial 11, 3) := by decide +kernel
theorem dX11_init_12 : decode cX11_init 12 = .ok (.putfield 12, 3) := by decide +kernel
theorem dX11_init_15 : decode cX11_init 15 = .ok (.aload_n 0, 1) := by decide +kernel
theorem dX11_init_16 : decode cX11_init 16 = .ok (.bipush 6, 2) := by decide +kernel
theorem dX11_init_18 : decode cX11_init 18 = .ok (.anewarray 16, 3) := by decide +kernel
theorem dX11_init_21 : decode cX11_init 21 = .ok (.putfield 18, 3) := by decide +kernel
theorem dX11_init_24 : decode cX11_init 24 = .ok (.aload_n 0, 1) := by decide +kernel
theorem dX11_init_25 : decode cX11_init 25 = .ok (.iconst 4, 1) := by decide +kernel
theorem dX11_init_26 : decode cX11_init 26 = .ok (.anewarray 22, 3) := by decide +kernel
theorem dX11_init_29 : decode cX11_init 29 = .ok (.putfield 24, 3) := by decide +kernel
theorem dX11_init_32 : decode cX11_init 32 = .ok (.aload_n 0, 1) := by decide +kernel
theorem dX11_init_33 : decode cX11_init 33 = .ok (.iconst 0, 1) := by decide +kernel
theorem dX11_init_34 : decode cX11_init 34 = .ok (.putfield 28, 3) := by decide +kernel
theorem dX11_init_37 : decode cX11_init 37 = .ok (.aload_n 0, 1) := by decide +kernel
theorem dX11_init_38 : decode cX11_init 38 = .ok (.bipush 15, 2) := by decide +kernel
theorem dX11_init_40 : decode cX11_init 40 = .ok (.putfield 32, 3) := by decide +kernel
theorem dX11_init_43 : decode cX11_init 43 = .ok (.aload_n 0, 1) := by decide +kernel
theorem dX11_init_44 : decode cX11_init 44 = .ok (.bipush 6, 2) := by decide +kernel
theorem dX11_init_46 : decode cX11_init 46 = .ok (.anewarray 35, 3) := by decide +kernel
theorem dX11_init_49 : decode cX11_init 49 = .ok (.putfield 37, 3) := by decide +kernel
theorem dX11_init_52 : decode cX11_init 52 = .ok (.aload_n 0, 1) := by decide +kernel
theorem dX11_init_53 : decode cX11_init 53 = .ok (.iconst 0, 1) := by decide +kernel
theorem dX11_init_54 : decode cX11_init 54 = .ok (.putfield 41, 3) := by decide +kernel
theorem dX11_init_57 : decode cX11_init 57 = .ok (.aload_n 0, 1) := by decide +kernel
theorem dX11_init_58 : decode cX11_init 58 = .ok (.iconst 3, 1) := by decide +kernel
theorem dX11_init_59 : decode cX11_init 59 = .ok (.bipush 6, 2) := by decide +kernel
theorem dX11_init_61 : decode cX11_init 61 = .ok (.multianewarray 44 2, 4) := by decide +kernel
theorem dX11_init_65 : decode cX11_init 65 = .ok (.putfield 46, 3) := by decide +kernel
theorem dX11_init_68 : decode cX11_init 68 = .ok (.aload_n 0, 1) := by decide +kernel
theorem dX11_init_69 : decode cX11_init 69 = .ok (.iconst 3, 1) := by decide +kernel
theorem dX11_init_70 : decode cX11_init 70 = .ok (.bipush 6, 2) := by decide +kernel
theorem dX11_init_72 : decode cX11_init 72 = .ok (.multianewarray 44 2, 4) := by decide +kernel
theorem dX11_init_76 : decode cX11_init 76 = .ok (.putfield 49, 3) := by decide +kernel
theorem dX11_init_79 : decode cX11_init 79 = .ok (.aload_n 0, 1) := by decide +kernel
theorem dX11_init_80 : decode cX11_init 80 = .ok (.iconst 3, 1) := by decide +kernel
theorem dX11_init_81 : decode cX11_init 81 = .ok (.newarray .boolean, 2) := by decide +kernel
theorem dX11_init_83 : decode cX11_init 83 = .ok (.putfield 52, 3) := by decide +kernel
theorem dX11_init_86 : decode cX11_init 86 = .ok (.aload_n 0, 1) := by decide +kernel
theorem dX11_init_87 : decode cX11_init 87 = .ok (.new 56, 3) := by decide +kernel
theorem dX11_init_90 : decode cX11_init 90 = .ok (.dup, 1) := by decide +kernel
theorem dX11_init_91 : decode cX11_init 91 = .ok (.invokespecial 58, 3) := by decide +kernel
theorem dX11_init_94 : decode cX11_init 94 = .ok (.putfield 59, 3) := by decide +kernel
theorem dX11_init_97 : decode cX11_init 97 = .ok (.aload_n 0, 1) := by decide +kernel
theorem dX11_init_98 : decode cX11_init 98 = .ok (.iconst 0, 1) := by decide +kernel
theorem dX11_init_99 : decode cX11_init 99 = .ok (.putfield 63, 3) := by decide +kernel
theorem dX11_init_102 : decode cX11_init 102 = .ok (.aload_n 0, 1) := by decide +kernel
theorem dX11_init_103 : decode cX11_init 103 = .ok (.iconst 1, 1) := by decide +kernel
theorem dX11_init_104 : decode cX11_init 104 = .ok (.putfield 66, 3) := by decide +kernel
theorem dX11_init_107 : decode cX11_init 107 = .ok (.aload_n 0, 1) := by decide +kernel
theorem dX11_init_108 : decode cX11_init 108 = .ok (.iconst 1, 1) := by decide +kernel
theorem dX11_init_109 : decode cX11_init 109 = .ok (.putfield 69, 3) := by decide +kernel
theorem dX11_init_112 : decode cX11_init 112 = .ok (.aload_n 0, 1) := by decide +kernel
theorem dX11_init_113 : decode cX11_init 113 = .ok (.iconst 0, 1) := by decide +kernel
theorem dX11_init_114 : decode cX11_init 114 = .ok (.putfield 72, 3) := by decide +kernel
theorem dX11_init_117 : decode cX11_init 117 = .ok (.aload_n 0, 1) := by decide +kernel
theorem dX11_init_118 : decode cX11_init 118 = .ok (.iconst 3, 1) := by decide +kernel
theorem dX11_init_119 : decode cX11_init 119 = .ok (.newarray .boolean, 2) := by decide +kernel
theorem dX11_init_121 : decode cX11_init 121 = .ok (.putfield 75, 3) := by decide +kernel
theorem dX11_init_124 : decode cX11_init 124 = .ok (.aload_n 0, 1) := by decide +kernel
theorem dX11_init_125 : decode cX11_init 125 = .ok (.iconst 3, 1) := by decide +kernel
theorem dX11_init_126 : decode cX11_init 126 = .ok (.newarray .int, 2) := by decide +kernel
theorem dX11_init_128 : decode cX11_init 128 = .ok (.putfield 78, 3) := by decide +kernel
theorem dX11_init_131 : decode cX11_init 131 = .ok (.aload_n 0, 1) := by decide +kernel
theorem dX11_init_132 : decode cX11_init 132 = .ok (.new 82, 3) := by decide +kernel
theorem dX11_init_135 : decode cX11_init 135 = .ok (.dup, 1) := by decide +kernel
theorem dX11_init_136 : decode cX11_init 136 = .ok (.invokespecial 84, 3) := by decide +kernel
theorem dX11_init_139 : decode cX11_init 139 = .ok (.putfield 85, 3) := by decide +kernel
theorem dX11_init_142 : decode cX11_init 142 = .ok (.iconst 0, 1) := by decide +kernel
theorem dX11_init_143 : decode cX11_init 143 = .ok (.istore_n 1, 1) := by decide +kernel
theorem dX11_init_144 : decode cX11_init 144 = .ok (.iload_n 1, 1) := by decide +kernel
theorem dX11_init_145 : decode cX11_init 145 = .ok (.bipush 6, 2) := by decide +kernel
theorem dX11_init_147 : decode cX11_init 147 = .ok (.if_icmp .ge 22, 3) := by decide +kernel
theorem dX11_init_150 : decode cX11_init 150 = .ok (.aload_n 0, 1) := by decide +kernel
theorem dX11_init_151 : decode cX11_init 151 = .ok (.getfield 18, 3) := by decide +kernel
theorem dX11_init_154 : decode cX11_init 154 = .ok (.iload_n 1, 1) := by decide +kernel
theorem dX11_init_155 : decode cX11_init 155 = .ok (.new 16, 3) := by decide +kernel
theorem dX11_init_158 : decode cX11_init 158 = .ok (.dup, 1) := by decide +kernel
theorem dX11_init_159 : decode cX11_init 159 = .ok (.invokespecial 89, 3) := by decide +kernel
theorem dX11_init_162 : decode cX11_init 162 = .ok (.aastore, 1) := by decide +kernel
theorem dX11_init_163 : decode cX11_init 163 = .ok (.iinc 1 1, 3) := by decide +kernel
theorem dX11_init_166 : decode cX11_init 166 = .ok (.goto (-22), 3) := by decide +kernel
theorem dX11_init_169 : decode cX11_init 169 = .ok (.iconst 0, 1) := by decide +kernel
theorem dX11_init_170 : decode cX11_init 170 = .ok (.istore_n 1, 1) := by decide +kernel
theorem dX11_init_171 : decode cX11_init 171 = .ok (.iload_n 1, 1) := by decide +kernel
theorem dX11_init_172 : decode cX11_init 172 = .ok (.iconst 3, 1) := by decide +kernel
theorem dX11_init_173 : decode cX11_init 173 = .ok (.if_icmp .ge 41, 3) := by decide +kernel
theorem dX11_init_176 : decode cX11_init 176 = .ok (.iconst 0, 1) := by decide +kernel
theorem dX11_init_177 : decode cX11_init 177 = .ok (.istore_n 2, 1) := by decide +kernel
theorem dX11_init_178 : decode cX11_init 178 = .ok (.iload_n 2, 1) := by decide +kernel
theorem dX11_init_179 : decode cX11_init 179 = .ok (.bipush 6, 2) := by decide +kernel
theorem dX11_init_181 : decode cX11_init 181 = .ok (.if_icmp .ge 27, 3) := by decide +kernel
theorem dX11_init_184 : decode cX11_init 184 = .ok (.aload_n 0, 1) := by decide +kernel
theorem dX11_init_185 : decode cX11_init 185 = .ok (.getfield 46, 3) := by decide +kernel
theorem dX11_init_188 : decode cX11_init 188 = .ok (.iload_n 1, 1) := by decide +kernel
theorem dX11_init_189 : decode cX11_init 189 = .ok (.aaload, 1) := by decide +kernel
theorem dX11_init_190 : decode cX11_init 190 = .ok (.iload_n 2, 1) := by decide +kernel
theorem dX11_init_191 : decode cX11_init 191 = .ok (.iconst (-1), 1) := by decide +kernel
theorem dX11_init_192 : decode cX11_init 192 = .ok (.iastore, 1) := by decide +kernel
theorem dX11_init_193 : decode cX11_init 193 = .ok (.aload_n 0, 1) := by decide +kernel
theorem dX11_init_194 : decode cX11_init 194 = .ok (.getfield 49, 3) := by decide +kernel
theorem dX11_init_197 : decode cX11_init 197 = .ok (.iload_n 1, 1) := by decide +kernel
theorem dX11_init_198 : decode cX11_init 198 = .ok (.aaload, 1) := by decide +kernel
theorem dX11_init_199 : decode cX11_init 199 = .ok (.iload_n 2, 1) := by decide +kernel
theorem dX11_init_200 : decode cX11_init 200 = .ok (.iconst (-1), 1) := by decide +kernel
theorem dX11_init_201 : decode cX11_init 201 = .ok (.iastore, 1) := by decide +kernel
theorem dX11_init_202 : decode cX11_init 202 = .ok (.iinc 2 1, 3) := by decide +kernel
theorem dX11_init_205 : decode cX11_init 205 = .ok (.goto (-27), 3) := by decide +kernel
theorem dX11_init_208 : decode cX11_init 208 = .ok (.iinc 1 1, 3) := by decide +kernel
theorem dX11_init_211 : decode cX11_init 211 = .ok (.goto (-40), 3) := by decide +kernel
theorem dX11_init_214 : decode cX11_init 214 = .ok (.return_, 1) := by decide +kernel
def wp_X11_init_178B (h : Nat) (x1 : Int32) (x2 : Int32) (S : xm_S) (kc ks : Nat) (g : xm_S → Prop) (Z171 : Int32 → xm_S → Nat → Nat → Prop) (Z178 : Int32 → Int32 → xm_S → Nat → Nat → Prop) : Prop :=
  ((nI 6) ≤ x2 → ∀ y1, y1 = (x1 + (1 : Int32)) → Z171 y1 S kc ks) ∧ (¬ (nI 6) ≤ x2 → st_t S h = some (11, 0) ∧ ∃ n4, (st_r S h 7) = some n4 ∧ ∃ z7, st_t S n4 = some (104, z7) ∧ vp_in x1 z7 ∧ ∃ n9, (st_r S n4 (x1).toNatClampNeg) = some n9 ∧ ∃ z12, st_t S n9 = some (100, z12) ∧ vp_in x2 z12 ∧ ∀ S14, S14 = st_pi S n9 (x2).toNatClampNeg (-1 : Int32) → ∃ n16, (st_r S14 h 8) = some n16 ∧ ∃ z19, st_t S14 n16 = some (104, z19) ∧ vp_in x1 z19 ∧ ∃ n21, (st_r S14 n16 (x1).toNatClampNeg) = some n21 ∧ ∃ z24, st_t S14 n21 = some (100, z24) ∧ vp_in x2 z24 ∧ ∀ S26, S26 = st_pi S14 n21 (x2).toNatClampNeg (-1 : Int32) → ∀ y28, y28 = (x2 + (1 : Int32)) → Z178 x1 y28 S26 kc ks)
def wp_X11_init_178 (h : Nat) (x1 : Int32) (x2 : Int32) (S : xm_S) (kc ks : Nat) (g : xm_S → Prop) (Z171 : Int32 → xm_S → Nat → Nat → Prop) : Prop :=
  ∀ Z178 : Int32 → Int32 → xm_S → Nat → Nat → Prop, (∀ x1 x2 S kc ks, wp_X11_init_178B h x1 x2 S kc ks g Z171 Z178 → Z178 x1 x2 S kc ks) → Z178 x1 x2 S kc ks
set_option maxRecDepth 100000 in
set_option maxHeartbeats 4000000 in
theorem kp_X11_init_178B {K : xm_K} (h : Nat) (x1 : Int32) (x2 : Int32) (S : xm_S) (kc ks : Nat) {g : xm_S → Prop} {Z171 : Int32 → xm_S → Nat → Nat → Prop} {Z178 : Int32 → Int32 → xm_S → Nat → Nat → Prop} (C : xm_Cx K cX11_init RX11 3 none rm_X11_init) (N : xm_Nx K) (hini : xm_init K) (hg : ∀ S, g S → xm_q K none S) (hZ171 : ∀ x1 S kc ks, Z171 x1 S kc ks → xm_W K kc ks 171 [(0, xm_r (some h)), (1, xm_i x1)] [] S) (hZ178 : ∀ x1 x2 S kc ks, Z178 x1 x2 S kc ks → xm_W K kc ks 178 [(0, xm_r (some h)), (1, xm_i x1), (2, xm_i x2)] [] S) (h1 : wp_X11_init_178B h x1 x2 S kc ks g Z171 Z178) : xm_W K kc ks 178 [(0, xm_r (some h)), (1, xm_i x1), (2, xm_i x2)] [] S := by
  unfold wp_X11_init_178B at h1
  refine x_iload_n C 2 dX11_init_178 rfl rfl ?_
  refine x_bipush (v := (nI 6)) C dX11_init_179 (by decide) ?_
  refine x_icmp_ge (tgt := 208) C dX11_init_181 (by decide) (fun z9 => ?_) (fun z9 => ?_)
  · have h1 := h1.1 z9
    obtain ⟨y1, e2⟩ : ∃ y1, y1 = (x1 + (1 : Int32)) := ⟨_, rfl⟩
    have h1 := h1 y1 e2
    refine x_iinc (v := y1) (L' := [(1, xm_i y1), (0, xm_r (some h)), (2, xm_i x2)]) C 1 dX11_init_208 rfl (by rw [e2]; rfl) (by decide) rfl ?_
    refine x_goto (tgt := 171) C dX11_init_211 (by decide) ?_
    refine x_keep (L' := [(0, xm_r (some h)), (1, xm_i y1)]) C [1, 0] rfl ?_
    exact hZ171 y1 S kc ks h1
  · have h1 := h1.2 z9
    refine x_aload_n C 0 dX11_init_184 rfl rfl ?_
    obtain ⟨ht3, h1⟩ := h1
    refine x_getf_r (n := h) C rfl ht3 fd_115 (by decide) dX11_init_185 ?_
    refine x_iload_n C 1 dX11_init_188 rfl rfl ?_
    obtain ⟨n4, hr5, h1⟩ := h1
    obtain ⟨z7, ht6, h1⟩ := h1
    obtain ⟨hi8, h1⟩ := h1
    refine x_aald (n := n4) C hr5 (by decide) rfl ht6 hi8 dX11_init_189 ?_
    refine x_iload_n C 2 dX11_init_190 rfl rfl ?_
    refine x_iconst (v := (-1 : Int32)) C dX11_init_191 (by decide) ?_
    obtain ⟨n9, hr10, h1⟩ := h1
    obtain ⟨z12, ht11, h1⟩ := h1
    obtain ⟨hi13, h1⟩ := h1
    refine x_iast (n := n9) C hr10 ht11 hi13 dX11_init_192 ?_
    refine x_topS (fun S14 e15 => ?_)
    have h1 := h1 S14 e15
    refine x_aload_n C 0 dX11_init_193 rfl rfl ?_
    refine x_getf_r (n := h) C rfl (tk_p e15 ht3) fd_141 (by decide) dX11_init_194 ?_
    refine x_iload_n C 1 dX11_init_197 rfl rfl ?_
    obtain ⟨n16, hr17, h1⟩ := h1
    obtain ⟨z19, ht18, h1⟩ := h1
    obtain ⟨hi20, h1⟩ := h1
    refine x_aald (n := n16) C hr17 (by decide) rfl ht18 hi20 dX11_init_198 ?_
    refine x_iload_n C 2 dX11_init_199 rfl rfl ?_
    refine x_iconst (v := (-1 : Int32)) C dX11_init_200 (by decide) ?_
    obtain ⟨n21, hr22, h1⟩ := h1
    obtain ⟨z24, ht23, h1⟩ := h1
    obtain ⟨hi25, h1⟩ := h1
    refine x_iast (n := n21) C hr22 ht23 hi25 dX11_init_201 ?_
    refine x_topS (fun S26 e27 => ?_)
    have h1 := h1 S26 e27
    obtain ⟨y28, e29⟩ : ∃ y28, y28 = (x2 + (1 : Int32)) := ⟨_, rfl⟩
    have h1 := h1 y28 e29
    refine x_iinc (v := y28) (L' := [(2, xm_i y28), (0, xm_r (some h)), (1, xm_i x1)]) C 2 dX11_init_202 rfl (by rw [e29]; rfl) (by decide) rfl ?_
    refine x_goto (tgt := 178) C dX11_init_205 (by decide) ?_
    refine x_keep (L' := [(0, xm_r (some h)), (1, xm_i x1), (2, xm_i y28)]) C [1, 2, 0] rfl ?_
    exact hZ178 x1 y28 S26 kc ks h1
theorem kp_X11_init_178 {K : xm_K} (h : Nat) (x1 : Int32) (x2 : Int32) (S : xm_S) (kc ks : Nat) {g : xm_S → Prop} {Z171 : Int32 → xm_S → Nat → Nat → Prop} (C : xm_Cx K cX11_init RX11 3 none rm_X11_init) (N : xm_Nx K) (hini : xm_init K) (hg : ∀ S, g S → xm_q K none S) (hZ171 : ∀ x1 S kc ks, Z171 x1 S kc ks → xm_W K kc ks 171 [(0, xm_r (some h)), (1, xm_i x1)] [] S) (h1 : wp_X11_init_178 h x1 x2 S kc ks g Z171) : xm_W K kc ks 178 [(0, xm_r (some h)), (1, xm_i x1), (2, xm_i x2)] [] S :=
  h1 (fun x1 x2 S kc ks => xm_W K kc ks 178 [(0, xm_r (some h)), (1, xm_i x1), (2, xm_i x2)] [] S) (fun x1 x2 S kc ks hb => kp_X11_init_178B h x1 x2 S kc ks C N hini hg hZ171 (fun x1 x2 S kc ks hz => hz) hb)
def wp_X11_init_171B (h : Nat) (x1 : Int32) (S : xm_S) (kc ks : Nat) (g : xm_S → Prop) (Z171 : Int32 → xm_S → Nat → Nat → Prop) : Prop :=
  ((nI 3) ≤ x1 → kc ≤ 400 ∧ ks ≤ 3000 ∧ g S) ∧ (¬ (nI 3) ≤ x1 → wp_X11_init_178 h x1 (0 : Int32) S kc ks g Z171)
def wp_X11_init_171 (h : Nat) (x1 : Int32) (S : xm_S) (kc ks : Nat) (g : xm_S → Prop) : Prop :=
  ∀ Z171 : Int32 → xm_S → Nat → Nat → Prop, (∀ x1 S kc ks, wp_X11_init_171B h x1 S kc ks g Z171 → Z171 x1 S kc ks) → Z171 x1 S kc ks
set_option maxRecDepth 100000 in
set_option maxHeartbeats 4000000 in
theorem kp_X11_init_171B {K : xm_K} (h : Nat) (x1 : Int32) (S : xm_S) (kc ks : Nat) {g : xm_S → Prop} {Z171 : Int32 → xm_S → Nat → Nat → Prop} (C : xm_Cx K cX11_init RX11 3 none rm_X11_init) (N : xm_Nx K) (hini : xm_init K) (hg : ∀ S, g S → xm_q K none S) (hZ171 : ∀ x1 S kc ks, Z171 x1 S kc ks → xm_W K kc ks 171 [(0, xm_r (some h)), (1, xm_i x1)] [] S) (h1 : wp_X11_init_171B h x1 S kc ks g Z171) : xm_W K kc ks 171 [(0, xm_r (some h)), (1, xm_i x1)] [] S := by
  unfold wp_X11_init_171B at h1
  refine x_iload_n C 1 dX11_init_171 rfl rfl ?_
  refine x_iconst (v := (nI 3)) C dX11_init_172 (by decide) ?_
  refine x_icmp_ge (tgt := 214) C dX11_init_173 (by decide) (fun z9 => ?_) (fun z9 => ?_)
  · have h1 := h1.1 z9
    obtain ⟨hc30, hc31, h1⟩ := h1
    exact x_vret C hc30 hc31 rfl dX11_init_214 (hg _ h1)
  · have h1 := h1.2 z9
    refine x_iconst (v := (0 : Int32)) C dX11_init_176 (by decide) ?_
    refine x_istore_n (L' := [(2, xm_i (0 : Int32)), (0, xm_r (some h)), (1, xm_i x1)]) C dX11_init_177 rfl (by decide) rfl ?_
    refine x_keep (L' := [(0, xm_r (some h)), (1, xm_i x1), (2, xm_i (0 : Int32))]) C [1, 2, 0] rfl ?_
    exact kp_X11_init_178 h x1 (0 : Int32) S kc ks C N hini hg hZ171 h1
theorem kp_X11_init_171 {K : xm_K} (h : Nat) (x1 : Int32) (S : xm_S) (kc ks : Nat) {g : xm_S → Prop} (C : xm_Cx K cX11_init RX11 3 none rm_X11_init) (N : xm_Nx K) (hini : xm_init K) (hg : ∀ S, g S → xm_q K none S)  (h1 : wp_X11_init_171 h x1 S kc ks g) : xm_W K kc ks 171 [(0, xm_r (some h)), (1, xm_i x1)] [] S :=
  h1 (fun x1 S kc ks => xm_W K kc ks 171 [(0, xm_r (some h)), (1, xm_i x1)] [] S) (fun x1 S kc ks hb => kp_X11_init_171B h x1 S kc ks C N hini hg (fun x1 S kc ks hz => hz) hb)
def wp_X11_init_144B (h : Nat) (x1 : Int32) (S : xm_S) (kc ks : Nat) (g : xm_S → Prop) (Z144 : Int32 → xm_S → Nat → Nat → Prop) : Prop :=
  ((nI 6) ≤ x1 → wp_X11_init_171 h (0 : Int32) S kc ks g) ∧ (¬ (nI 6) ≤ x1 → st_t S h = some (11, 0) ∧ kc + 1 ≤ 400 ∧ ks + 3 ≤ 3000 ∧ ∃ n33, st_t S n33 = none ∧ ∀ S37, S37 = st_nw S n33 (5, 0) → (kc + 1) + 1 ≤ 400 ∧ (ks + 3) + 4 ≤ 3000 ∧ wp_X5_init n33 S37 (fun S41 => ∃ n43, (st_r S h 1) = some n43 ∧ ∃ z46, st_t S41 n43 = some (115, z46) ∧ vp_in x1 z46 ∧ (∀ v9, (some n33) = some v9 → st_t S41 v9 = some (5, 0)) ∧ ∀ S49, S49 = st_pr S41 n43 (x1).toNatClampNeg (some n33) → ∀ y51, y51 = (x1 + (1 : Int32)) → Z144 y51 S49 ((kc + 1) + 1) ((ks + 3) + 4)))
def wp_X11_init_144 (h : Nat) (x1 : Int32) (S : xm_S) (kc ks : Nat) (g : xm_S → Prop) : Prop :=
  ∀ Z144 : Int32 → xm_S → Nat → Nat → Prop, (∀ x1 S kc ks, wp_X11_init_144B h x1 S kc ks g Z144 → Z144 x1 S kc ks) → Z144 x1 S kc ks
set_option maxRecDepth 100000 in
set_option maxHeartbeats 4000000 in
theorem kp_X11_init_144B {K : xm_K} (h : Nat) (x1 : Int32) (S : xm_S) (kc ks : Nat) {g : xm_S → Prop} {Z144 : Int32 → xm_S → Nat → Nat → Prop} (C : xm_Cx K cX11_init RX11 3 none rm_X11_init) (N : xm_Nx K) (hini : xm_init K) (hg : ∀ S, g S → xm_q K none S) (hZ144 : ∀ x1 S kc ks, Z144 x1 S kc ks → xm_W K kc ks 144 [(0, xm_r (some h)), (1, xm_i x1)] [] S) (h1 : wp_X11_init_144B h x1 S kc ks g Z144) : xm_W K kc ks 144 [(0, xm_r (some h)), (1, xm_i x1)] [] S := by
  unfold wp_X11_init_144B at h1
  refine x_iload_n C 1 dX11_init_144 rfl rfl ?_
  refine x_bipush (v := (nI 6)) C dX11_init_145 (by decide) ?_
  refine x_icmp_ge (tgt := 169) C dX11_init_147 (by decide) (fun z9 => ?_) (fun z9 => ?_)
  · have h1 := h1.1 z9
    refine x_iconst (v := (0 : Int32)) C dX11_init_169 (by decide) ?_
    refine x_istore_n (L' := [(1, xm_i (0 : Int32)), (0, xm_r (some h))]) C dX11_init_170 rfl (by decide) rfl ?_
    refine x_keep (L' := [(0, xm_r (some h)), (1, xm_i (0 : Int32))]) C [1, 0] rfl ?_
    exact kp_X11_init_171 h (0 : Int32) S kc ks C N hini hg  h1
  · have h1 := h1.2 z9
    refine x_aload_n C 0 dX11_init_150 rfl rfl ?_
    obtain ⟨ht32, h1⟩ := h1
    refine x_getf_r (n := h) C rfl ht32 fd_111 (by decide) dX11_init_151 ?_
    refine x_iload_n C 1 dX11_init_154 rfl rfl ?_
    obtain ⟨hc35, hc36, h1⟩ := h1
    obtain ⟨n33, hn34, h1⟩ := h1
    refine x_new (n := n33) C xc_5 gw_462 hn34 hc35 hc36 dX11_init_155 ?_
    refine x_topS (fun S37 e38 => ?_)
    have h1 := h1 S37 e38
    refine x_dup_r C dX11_init_158 ?_
    obtain ⟨hc39, hc40, h1⟩ := h1
    refine x_callIN (rm' := rm_X5_init) (n := n33) RX11 C (kp_X5_init_met h1) (by decide +kernel) gw_176 gw_463 ⟨by decide, by decide, by decide +kernel⟩ gw_464 rfl rfl rfl (Nat.le_of_ble_eq_true rfl) ⟨Nat.le_of_ble_eq_true rfl, Nat.le_of_ble_eq_true rfl, hc39, hc40⟩ dX11_init_159 xm_kx (xm_kv (fun S41 h1 => ?_))
    obtain ⟨n43, hr44, h1⟩ := h1
    obtain ⟨z46, ht45, h1⟩ := h1
    obtain ⟨hi47, h1⟩ := h1
    obtain ⟨hv48, h1⟩ := h1
    refine x_aast (n := n43) (ci := 5) C hr44 (by decide) rfl rfl ht45 hi47 hv48 dX11_init_162 ?_
    refine x_topS (fun S49 e50 => ?_)
    have h1 := h1 S49 e50
    obtain ⟨y51, e52⟩ : ∃ y51, y51 = (x1 + (1 : Int32)) := ⟨_, rfl⟩
    have h1 := h1 y51 e52
    refine x_iinc (v := y51) (L' := [(1, xm_i y51), (0, xm_r (some h))]) C 1 dX11_init_163 rfl (by rw [e52]; rfl) (by decide) rfl ?_
    refine x_goto (tgt := 144) C dX11_init_166 (by decide) ?_
    refine x_keep (L' := [(0, xm_r (some h)), (1, xm_i y51)]) C [1, 0] rfl ?_
    exact hZ144 y51 S49 ((kc + 1) + 1) ((ks + 3) + 4) h1
theorem kp_X11_init_144 {K : xm_K} (h : Nat) (x1 : Int32) (S : xm_S) (kc ks : Nat) {g : xm_S → Prop} (C : xm_Cx K cX11_init RX11 3 none rm_X11_init) (N : xm_Nx K) (hini : xm_init K) (hg : ∀ S, g S → xm_q K none S)  (h1 : wp_X11_init_144 h x1 S kc ks g) : xm_W K kc ks 144 [(0, xm_r (some h)), (1, xm_i x1)] [] S :=
  h1 (fun x1 S kc ks => xm_W K kc ks 144 [(0, xm_r (some h)), (1, xm_i x1)] [] S) (fun x1 S kc ks hb => kp_X11_init_144B h x1 S kc ks C N hini hg (fun x1 S kc ks hz => hz) hb)
def wp_X11_init (h : Nat)  (S : xm_S) (g : xm_S → Prop) : Prop :=
  0 + 1 ≤ 400 ∧ 0 + 4 ≤ 3000 ∧ ∃ n53, st_t S n53 = none ∧ ∀ S57, S57 = st_nw S n53 (8, 0) → (0 + 1) + 1 ≤ 400 ∧ (0 + 4) + 40 ≤ 3000 ∧ wp_X8_init n53 S57 (fun S61 => st_t S61 h = some (11, 0) ∧ ∀ S64, S64 = st_pr S61 h 0 (some n53) → ((0 + 1) + 1) + 1 ≤ 400 ∧ ((0 + 4) + 40) + 6 ≤ 3000 ∧ ∃ n66, st_t S64 n66 = none ∧ ∀ S70, S70 = st_nw S64 n66 (115, 6) → ∀ S72, S72 = st_pr S70 h 1 (some n66) → (((0 + 1) + 1) + 1) + 1 ≤ 400 ∧ (((0 + 4) + 40) + 6) + 4 ≤ 3000 ∧ ∃ n74, st_t S72 n74 = none ∧ ∀ S78, S78 = st_nw S72 n74 (114, 4) → ∀ S80, S80 = st_pr S78 h 2 (some n74) → ∀ S82, S82 = st_pi S80 h 3 (0 : Int32) → ∀ S84, S84 = st_pi S82 h 4 (nI 15) → ((((0 + 1) + 1) + 1) + 1) + 1 ≤ 400 ∧ ((((0 + 4) + 40) + 6) + 4) + 6 ≤ 3000 ∧ ∃ n86, st_t S84 n86 = none ∧ ∀ S90, S90 = st_nw S84 n86 (110, 6) → ∀ S92, S92 = st_pr S90 h 5 (some n86) → ∀ S94, S94 = st_pi S92 h 6 (0 : Int32) → (((((0 + 1) + 1) + 1) + 1) + 1) + 4 ≤ 400 ∧ (((((0 + 4) + 40) + 6) + 4) + 6) + 21 ≤ 3000 ∧ ∃ n98 n99 n100 n101, st_t S94 n98 = none ∧ st_t S94 n99 = none ∧ st_t S94 n100 = none ∧ st_t S94 n101 = none ∧ (n99 ≠ n98 ∧ n100 ≠ n98 ∧ n100 ≠ n99 ∧ n101 ≠ n98 ∧ n101 ≠ n99 ∧ n101 ≠ n100) ∧ ∀ S107, S107 = st_mn S94 n98 n99 n100 n101 → st_t S107 h = some (11, 0) ∧ ∀ S110, S110 = st_pr S107 h 7 (some n98) → ((((((0 + 1) + 1) + 1) + 1) + 1) + 4) + 4 ≤ 400 ∧ ((((((0 + 4) + 40) + 6) + 4) + 6) + 21) + 21 ≤ 3000 ∧ ∃ n114 n115 n116 n117, st_t S110 n114 = none ∧ st_t S110 n115 = none ∧ st_t S110 n116 = none ∧ st_t S110 n117 = none ∧ (n115 ≠ n114 ∧ n116 ≠ n114 ∧ n116 ≠ n115 ∧ n117 ≠ n114 ∧ n117 ≠ n115 ∧ n117 ≠ n116) ∧ ∀ S123, S123 = st_mn S110 n114 n115 n116 n117 → st_t S123 h = some (11, 0) ∧ ∀ S126, S126 = st_pr S123 h 8 (some n114) → (((((((0 + 1) + 1) + 1) + 1) + 1) + 4) + 4) + 1 ≤ 400 ∧ (((((((0 + 4) + 40) + 6) + 4) + 6) + 21) + 21) + 3 ≤ 3000 ∧ ∃ n128, st_t S126 n128 = none ∧ ∀ S132, S132 = st_nw S126 n128 (101, 3) → ∀ S134, S134 = st_pr S132 h 9 (some n128) → ((((((((0 + 1) + 1) + 1) + 1) + 1) + 4) + 4) + 1) + 1 ≤ 400 ∧ ((((((((0 + 4) + 40) + 6) + 4) + 6) + 21) + 21) + 3) + 18 ≤ 3000 ∧ ∃ n136, st_t S134 n136 = none ∧ ∀ S140, S140 = st_nw S134 n136 (7, 0) → (((((((((0 + 1) + 1) + 1) + 1) + 1) + 4) + 4) + 1) + 1) + 5 ≤ 400 ∧ (((((((((0 + 4) + 40) + 6) + 4) + 6) + 21) + 21) + 3) + 18) + 49 ≤ 3000 ∧ wp_X7_init n136 S140 (fun S144 => st_t S144 h = some (11, 0) ∧ ∀ S147, S147 = st_pr S144 h 10 (some n136) → ∀ S149, S149 = st_pi S147 h 11 (0 : Int32) → ∀ S151, S151 = st_pi S149 h 12 (1 : Int32) → ∀ S153, S153 = st_pi S151 h 13 (1 : Int32) → ∀ S155, S155 = st_pi S153 h 14 (0 : Int32) → ((((((((((0 + 1) + 1) + 1) + 1) + 1) + 4) + 4) + 1) + 1) + 5) + 1 ≤ 400 ∧ ((((((((((0 + 4) + 40) + 6) + 4) + 6) + 21) + 21) + 3) + 18) + 49) + 3 ≤ 3000 ∧ ∃ n157, st_t S155 n157 = none ∧ ∀ S161, S161 = st_nw S155 n157 (101, 3) → ∀ S163, S163 = st_pr S161 h 15 (some n157) → (((((((((((0 + 1) + 1) + 1) + 1) + 1) + 4) + 4) + 1) + 1) + 5) + 1) + 1 ≤ 400 ∧ (((((((((((0 + 4) + 40) + 6) + 4) + 6) + 21) + 21) + 3) + 18) + 49) + 3) + 3 ≤ 3000 ∧ ∃ n165, st_t S163 n165 = none ∧ ∀ S169, S169 = st_nw S163 n165 (100, 3) → ∀ S171, S171 = st_pr S169 h 16 (some n165) → ((((((((((((0 + 1) + 1) + 1) + 1) + 1) + 4) + 4) + 1) + 1) + 5) + 1) + 1) + 1 ≤ 400 ∧ ((((((((((((0 + 4) + 40) + 6) + 4) + 6) + 21) + 21) + 3) + 18) + 49) + 3) + 3) + 10 ≤ 3000 ∧ ∃ n173, st_t S171 n173 = none ∧ ∀ S177, S177 = st_nw S171 n173 (2, 0) → (((((((((((((0 + 1) + 1) + 1) + 1) + 1) + 4) + 4) + 1) + 1) + 5) + 1) + 1) + 1) + 60 ≤ 400 ∧ (((((((((((((0 + 4) + 40) + 6) + 4) + 6) + 21) + 21) + 3) + 18) + 49) + 3) + 3) + 10) + 1000 ≤ 3000 ∧ wp_X2_init n173 S177 (fun S181 => st_t S181 h = some (11, 0) ∧ ∀ S184, S184 = st_pr S181 h 17 (some n173) → wp_X11_init_144 h (0 : Int32) S184 ((((((((((((((0 + 1) + 1) + 1) + 1) + 1) + 4) + 4) + 1) + 1) + 5) + 1) + 1) + 1) + 60) ((((((((((((((0 + 4) + 40) + 6) + 4) + 6) + 21) + 21) + 3) + 18) + 49) + 3) + 3) + 10) + 1000) g)))
set_option maxRecDepth 100000 in
set_option maxHeartbeats 4000000 in
theorem kp_X11_init {K : xm_K} (h : Nat)  (S : xm_S) {g : xm_S → Prop} (C : xm_Cx K cX11_init RX11 3 none rm_X11_init) (N : xm_Nx K) (hini : xm_init K) (hg : ∀ S, g S → xm_q K none S)  (h1 : wp_X11_init h  S g) : xm_W K 0 0 0 [(0, xm_r (some h))] [] S := by
  unfold wp_X11_init at h1
  refine x_aload_n C 0 dX11_init_0 rfl rfl ?_
  refine x_objInit (n := h) C rfl gw_465 (Nat.le_of_ble_eq_true rfl) (Nat.le_of_ble_eq_true rfl) (Nat.le_of_ble_eq_true rfl) dX11_init_1 gw_1 gw_2 ?_
  refine x_aload_n C 0 dX11_init_4 rfl rfl ?_
  obtain ⟨hc55, hc56, h1⟩ := h1
  obtain ⟨n53, hn54, h1⟩ := h1
  refine x_new (n := n53) C xc_8 gw_466 hn54 hc55 hc56 dX11_init_5 ?_
  refine x_topS (fun S57 e58 => ?_)
  have h1 := h1 S57 e58
  refine x_dup_r C dX11_init_8 ?_
  obtain ⟨hc59, hc60, h1⟩ := h1
  refine x_callIN (rm' := rm_X8_init) (n := n53) RX11 C (kp_X8_init_met h1) (by decide +kernel) gw_262 gw_467 ⟨by decide, by decide, by decide +kernel⟩ gw_468 rfl rfl rfl (Nat.le_of_ble_eq_true rfl) ⟨Nat.le_of_ble_eq_true rfl, Nat.le_of_ble_eq_true rfl, hc59, hc60⟩ dX11_init_9 xm_kx (xm_kv (fun S61 h1 => ?_))
  obtain ⟨ht63, h1⟩ := h1
  refine x_putfF_r (n := h) C rfl ht63 fd_108 xc_11 (by decide) rfl hini rfl (xm_nr rfl) dX11_init_12 ?_
  refine x_topS (fun S64 e65 => ?_)
  have h1 := h1 S64 e65
  refine x_aload_n C 0 dX11_init_15 rfl rfl ?_
  refine x_bipush (v := (nI 6)) C dX11_init_16 (by decide) ?_
  obtain ⟨hc68, hc69, h1⟩ := h1
  obtain ⟨n66, hn67, h1⟩ := h1
  refine x_newq (n := n66) (ci := 5) (len := 6) C gw_462 (by decide +kernel) (by decide) rfl (by decide) (by decide) hn67 hc68 hc69 dX11_init_18 ?_
  refine x_topS (fun S70 e71 => ?_)
  have h1 := h1 S70 e71
  refine x_putfF_r (n := h) C rfl (tk_n e71 hn67 (tk_p e65 ht63)) fd_111 xc_11 (by decide) rfl hini rfl (xm_nr rfl) dX11_init_21 ?_
  refine x_topS (fun S72 e73 => ?_)
  have h1 := h1 S72 e73
  refine x_aload_n C 0 dX11_init_24 rfl rfl ?_
  refine x_iconst (v := (nI 4)) C dX11_init_25 (by decide) ?_
  obtain ⟨hc76, hc77, h1⟩ := h1
  obtain ⟨n74, hn75, h1⟩ := h1
  refine x_newq (n := n74) (ci := 4) (len := 4) C gw_415 (by decide +kernel) (by decide) rfl (by decide) (by decide) hn75 hc76 hc77 dX11_init_26 ?_
  refine x_topS (fun S78 e79 => ?_)
  have h1 := h1 S78 e79
  refine x_putfF_r (n := h) C rfl (tk_n e79 hn75 (tk_p e73 (tk_n e71 hn67 (tk_p e65 ht63)))) fd_124 xc_11 (by decide) rfl hini rfl (xm_nr rfl) dX11_init_29 ?_
  refine x_topS (fun S80 e81 => ?_)
  have h1 := h1 S80 e81
  refine x_aload_n C 0 dX11_init_32 rfl rfl ?_
  refine x_iconst (v := (0 : Int32)) C dX11_init_33 (by decide) ?_
  refine x_putf_i (n := h) C rfl (tk_p e81 (tk_n e79 hn75 (tk_p e73 (tk_n e71 hn67 (tk_p e65 ht63))))) fd_119 xc_11 (by decide) rfl ⟨rfl, rfl⟩ dX11_init_34 ?_
  refine x_topS (fun S82 e83 => ?_)
  have h1 := h1 S82 e83
  refine x_aload_n C 0 dX11_init_37 rfl rfl ?_
  refine x_bipush (v := (nI 15)) C dX11_init_38 (by decide) ?_
  refine x_putf_i (n := h) C rfl (tk_p e83 (tk_p e81 (tk_n e79 hn75 (tk_p e73 (tk_n e71 hn67 (tk_p e65 ht63)))))) fd_125 xc_11 (by decide) rfl ⟨rfl, rfl⟩ dX11_init_40 ?_
  refine x_topS (fun S84 e85 => ?_)
  have h1 := h1 S84 e85
  refine x_aload_n C 0 dX11_init_43 rfl rfl ?_
  refine x_bipush (v := (nI 6)) C dX11_init_44 (by decide) ?_
  obtain ⟨hc88, hc89, h1⟩ := h1
  obtain ⟨n86, hn87, h1⟩ := h1
  refine x_newq (n := n86) (ci := 0) (len := 6) C gw_349 (by decide +kernel) (by decide) rfl (by decide) (by decide) hn87 hc88 hc89 dX11_init_46 ?_
  refine x_topS (fun S90 e91 => ?_)
  have h1 := h1 S90 e91
  refine x_putfF_r (n := h) C rfl (tk_n e91 hn87 (tk_p e85 (tk_p e83 (tk_p e81 (tk_n e79 hn75 (tk_p e73 (tk_n e71 hn67 (tk_p e65 ht63)))))))) fd_110 xc_11 (by decide) rfl hini rfl (xm_nr rfl) dX11_init_49 ?_
  refine x_topS (fun S92 e93 => ?_)
  have h1 := h1 S92 e93
  refine x_aload_n C 0 dX11_init_52 rfl rfl ?_
  refine x_iconst (v := (0 : Int32)) C dX11_init_53 (by decide) ?_
  refine x_putf_i (n := h) C rfl (tk_p e93 (tk_n e91 hn87 (tk_p e85 (tk_p e83 (tk_p e81 (tk_n e79 hn75 (tk_p e73 (tk_n e71 hn67 (tk_p e65 ht63))))))))) fd_109 xc_11 (by decide) rfl ⟨rfl, rfl⟩ dX11_init_54 ?_
  refine x_topS (fun S94 e95 => ?_)
  have h1 := h1 S94 e95
  refine x_aload_n C 0 dX11_init_57 rfl rfl ?_
  refine x_iconst (v := (nI 3)) C dX11_init_58 (by decide) ?_
  refine x_bipush (v := (nI 6)) C dX11_init_59 (by decide) ?_
  obtain ⟨hc96, hc97, h1⟩ := h1
  obtain ⟨n98, n99, n100, n101, hn102, hn103, hn104, hn105, hd106, h1⟩ := h1
  refine x_mna (n0 := n98) (n1 := n99) (n2 := n100) (n3 := n101) C gw_469 gw_11 hn102 hn103 hn104 hn105 hd106 hc96 hc97 dX11_init_61 ?_
  refine x_topS (fun S107 e108 => ?_)
  have h1 := h1 S107 e108
  obtain ⟨ht109, h1⟩ := h1
  refine x_putfF_r (n := h) C rfl ht109 fd_115 xc_11 (by decide) rfl hini rfl (xm_nr rfl) dX11_init_65 ?_
  refine x_topS (fun S110 e111 => ?_)
  have h1 := h1 S110 e111
  refine x_aload_n C 0 dX11_init_68 rfl rfl ?_
  refine x_iconst (v := (nI 3)) C dX11_init_69 (by decide) ?_
  refine x_bipush (v := (nI 6)) C dX11_init_70 (by decide) ?_
  obtain ⟨hc112, hc113, h1⟩ := h1
  obtain ⟨n114, n115, n116, n117, hn118, hn119, hn120, hn121, hd122, h1⟩ := h1
  refine x_mna (n0 := n114) (n1 := n115) (n2 := n116) (n3 := n117) C gw_469 gw_11 hn118 hn119 hn120 hn121 hd122 hc112 hc113 dX11_init_72 ?_
  refine x_topS (fun S123 e124 => ?_)
  have h1 := h1 S123 e124
  obtain ⟨ht125, h1⟩ := h1
  refine x_putfF_r (n := h) C rfl ht125 fd_141 xc_11 (by decide) rfl hini rfl (xm_nr rfl) dX11_init_76 ?_
  refine x_topS (fun S126 e127 => ?_)
  have h1 := h1 S126 e127
  refine x_aload_n C 0 dX11_init_79 rfl rfl ?_
  refine x_iconst (v := (nI 3)) C dX11_init_80 (by decide) ?_
  obtain ⟨hc130, hc131, h1⟩ := h1
  obtain ⟨n128, hn129, h1⟩ := h1
  refine x_newa_z (n := n128) (len := 3) C gw_104 (by decide) (by decide) hn129 hc130 hc131 dX11_init_81 ?_
  refine x_topS (fun S132 e133 => ?_)
  have h1 := h1 S132 e133
  refine x_putfF_r (n := h) C rfl (tk_n e133 hn129 (tk_p e127 ht125)) fd_142 xc_11 (by decide) rfl hini rfl (xm_nr rfl) dX11_init_83 ?_
  refine x_topS (fun S134 e135 => ?_)
  have h1 := h1 S134 e135
  refine x_aload_n C 0 dX11_init_86 rfl rfl ?_
  obtain ⟨hc138, hc139, h1⟩ := h1
  obtain ⟨n136, hn137, h1⟩ := h1
  refine x_new (n := n136) C xc_7 gw_471 hn137 hc138 hc139 dX11_init_87 ?_
  refine x_topS (fun S140 e141 => ?_)
  have h1 := h1 S140 e141
  refine x_dup_r C dX11_init_90 ?_
  obtain ⟨hc142, hc143, h1⟩ := h1
  refine x_callIN (rm' := rm_X7_init) (n := n136) RX11 C (kp_X7_init_met h1) (by decide +kernel) gw_151 gw_472 ⟨by decide, by decide, by decide +kernel⟩ gw_473 rfl rfl rfl (Nat.le_of_ble_eq_true rfl) ⟨Nat.le_of_ble_eq_true rfl, Nat.le_of_ble_eq_true rfl, hc142, hc143⟩ dX11_init_91 xm_kx (xm_kv (fun S144 h1 => ?_))
  obtain ⟨ht146, h1⟩ := h1
  refine x_putfF_r (n := h) C rfl ht146 fd_123 xc_11 (by decide) rfl hini rfl (xm_nr rfl) dX11_init_94 ?_
  refine x_topS (fun S147 e148 => ?_)
  have h1 := h1 S147 e148
  refine x_aload_n C 0 dX11_init_97 rfl rfl ?_
  refine x_iconst (v := (0 : Int32)) C dX11_init_98 (by decide) ?_
  refine x_putf_i (n := h) C rfl (tk_p e148 ht146) fd_140 xc_11 (by decide) rfl ⟨rfl, rfl⟩ dX11_init_99 ?_
  refine x_topS (fun S149 e150 => ?_)
  have h1 := h1 S149 e150
  refine x_aload_n C 0 dX11_init_102 rfl rfl ?_
  refine x_iconst (v := (1 : Int32)) C dX11_init_103 (by decide) ?_
  refine x_putf_i (n := h) C rfl (tk_p e150 (tk_p e148 ht146)) fd_137 xc_11 (by decide) rfl ⟨rfl, rfl⟩ dX11_init_104 ?_
  refine x_topS (fun S151 e152 => ?_)
  have h1 := h1 S151 e152
  refine x_aload_n C 0 dX11_init_107 rfl rfl ?_
  refine x_iconst (v := (1 : Int32)) C dX11_init_108 (by decide) ?_
  refine x_putf_i (n := h) C rfl (tk_p e152 (tk_p e150 (tk_p e148 ht146))) fd_138 xc_11 (by decide) rfl ⟨rfl, rfl⟩ dX11_init_109 ?_
  refine x_topS (fun S153 e154 => ?_)
  have h1 := h1 S153 e154
  refine x_aload_n C 0 dX11_init_112 rfl rfl ?_
  refine x_iconst (v := (0 : Int32)) C dX11_init_113 (by decide) ?_
  refine x_putf_i (n := h) C rfl (tk_p e154 (tk_p e152 (tk_p e150 (tk_p e148 ht146)))) fd_139 xc_11 (by decide) rfl ⟨rfl, rfl⟩ dX11_init_114 ?_
  refine x_topS (fun S155 e156 => ?_)
  have h1 := h1 S155 e156
  refine x_aload_n C 0 dX11_init_117 rfl rfl ?_
  refine x_iconst (v := (nI 3)) C dX11_init_118 (by decide) ?_
  obtain ⟨hc159, hc160, h1⟩ := h1
  obtain ⟨n157, hn158, h1⟩ := h1
  refine x_newa_z (n := n157) (len := 3) C gw_104 (by decide) (by decide) hn158 hc159 hc160 dX11_init_119 ?_
  refine x_topS (fun S161 e162 => ?_)
  have h1 := h1 S161 e162
  refine x_putfF_r (n := h) C rfl (tk_n e162 hn158 (tk_p e156 (tk_p e154 (tk_p e152 (tk_p e150 (tk_p e148 ht146)))))) fd_130 xc_11 (by decide) rfl hini rfl (xm_nr rfl) dX11_init_121 ?_
  refine x_topS (fun S163 e164 => ?_)
  have h1 := h1 S163 e164
  refine x_aload_n C 0 dX11_init_124 rfl rfl ?_
  refine x_iconst (v := (nI 3)) C dX11_init_125 (by decide) ?_
  obtain ⟨hc167, hc168, h1⟩ := h1
  obtain ⟨n165, hn166, h1⟩ := h1
  refine x_newa_i (n := n165) (len := 3) C gw_11 (by decide) (by decide) hn166 hc167 hc168 dX11_init_126 ?_
  refine x_topS (fun S169 e170 => ?_)
  have h1 := h1 S169 e170
  refine x_putfF_r (n := h) C rfl (tk_n e170 hn166 (tk_p e164 (tk_n e162 hn158 (tk_p e156 (tk_p e154 (tk_p e152 (tk_p e150 (tk_p e148 ht146)))))))) fd_132 xc_11 (by decide) rfl hini rfl (xm_nr rfl) dX11_init_128 ?_
  refine x_topS (fun S171 e172 => ?_)
  have h1 := h1 S171 e172
  refine x_aload_n C 0 dX11_init_131 rfl rfl ?_
  obtain ⟨hc175, hc176, h1⟩ := h1
  obtain ⟨n173, hn174, h1⟩ := h1
  refine x_new (n := n173) C xc_2 gw_474 hn174 hc175 hc176 dX11_init_132 ?_
  refine x_topS (fun S177 e178 => ?_)
  have h1 := h1 S177 e178
  refine x_dup_r C dX11_init_135 ?_
  obtain ⟨hc179, hc180, h1⟩ := h1
  refine x_callI (rm' := rm_X2_init) (n := n173) C (kp_X2_init_met h1) lk_76 gw_477 rfl rfl rfl (Nat.le_of_ble_eq_true rfl) ⟨Nat.le_of_ble_eq_true rfl, Nat.le_of_ble_eq_true rfl, hc179, hc180⟩ dX11_init_136 xm_kx (xm_kv (fun S181 h1 => ?_))
  obtain ⟨ht183, h1⟩ := h1
  refine x_putfF_r (n := h) C rfl ht183 fd_120 xc_11 (by decide) rfl hini rfl (xm_nr rfl) dX11_init_139 ?_
  refine x_topS (fun S184 e185 => ?_)
  have h1 := h1 S184 e185
  refine x_iconst (v := (0 : Int32)) C dX11_init_142 (by decide) ?_
  refine x_istore_n (L' := [(1, xm_i (0 : Int32)), (0, xm_r (some h))]) C dX11_init_143 rfl (by decide) rfl ?_
  refine x_keep (L' := [(0, xm_r (some h)), (1, xm_i (0 : Int32))]) C [1, 0] rfl ?_
  exact kp_X11_init_144 h (0 : Int32) S184 ((((((((((((((0 + 1) + 1) + 1) + 1) + 1) + 4) + 4) + 1) + 1) + 5) + 1) + 1) + 1) + 60) ((((((((((((((0 + 4) + 40) + 6) + 4) + 6) + 21) + 21) + 3) + 18) + 49) + 3) + 3) + 10) + 1000) C N hini hg  h1
theorem kp_X11_init_met {h : Nat}  {S : xm_S} {g : xm_S → Prop}  (h1 : wp_X11_init h  S g) : xm_Met yX11_init cX11_init 3 none rm_X11_init [xm_r (some h)] S (xm_qv g) xm_nox :=
  xm_ofW RX11 (by decide +kernel) rfl (Nat.le_of_ble_eq_true rfl) (fun K C N hq hx hi => kp_X11_init h  S C N (hi rfl) (fun S h => by rw [hq]; exact ⟨rfl, h⟩)  h1)
def rm_X11_install : Room := { frames := 7, cells := 2, slots := 12, locals := 122 }
theorem dX11_install_0 : decode cX11_install 0 = .ok (.iload_n 1, 1) := by decide +kernel
theorem dX11_install_1 : decode cX11_install 1 = .ok (.invokestatic 212, 3) := by decide +kernel
theorem dX11_install_4 : decode cX11_install 4 = .ok (.iload_n 2, 1) := by decide +kernel
theorem dX11_install_5 : decode cX11_install 5 = .ok (.iconst 0, 1) := by decide +kernel
theorem dX11_install_6 : decode cX11_install 6 = .ok (.bipush 99, 2) := by decide +kernel
theorem dX11_install_8 : decode cX11_install 8 = .ok (.invokestatic 132, 3) := by decide +kernel
theorem dX11_install_11 : decode cX11_install 11 = .ok (.aload_n 0, 1) := by decide +kernel
theorem dX11_install_12 : decode cX11_install 12 = .ok (.getfield 85, 3) := by decide +kernel
theorem dX11_install_15 : decode cX11_install 15 = .ok (.aload_n 0, 1) := by decide +kernel
theorem dX11_install_16 : decode cX11_install 16 = .ok (.getfield 18, 3) := by decide +kernel
theorem dX11_install_19 : decode cX11_install 19 = .ok (.aload_n 0, 1) := by decide +kernel
theorem dX11_install_20 : decode cX11_install 20 = .ok (.getfield 46, 3) := by decide +kernel
theorem dX11_install_23 : decode cX11_install 23 = .ok (.iload_n 1, 1) := by decide +kernel
theorem dX11_install_24 : decode cX11_install 24 = .ok (.aaload, 1) := by decide +kernel
theorem dX11_install_25 : decode cX11_install 25 = .ok (.iload_n 2, 1) := by decide +kernel
theorem dX11_install_26 : decode cX11_install 26 = .ok (.invokevirtual 296, 3) := by decide +kernel
theorem dX11_install_29 : decode cX11_install 29 = .ok (.ireturn, 1) := by decide +kernel
def wp_X11_install (h : Nat) (x1 : Int32) (x2 : Int32) (S : xm_S) (g : Int32 → xm_S → Prop) (Ex : String → xm_S → Prop) : Prop :=
  wp_X11_checkPlatform x1 S (fun S1 => wp_X11_checkRange x2 (0 : Int32) (nI 99) S1 (fun S3 => st_t S3 h = some (11, 0) ∧ ∃ n6, (st_r S3 h 7) = some n6 ∧ ∃ z9, st_t S3 n6 = some (104, z9) ∧ vp_in x1 z9 ∧ ∃ n11, (st_r S3 h 17) = some n11 ∧ st_t S3 n11 = some (2, 0) ∧ wp_X2_bring n11 (st_r S3 h 1) (st_r S3 n6 (x1).toNatClampNeg) x2 S3 (fun r15 S14 => g r15 S14)) Ex) Ex
set_option maxRecDepth 100000 in
set_option maxHeartbeats 4000000 in
theorem kp_X11_install {K : xm_K} (h : Nat) (x1 : Int32) (x2 : Int32) (S : xm_S) {g : Int32 → xm_S → Prop} {Ex : String → xm_S → Prop} (C : xm_Cx K cX11_install RX11 3 (some (FieldType.int)) rm_X11_install) (N : xm_Nx K) (hg : ∀ v S, g v S → xm_q K (some (xm_i v)) S) (hEx : ∀ X S, Ex X S → xm_x K X S)  (h1 : wp_X11_install h x1 x2 S g Ex) : xm_W K 0 0 0 [(0, xm_r (some h)), (1, xm_i x1), (2, xm_i x2)] [] S := by
  unfold wp_X11_install at h1
  refine x_iload_n C 1 dX11_install_0 rfl rfl ?_
  refine x_callS (rm' := rm_X11_checkPlatform) C (kp_X11_checkPlatform_met h1) lk_58 gw_373 rfl (Nat.le_of_ble_eq_true rfl) ⟨Nat.le_of_ble_eq_true rfl, Nat.le_of_ble_eq_true rfl, (Nat.le_of_ble_eq_true rfl), (Nat.le_of_ble_eq_true rfl)⟩ dX11_install_1 (fun X9 S9 hx9 => x_thru C N (Nat.le_of_ble_eq_true rfl) (Nat.le_of_ble_eq_true rfl) (hEx _ _ hx9)) (xm_kv (fun S1 h1 => ?_))
  refine x_iload_n C 2 dX11_install_4 rfl rfl ?_
  refine x_iconst (v := (0 : Int32)) C dX11_install_5 (by decide) ?_
  refine x_bipush (v := (nI 99)) C dX11_install_6 (by decide) ?_
  refine x_callS (rm' := rm_X11_checkRange) C (kp_X11_checkRange_met h1) lk_51 gw_339 rfl (Nat.le_of_ble_eq_true rfl) ⟨Nat.le_of_ble_eq_true rfl, Nat.le_of_ble_eq_true rfl, (Nat.le_of_ble_eq_true rfl), (Nat.le_of_ble_eq_true rfl)⟩ dX11_install_8 (fun X9 S9 hx9 => x_thru C N (Nat.le_of_ble_eq_true rfl) (Nat.le_of_ble_eq_true rfl) (hEx _ _ hx9)) (xm_kv (fun S3 h1 => ?_))
  refine x_aload_n C 0 dX11_install_11 rfl rfl ?_
  obtain ⟨ht5, h1⟩ := h1
  refine x_getf_r (n := h) C rfl ht5 fd_120 (by decide) dX11_install_12 ?_
  refine x_aload_n C 0 dX11_install_15 rfl rfl ?_
  refine x_getf_r (n := h) C rfl ht5 fd_111 (by decide) dX11_install_16 ?_
  refine x_aload_n C 0 dX11_install_19 rfl rfl ?_
  refine x_getf_r (n := h) C rfl ht5 fd_115 (by decide) dX11_install_20 ?_
  refine x_iload_n C 1 dX11_install_23 rfl rfl ?_
  obtain ⟨n6, hr7, h1⟩ := h1
  obtain ⟨z9, ht8, h1⟩ := h1
  obtain ⟨hi10, h1⟩ := h1
  refine x_aald (n := n6) C hr7 (by decide) rfl ht8 hi10 dX11_install_24 ?_
  refine x_iload_n C 2 dX11_install_25 rfl rfl ?_
  obtain ⟨n11, hr12, h1⟩ := h1
  obtain ⟨ht13, h1⟩ := h1
  refine x_callV (rm' := rm_X2_bring) (n := n11) C (kp_X2_bring_met h1) lk_77 gw_480 gw_481 xv_2 rfl hr12 ht13 rfl (Nat.le_of_ble_eq_true rfl) ⟨Nat.le_of_ble_eq_true rfl, Nat.le_of_ble_eq_true rfl, (Nat.le_of_ble_eq_true rfl), (Nat.le_of_ble_eq_true rfl)⟩ dX11_install_26 xm_kx (xm_ki (fun r15 S14 h1 => ?_))
  exact x_iret C (Nat.le_of_ble_eq_true rfl) (Nat.le_of_ble_eq_true rfl) rfl dX11_install_29 (hg _ _ h1)
theorem kp_X11_install_met {h : Nat} {x1 : Int32} {x2 : Int32} {S : xm_S} {g : Int32 → xm_S → Prop} {Ex : String → xm_S → Prop}  (h1 : wp_X11_install h x1 x2 S g Ex) : xm_Met yX11_install cX11_install 3 (some (FieldType.int)) rm_X11_install [xm_r (some h), xm_i x1, xm_i x2] S (xm_qi g) Ex :=
  xm_ofW RX11 (by decide +kernel) rfl (Nat.le_of_ble_eq_true rfl) (fun K C N hq hx hi => kp_X11_install h x1 x2 S C N (fun v S h => by rw [hq]; exact ⟨v, rfl, h⟩) (fun X S h => by rw [hx]; exact h)  h1)
def rm_X11_installed : Room := { frames := 7, cells := 1, slots := 6, locals := 120 }
theorem dX11_installed_0 : decode cX11_installed 0 = .ok (.iload_n 1, 1) := by decide +kernel
theorem dX11_installed_1 : decode cX11_installed 1 = .ok (.invokestatic 122, 3) := by decide +kernel
theorem dX11_installed_4 : decode cX11_installed 4 = .ok (.aload_n 0, 1) := by decide +kernel
theorem dX11_installed_5 : decode cX11_installed 5 = .ok (.getfield 85, 3) := by decide +kernel
theorem dX11_installed_8 : decode cX11_installed 8 = .ok (.getfield 303, 3) := by decide +kernel
theorem dX11_installed_11 : decode cX11_installed 11 = .ok (.getfield 320, 3) := by decide +kernel
theorem dX11_installed_14 : decode cX11_installed 14 = .ok (.iload_n 1, 1) := by decide +kernel
theorem dX11_installed_15 : decode cX11_installed 15 = .ok (.iaload, 1) := by decide +kernel
theorem dX11_installed_16 : decode cX11_installed 16 = .ok (.ireturn, 1) := by decide +kernel
def wp_X11_installed (h : Nat) (x1 : Int32) (S : xm_S) (g : Int32 → xm_S → Prop) (Ex : String → xm_S → Prop) : Prop :=
  wp_X11_checkPack x1 S (fun S1 => st_t S1 h = some (11, 0) ∧ ∃ n4, (st_r S1 h 17) = some n4 ∧ st_t S1 n4 = some (2, 0) ∧ ∃ n7, (st_r S1 n4 0) = some n7 ∧ st_t S1 n7 = some (3, 0) ∧ ∃ n10, (st_r S1 n7 0) = some n10 ∧ ∃ z13, st_t S1 n10 = some (100, z13) ∧ vp_in x1 z13 ∧ g (st_i S1 n10 (x1).toNatClampNeg) S1) Ex
set_option maxRecDepth 100000 in
set_option maxHeartbeats 4000000 in
theorem kp_X11_installed {K : xm_K} (h : Nat) (x1 : Int32) (S : xm_S) {g : Int32 → xm_S → Prop} {Ex : String → xm_S → Prop} (C : xm_Cx K cX11_installed RX11 2 (some (FieldType.int)) rm_X11_installed) (N : xm_Nx K) (hg : ∀ v S, g v S → xm_q K (some (xm_i v)) S) (hEx : ∀ X S, Ex X S → xm_x K X S)  (h1 : wp_X11_installed h x1 S g Ex) : xm_W K 0 0 0 [(0, xm_r (some h)), (1, xm_i x1)] [] S := by
  unfold wp_X11_installed at h1
  refine x_iload_n C 1 dX11_installed_0 rfl rfl ?_
  refine x_callS (rm' := rm_X11_checkPack) C (kp_X11_checkPack_met h1) lk_50 gw_336 rfl (Nat.le_of_ble_eq_true rfl) ⟨Nat.le_of_ble_eq_true rfl, Nat.le_of_ble_eq_true rfl, (Nat.le_of_ble_eq_true rfl), (Nat.le_of_ble_eq_true rfl)⟩ dX11_installed_1 (fun X9 S9 hx9 => x_thru C N (Nat.le_of_ble_eq_true rfl) (Nat.le_of_ble_eq_true rfl) (hEx _ _ hx9)) (xm_kv (fun S1 h1 => ?_))
  refine x_aload_n C 0 dX11_installed_4 rfl rfl ?_
  obtain ⟨ht3, h1⟩ := h1
  refine x_getf_r (n := h) C rfl ht3 fd_120 (by decide) dX11_installed_5 ?_
  obtain ⟨n4, hr5, h1⟩ := h1
  obtain ⟨ht6, h1⟩ := h1
  refine x_getf_r (n := n4) C hr5 ht6 fd_128 (by decide) dX11_installed_8 ?_
  obtain ⟨n7, hr8, h1⟩ := h1
  obtain ⟨ht9, h1⟩ := h1
  refine x_getf_r (n := n7) C hr8 ht9 fd_143 (by decide) dX11_installed_11 ?_
  refine x_iload_n C 1 dX11_installed_14 rfl rfl ?_
  obtain ⟨n10, hr11, h1⟩ := h1
  obtain ⟨z13, ht12, h1⟩ := h1
  obtain ⟨hi14, h1⟩ := h1
  refine x_iald (n := n10) C hr11 ht12 hi14 dX11_installed_15 ?_
  exact x_iret C (Nat.le_of_ble_eq_true rfl) (Nat.le_of_ble_eq_true rfl) rfl dX11_installed_16 (hg _ _ h1)
theorem kp_X11_installed_met {h : Nat} {x1 : Int32} {S : xm_S} {g : Int32 → xm_S → Prop} {Ex : String → xm_S → Prop}  (h1 : wp_X11_installed h x1 S g Ex) : xm_Met yX11_installed cX11_installed 2 (some (FieldType.int)) rm_X11_installed [xm_r (some h), xm_i x1] S (xm_qi g) Ex :=
  xm_ofW RX11 (by decide +kernel) rfl (Nat.le_of_ble_eq_true rfl) (fun K C N hq hx hi => kp_X11_installed h x1 S C N (fun v S h => by rw [hq]; exact ⟨v, rfl, h⟩) (fun X S h => by rw [hx]; exact h)  h1)
def rm_X11_keptGeneration : Room := { frames := 6, cells := 1, slots := 6, locals := 100 }
theorem dX11_keptGeneration_0 : decode cX11_keptGeneration 0 = .ok (.aload_n 0, 1) := by decide +kernel
theorem dX11_keptGeneration_1 : decode cX11_keptGeneration 1 = .ok (.getfield 85, 3) := by decide +kernel
theorem dX11_keptGeneration_4 : decode cX11_keptGeneration 4 = .ok (.iload_n 1, 1) := by decide +kernel
theorem dX11_keptGeneration_5 : decode cX11_keptGeneration 5 = .ok (.invokevirtual 373, 3) := by decide +kernel
theorem dX11_keptGeneration_8 : decode cX11_keptGeneration 8 = .ok (.astore_n 2, 1) := by decide +kernel
theorem dX11_keptGeneration_9 : decode cX11_keptGeneration 9 = .ok (.aload_n 2, 1) := by decide +kernel
theorem dX11_keptGeneration_10 : decode cX11_keptGeneration 10 = .ok (.ifnonnull 14, 3) := by decide +kernel
theorem dX11_keptGeneration_13 : decode cX11_keptGeneration 13 = .ok (.new 349, 3) := by decide +kernel
theorem dX11_keptGeneration_16 : decode cX11_keptGeneration 16 = .ok (.dup, 1) := by decide +kernel
theorem dX11_keptGeneration_17 : decode cX11_keptGeneration 17 = .ok (.ldc_w 376, 3) := by decide +kernel
theorem dX11_keptGeneration_20 : decode cX11_keptGeneration 20 = .ok (.invokespecial 353, 3) := by decide +kernel
theorem dX11_keptGeneration_23 : decode cX11_keptGeneration 23 = .ok (.athrow, 1) := by decide +kernel
theorem dX11_keptGeneration_24 : decode cX11_keptGeneration 24 = .ok (.aload_n 2, 1) := by decide +kernel
theorem dX11_keptGeneration_25 : decode cX11_keptGeneration 25 = .ok (.areturn, 1) := by decide +kernel
def wp_X11_keptGeneration (h : Nat) (x1 : Int32) (S : xm_S) (g : Option Nat → xm_S → Prop) (Ex : String → xm_S → Prop) : Prop :=
  st_t S h = some (11, 0) ∧ ∃ n2, (st_r S h 17) = some n2 ∧ st_t S n2 = some (2, 0) ∧ wp_X2_keptAs n2 x1 S (fun r6 S5 => (¬ r6 = none → g r6 S5) ∧ (r6 = none → Ex xm_eI S5))
set_option maxRecDepth 100000 in
set_option maxHeartbeats 4000000 in
theorem kp_X11_keptGeneration {K : xm_K} (h : Nat) (x1 : Int32) (S : xm_S) {g : Option Nat → xm_S → Prop} {Ex : String → xm_S → Prop} (C : xm_Cx K cX11_keptGeneration RX11 3 (some ((FieldType.object "Portsmith$Generation"))) rm_X11_keptGeneration) (N : xm_Nx K) (hg : ∀ v S, g v S → xm_q K (some (xm_r v)) S) (hEx : ∀ X S, Ex X S → xm_x K X S)  (h1 : wp_X11_keptGeneration h x1 S g Ex) : xm_W K 0 0 0 [(0, xm_r (some h)), (1, xm_i x1)] [] S := by
  unfold wp_X11_keptGeneration at h1
  refine x_aload_n C 0 dX11_keptGeneration_0 rfl rfl ?_
  obtain ⟨ht1, h1⟩ := h1
  refine x_getf_r (n := h) C rfl ht1 fd_120 (by decide) dX11_keptGeneration_1 ?_
  refine x_iload_n C 1 dX11_keptGeneration_4 rfl rfl ?_
  obtain ⟨n2, hr3, h1⟩ := h1
  obtain ⟨ht4, h1⟩ := h1
  refine x_callV (rm' := rm_X2_keptAs) (n := n2) C (kp_X2_keptAs_met h1) lk_78 gw_485 gw_486 xv_2 rfl hr3 ht4 rfl (Nat.le_of_ble_eq_true rfl) ⟨Nat.le_of_ble_eq_true rfl, Nat.le_of_ble_eq_true rfl, (Nat.le_of_ble_eq_true rfl), (Nat.le_of_ble_eq_true rfl)⟩ dX11_keptGeneration_5 xm_kx (xm_kr (fun r6 S5 h1 => ?_))
  refine x_astore_n (L' := [(2, xm_r r6), (0, xm_r (some h)), (1, xm_i x1)]) C dX11_keptGeneration_8 rfl (by decide) rfl ?_
  refine x_aload_n C 0 dX11_keptGeneration_9 rfl rfl ?_
  refine x_ifnonnull (tgt := 24) C dX11_keptGeneration_10 (by decide) (fun z9 => ?_) (fun z9 => ?_)
  · have h1 := h1.1 z9
    refine x_aload_n C 0 dX11_keptGeneration_24 rfl rfl ?_
    exact x_aret C (Nat.le_of_ble_eq_true rfl) (Nat.le_of_ble_eq_true rfl) rfl (by first | exact Or.inl ⟨_, rfl⟩ | exact Or.inr ⟨_, rfl⟩) dX11_keptGeneration_25 (hg _ _ h1)
  · have h1 := h1.2 z9
    exact x_throw (text := "the generation is not kept") C N th_I_in th_I_fit gw_325 gw_326 (by decide +kernel) th_I_at th_I_no th_I_ot (Nat.le_of_ble_eq_true rfl) ⟨Nat.le_of_ble_eq_true rfl, Nat.le_of_ble_eq_true rfl, (Nat.le_of_ble_eq_true rfl), (Nat.le_of_ble_eq_true rfl)⟩ dX11_keptGeneration_13 dX11_keptGeneration_16 (Or.inr ⟨dX11_keptGeneration_17, dX11_keptGeneration_20, dX11_keptGeneration_23⟩) (hEx _ _ h1)
theorem kp_X11_keptGeneration_met {h : Nat} {x1 : Int32} {S : xm_S} {g : Option Nat → xm_S → Prop} {Ex : String → xm_S → Prop}  (h1 : wp_X11_keptGeneration h x1 S g Ex) : xm_Met yX11_keptGeneration cX11_keptGeneration 3 (some ((FieldType.object "Portsmith$Generation"))) rm_X11_keptGeneration [xm_r (some h), xm_i x1] S (xm_qr g) Ex :=
  xm_ofW RX11 (by decide +kernel) rfl (Nat.le_of_ble_eq_true rfl) (fun K C N hq hx hi => kp_X11_keptGeneration h x1 S C N (fun v S h => by rw [hq]; exact ⟨v, rfl, h⟩) (fun X S h => by rw [hx]; exact h)  h1)
def rm_X11_lies : Room := { frames := 7, cells := 1, slots := 6, locals := 120 }
theorem dX11_lies_0 : decode cX11_lies 0 = .ok (.iload_n 1, 1) := by decide +kernel
theorem dX11_lies_1 : decode cX11_lies 1 = .ok (.invokestatic 262, 3) := by decide +kernel
theorem dX11_lies_4 : decode cX11_lies 4 = .ok (.aload_n 0, 1) := by decide +kernel
theorem dX11_lies_5 : decode cX11_lies 5 = .ok (.getfield 78, 3) := by decide +kernel
theorem dX11_lies_8 : decode cX11_lies 8 = .ok (.iload_n 1, 1) := by decide +kernel
theorem dX11_lies_9 : decode cX11_lies 9 = .ok (.iaload, 1) := by decide +kernel
theorem dX11_lies_10 : decode cX11_lies 10 = .ok (.ireturn, 1) := by decide +kernel
def wp_X11_lies (h : Nat) (x1 : Int32) (S : xm_S) (g : Int32 → xm_S → Prop) (Ex : String → xm_S → Prop) : Prop :=
  wp_X11_checkMirror x1 S (fun S1 => st_t S1 h = some (11, 0) ∧ ∃ n4, (st_r S1 h 16) = some n4 ∧ ∃ z7, st_t S1 n4 = some (100, z7) ∧ vp_in x1 z7 ∧ g (st_i S1 n4 (x1).toNatClampNeg) S1) Ex
set_option maxRecDepth 100000 in
set_option maxHeartbeats 4000000 in
theorem kp_X11_lies {K : xm_K} (h : Nat) (x1 : Int32) (S : xm_S) {g : Int32 → xm_S → Prop} {Ex : String → xm_S → Prop} (C : xm_Cx K cX11_lies RX11 2 (some (FieldType.int)) rm_X11_lies) (N : xm_Nx K) (hg : ∀ v S, g v S → xm_q K (some (xm_i v)) S) (hEx : ∀ X S, Ex X S → xm_x K X S)  (h1 : wp_X11_lies h x1 S g Ex) : xm_W K 0 0 0 [(0, xm_r (some h)), (1, xm_i x1)] [] S := by
  unfold wp_X11_lies at h1
  refine x_iload_n C 1 dX11_lies_0 rfl rfl ?_
  refine x_callS (rm' := rm_X11_checkMirror) C (kp_X11_checkMirror_met h1) lk_79 gw_489 rfl (Nat.le_of_ble_eq_true rfl) ⟨Nat.le_of_ble_eq_true rfl, Nat.le_of_ble_eq_true rfl, (Nat.le_of_ble_eq_true rfl), (Nat.le_of_ble_eq_true rfl)⟩ dX11_lies_1 (fun X9 S9 hx9 => x_thru C N (Nat.le_of_ble_eq_true rfl) (Nat.le_of_ble_eq_true rfl) (hEx _ _ hx9)) (xm_kv (fun S1 h1 => ?_))
  refine x_aload_n C 0 dX11_lies_4 rfl rfl ?_
  obtain ⟨ht3, h1⟩ := h1
  refine x_getf_r (n := h) C rfl ht3 fd_132 (by decide) dX11_lies_5 ?_
  refine x_iload_n C 1 dX11_lies_8 rfl rfl ?_
  obtain ⟨n4, hr5, h1⟩ := h1
  obtain ⟨z7, ht6, h1⟩ := h1
  obtain ⟨hi8, h1⟩ := h1
  refine x_iald (n := n4) C hr5 ht6 hi8 dX11_lies_9 ?_
  exact x_iret C (Nat.le_of_ble_eq_true rfl) (Nat.le_of_ble_eq_true rfl) rfl dX11_lies_10 (hg _ _ h1)
theorem kp_X11_lies_met {h : Nat} {x1 : Int32} {S : xm_S} {g : Int32 → xm_S → Prop} {Ex : String → xm_S → Prop}  (h1 : wp_X11_lies h x1 S g Ex) : xm_Met yX11_lies cX11_lies 2 (some (FieldType.int)) rm_X11_lies [xm_r (some h), xm_i x1] S (xm_qi g) Ex :=
  xm_ofW RX11 (by decide +kernel) rfl (Nat.le_of_ble_eq_true rfl) (fun K C N hq hx hi => kp_X11_lies h x1 S C N (fun v S h => by rw [hq]; exact ⟨v, rfl, h⟩) (fun X S h => by rw [hx]; exact h)  h1)
def rm_X11_lock : Room := { frames := 7, cells := 2, slots := 12, locals := 120 }
theorem dX11_lock_0 : decode cX11_lock 0 = .ok (.iload_n 1, 1) := by decide +kernel
theorem dX11_lock_1 : decode cX11_lock 1 = .ok (.invokestatic 212, 3) := by decide +kernel
theorem dX11_lock_4 : decode cX11_lock 4 = .ok (.aload_n 0, 1) := by decide +kernel
theorem dX11_lock_5 : decode cX11_lock 5 = .ok (.getfield 52, 3) := by decide +kernel
theorem dX11_lock_8 : decode cX11_lock 8 = .ok (.iload_n 1, 1) := by decide +kernel
theorem dX11_lock_9 : decode cX11_lock 9 = .ok (.baload, 1) := by decide +kernel
theorem dX11_lock_10 : decode cX11_lock 10 = .ok (.ifCond .ne 13, 3) := by decide +kernel
theorem dX11_lock_13 : decode cX11_lock 13 = .ok (.new 106, 3) := by decide +kernel
theorem dX11_lock_16 : decode cX11_lock 16 = .ok (.dup, 1) := by decide +kernel
theorem dX11_lock_17 : decode cX11_lock 17 = .ok (.ldc 235, 2) := by decide +kernel
theorem dX11_lock_19 : decode cX11_lock 19 = .ok (.invokespecial 110, 3) := by decide +kernel
theorem dX11_lock_22 : decode cX11_lock 22 = .ok (.athrow, 1) := by decide +kernel
theorem dX11_lock_23 : decode cX11_lock 23 = .ok (.iconst 0, 1) := by decide +kernel
theorem dX11_lock_24 : decode cX11_lock 24 = .ok (.istore_n 2, 1) := by decide +kernel
theorem dX11_lock_25 : decode cX11_lock 25 = .ok (.iconst 0, 1) := by decide +kernel
theorem dX11_lock_26 : decode cX11_lock 26 = .ok (.istore_n 3, 1) := by decide +kernel
theorem dX11_lock_27 : decode cX11_lock 27 = .ok (.iload_n 3, 1) := by decide +kernel
theorem dX11_lock_28 : decode cX11_lock 28 = .ok (.bipush 6, 2) := by decide +kernel
theorem dX11_lock_30 : decode cX11_lock 30 = .ok (.if_icmp .ge 45, 3) := by decide +kernel
theorem dX11_lock_33 : decode cX11_lock 33 = .ok (.aload_n 0, 1) := by decide +kernel
theorem dX11_lock_34 : decode cX11_lock 34 = .ok (.getfield 46, 3) := by decide +kernel
theorem dX11_lock_37 : decode cX11_lock 37 = .ok (.iload_n 1, 1) := by decide +kernel
theorem dX11_lock_38 : decode cX11_lock 38 = .ok (.aaload, 1) := by decide +kernel
theorem dX11_lock_39 : decode cX11_lock 39 = .ok (.iload_n 3, 1) := by decide +kernel
theorem dX11_lock_40 : decode cX11_lock 40 = .ok (.aload_n 0, 1) := by decide +kernel
theorem dX11_lock_41 : decode cX11_lock 41 = .ok (.getfield 49, 3) := by decide +kernel
theorem dX11_lock_44 : decode cX11_lock 44 = .ok (.iload_n 1, 1) := by decide +kernel
theorem dX11_lock_45 : decode cX11_lock 45 = .ok (.aaload, 1) := by decide +kernel
theorem dX11_lock_46 : decode cX11_lock 46 = .ok (.iload_n 3, 1) := by decide +kernel
theorem dX11_lock_47 : decode cX11_lock 47 = .ok (.iaload, 1) := by decide +kernel
theorem dX11_lock_48 : decode cX11_lock 48 = .ok (.iastore, 1) := by decide +kernel
theorem dX11_lock_49 : decode cX11_lock 49 = .ok (.iload_n 2, 1) := by decide +kernel
theorem dX11_lock_50 : decode cX11_lock 50 = .ok (.aload_n 0, 1) := by decide +kernel
theorem dX11_lock_51 : decode cX11_lock 51 = .ok (.getfield 46, 3) := by decide +kernel
theorem dX11_lock_54 : decode cX11_lock 54 = .ok (.iload_n 1, 1) := by decide +kernel
theorem dX11_lock_55 : decode cX11_lock 55 = .ok (.aaload, 1) := by decide +kernel
theorem dX11_lock_56 : decode cX11_lock 56 = .ok (.iload_n 3, 1) := by decide +kernel
theorem dX11_lock_57 : decode cX11_lock 57 = .ok (.iaload, 1) := by decide +kernel
theorem dX11_lock_58 : decode cX11_lock 58 = .ok (.iconst (-1), 1) := by decide +kernel
theorem dX11_lock_59 : decode cX11_lock 59 = .ok (.if_icmp .ne 7, 3) := by decide +kernel
theorem dX11_lock_62 : decode cX11_lock 62 = .ok (.iconst 0, 1) := by decide +kernel
theorem dX11_lock_63 : decode cX11_lock 63 = .ok (.goto 4, 3) := by decide +kernel
theorem dX11_lock_66 : decode cX11_lock 66 = .ok (.iconst 1, 1) := by decide +kernel
theorem dX11_lock_67 : decode cX11_lock 67 = .ok (.iadd, 1) := by decide +kernel
theorem dX11_lock_68 : decode cX11_lock 68 = .ok (.istore_n 2, 1) := by decide +kernel
theorem dX11_lock_69 : decode cX11_lock 69 = .ok (.iinc 3 1, 3) := by decide +kernel
theorem dX11_lock_72 : decode cX11_lock 72 = .ok (.goto (-45), 3) := by decide +kernel
theorem dX11_lock_75 : decode cX11_lock 75 = .ok (.iload_n 2, 1) := by decide +kernel
theorem dX11_lock_76 : decode cX11_lock 76 = .ok (.ireturn, 1) := by decide +kernel
def wp_X11_lock_67 (h : Nat) (x1 : Int32) (x3 : Int32) (s0 : Int32) (s1 : Int32) (S : xm_S) (g : Int32 → xm_S → Prop) (Ex : String → xm_S → Prop) (Z27 : Int32 → Int32 → Int32 → xm_S → Prop) : Prop :=
  ∀ y1, y1 = (s1 + s0) → ∀ y3, y3 = (x3 + (1 : Int32)) → Z27 x1 y1 y3 S
set_option maxRecDepth 100000 in
set_option maxHeartbeats 4000000 in
theorem kp_X11_lock_67 {K : xm_K} (h : Nat) (x1 : Int32) (x3 : Int32) (s0 : Int32) (s1 : Int32) (S : xm_S) {g : Int32 → xm_S → Prop} {Ex : String → xm_S → Prop} {Z27 : Int32 → Int32 → Int32 → xm_S → Prop} (C : xm_Cx K cX11_lock RX11 4 (some (FieldType.int)) rm_X11_lock) (N : xm_Nx K) (hg : ∀ v S, g v S → xm_q K (some (xm_i v)) S) (hEx : ∀ X S, Ex X S → xm_x K X S) (hZ27 : ∀ x1 x2 x3 S, Z27 x1 x2 x3 S → xm_W K 1 6 27 [(0, xm_r (some h)), (1, xm_i x1), (2, xm_i x2), (3, xm_i x3)] [] S) (h1 : wp_X11_lock_67 h x1 x3 s0 s1 S g Ex Z27) : xm_W K 1 6 67 [(0, xm_r (some h)), (1, xm_i x1), (3, xm_i x3)] [xm_i s0, xm_i s1] S := by
  unfold wp_X11_lock_67 at h1
  refine x_iadd C dX11_lock_67 ?_
  refine x_topi (fun y1 e2 => ?_)
  have h1 := h1 y1 e2
  refine x_istore_n (L' := [(2, xm_i y1), (0, xm_r (some h)), (1, xm_i x1), (3, xm_i x3)]) C dX11_lock_68 rfl (by decide) rfl ?_
  obtain ⟨y3, e4⟩ : ∃ y3, y3 = (x3 + (1 : Int32)) := ⟨_, rfl⟩
  have h1 := h1 y3 e4
  refine x_iinc (v := y3) (L' := [(3, xm_i y3), (2, xm_i y1), (0, xm_r (some h)), (1, xm_i x1)]) C 3 dX11_lock_69 rfl (by rw [e4]; rfl) (by decide) rfl ?_
  refine x_goto (tgt := 27) C dX11_lock_72 (by decide) ?_
  refine x_keep (L' := [(0, xm_r (some h)), (1, xm_i x1), (2, xm_i y1), (3, xm_i y3)]) C [2, 3, 1, 0] rfl ?_
  exact hZ27 x1 y1 y3 S h1
def wp_X11_lock_27B (h : Nat) (x1 : Int32) (x2 : Int32) (x3 : Int32) (S : xm_S) (g : Int32 → xm_S → Prop) (Ex : String → xm_S → Prop) (Z27 : Int32 → Int32 → Int32 → xm_S → Prop) : Prop :=
  ((nI 6) ≤ x3 → g x2 S) ∧ (¬ (nI 6) ≤ x3 → st_t S h = some (11, 0) ∧ ∃ n6, (st_r S h 7) = some n6 ∧ ∃ z9, st_t S n6 = some (104, z9) ∧ vp_in x1 z9 ∧ ∃ n11, (st_r S h 8) = some n11 ∧ ∃ z14, st_t S n11 = some (104, z14) ∧ vp_in x1 z14 ∧ ∃ n16, (st_r S n11 (x1).toNatClampNeg) = some n16 ∧ ∃ z19, st_t S n16 = some (100, z19) ∧ vp_in x3 z19 ∧ ∃ n21, (st_r S n6 (x1).toNatClampNeg) = some n21 ∧ ∃ z24, st_t S n21 = some (100, z24) ∧ vp_in x3 z24 ∧ ∀ S26, S26 = st_pi S n21 (x3).toNatClampNeg (st_i S n16 (x3).toNatClampNeg) → ∃ n28, (st_r S26 h 7) = some n28 ∧ ∃ z31, st_t S26 n28 = some (104, z31) ∧ vp_in x1 z31 ∧ ∃ n33, (st_r S26 n28 (x1).toNatClampNeg) = some n33 ∧ ∃ z36, st_t S26 n33 = some (100, z36) ∧ vp_in x3 z36 ∧ (¬ (st_i S26 n33 (x3).toNatClampNeg) = (-1 : Int32) → wp_X11_lock_67 h x1 x3 (1 : Int32) x2 S26 g Ex Z27) ∧ ((st_i S26 n33 (x3).toNatClampNeg) = (-1 : Int32) → wp_X11_lock_67 h x1 x3 (0 : Int32) x2 S26 g Ex Z27))
def wp_X11_lock_27 (h : Nat) (x1 : Int32) (x2 : Int32) (x3 : Int32) (S : xm_S) (g : Int32 → xm_S → Prop) (Ex : String → xm_S → Prop) : Prop :=
  ∀ Z27 : Int32 → Int32 → Int32 → xm_S → Prop, (∀ x1 x2 x3 S, wp_X11_lock_27B h x1 x2 x3 S g Ex Z27 → Z27 x1 x2 x3 S) → Z27 x1 x2 x3 S
set_option maxRecDepth 100000 in
set_option maxHeartbeats 4000000 in
theorem kp_X11_lock_27B {K : xm_K} (h : Nat) (x1 : Int32) (x2 : Int32) (x3 : Int32) (S : xm_S) {g : Int32 → xm_S → Prop} {Ex : String → xm_S → Prop} {Z27 : Int32 → Int32 → Int32 → xm_S → Prop} (C : xm_Cx K cX11_lock RX11 4 (some (FieldType.int)) rm_X11_lock) (N : xm_Nx K) (hg : ∀ v S, g v S → xm_q K (some (xm_i v)) S) (hEx : ∀ X S, Ex X S → xm_x K X S) (hZ27 : ∀ x1 x2 x3 S, Z27 x1 x2 x3 S → xm_W K 1 6 27 [(0, xm_r (some h)), (1, xm_i x1), (2, xm_i x2), (3, xm_i x3)] [] S) (h1 : wp_X11_lock_27B h x1 x2 x3 S g Ex Z27) : xm_W K 1 6 27 [(0, xm_r (some h)), (1, xm_i x1), (2, xm_i x2), (3, xm_i x3)] [] S := by
  unfold wp_X11_lock_27B at h1
  refine x_iload_n C 3 dX11_lock_27 rfl rfl ?_
  refine x_bipush (v := (nI 6)) C dX11_lock_28 (by decide) ?_
  refine x_icmp_ge (tgt := 75) C dX11_lock_30 (by decide) (fun z9 => ?_) (fun z9 => ?_)
  · have h1 := h1.1 z9
    refine x_iload_n C 2 dX11_lock_75 rfl rfl ?_
    exact x_iret C (Nat.le_of_ble_eq_true rfl) (Nat.le_of_ble_eq_true rfl) rfl dX11_lock_76 (hg _ _ h1)
  · have h1 := h1.2 z9
    refine x_aload_n C 0 dX11_lock_33 rfl rfl ?_
    obtain ⟨ht5, h1⟩ := h1
    refine x_getf_r (n := h) C rfl ht5 fd_115 (by decide) dX11_lock_34 ?_
    refine x_iload_n C 1 dX11_lock_37 rfl rfl ?_
    obtain ⟨n6, hr7, h1⟩ := h1
    obtain ⟨z9, ht8, h1⟩ := h1
    obtain ⟨hi10, h1⟩ := h1
    refine x_aald (n := n6) C hr7 (by decide) rfl ht8 hi10 dX11_lock_38 ?_
    refine x_iload_n C 3 dX11_lock_39 rfl rfl ?_
    refine x_aload_n C 0 dX11_lock_40 rfl rfl ?_
    refine x_getf_r (n := h) C rfl ht5 fd_141 (by decide) dX11_lock_41 ?_
    refine x_iload_n C 1 dX11_lock_44 rfl rfl ?_
    obtain ⟨n11, hr12, h1⟩ := h1
    obtain ⟨z14, ht13, h1⟩ := h1
    obtain ⟨hi15, h1⟩ := h1
    refine x_aald (n := n11) C hr12 (by decide) rfl ht13 hi15 dX11_lock_45 ?_
    refine x_iload_n C 3 dX11_lock_46 rfl rfl ?_
    obtain ⟨n16, hr17, h1⟩ := h1
    obtain ⟨z19, ht18, h1⟩ := h1
    obtain ⟨hi20, h1⟩ := h1
    refine x_iald (n := n16) C hr17 ht18 hi20 dX11_lock_47 ?_
    obtain ⟨n21, hr22, h1⟩ := h1
    obtain ⟨z24, ht23, h1⟩ := h1
    obtain ⟨hi25, h1⟩ := h1
    refine x_iast (n := n21) C hr22 ht23 hi25 dX11_lock_48 ?_
    refine x_topS (fun S26 e27 => ?_)
    have h1 := h1 S26 e27
    refine x_iload_n C 2 dX11_lock_49 rfl rfl ?_
    refine x_aload_n C 0 dX11_lock_50 rfl rfl ?_
    refine x_getf_r (n := h) C rfl (tk_p e27 ht5) fd_115 (by decide) dX11_lock_51 ?_
    refine x_iload_n C 1 dX11_lock_54 rfl rfl ?_
    obtain ⟨n28, hr29, h1⟩ := h1
    obtain ⟨z31, ht30, h1⟩ := h1
    obtain ⟨hi32, h1⟩ := h1
    refine x_aald (n := n28) C hr29 (by decide) rfl ht30 hi32 dX11_lock_55 ?_
    refine x_iload_n C 3 dX11_lock_56 rfl rfl ?_
    obtain ⟨n33, hr34, h1⟩ := h1
    obtain ⟨z36, ht35, h1⟩ := h1
    obtain ⟨hi37, h1⟩ := h1
    refine x_iald (n := n33) C hr34 ht35 hi37 dX11_lock_57 ?_
    refine x_iconst (v := (-1 : Int32)) C dX11_lock_58 (by decide) ?_
    refine x_icmp_ne (tgt := 66) C dX11_lock_59 (by decide) (fun z9 => ?_) (fun z9 => ?_)
    · have h1 := h1.1 z9
      refine x_iconst (v := (1 : Int32)) C dX11_lock_66 (by decide) ?_
      refine x_keep (L' := [(0, xm_r (some h)), (1, xm_i x1), (3, xm_i x3)]) C [0, 1, 3] rfl ?_
      exact kp_X11_lock_67 h x1 x3 (1 : Int32) x2 S26 C N hg hEx hZ27 h1
    · have h1 := h1.2 z9
      refine x_iconst (v := (0 : Int32)) C dX11_lock_62 (by decide) ?_
      refine x_goto (tgt := 67) C dX11_lock_63 (by decide) ?_
      refine x_keep (L' := [(0, xm_r (some h)), (1, xm_i x1), (3, xm_i x3)]) C [0, 1, 3] rfl ?_
      exact kp_X11_lock_67 h x1 x3 (0 : Int32) x2 S26 C N hg hEx hZ27 h1
theorem kp_X11_lock_27 {K : xm_K} (h : Nat) (x1 : Int32) (x2 : Int32) (x3 : Int32) (S : xm_S) {g : Int32 → xm_S → Prop} {Ex : String → xm_S → Prop} (C : xm_Cx K cX11_lock RX11 4 (some (FieldType.int)) rm_X11_lock) (N : xm_Nx K) (hg : ∀ v S, g v S → xm_q K (some (xm_i v)) S) (hEx : ∀ X S, Ex X S → xm_x K X S)  (h1 : wp_X11_lock_27 h x1 x2 x3 S g Ex) : xm_W K 1 6 27 [(0, xm_r (some h)), (1, xm_i x1), (2, xm_i x2), (3, xm_i x3)] [] S :=
  h1 (fun x1 x2 x3 S => xm_W K 1 6 27 [(0, xm_r (some h)), (1, xm_i x1), (2, xm_i x2), (3, xm_i x3)] [] S) (fun x1 x2 x3 S hb => kp_X11_lock_27B h x1 x2 x3 S C N hg hEx (fun x1 x2 x3 S hz => hz) hb)
def wp_X11_lock (h : Nat) (x1 : Int32) (S : xm_S) (g : Int32 → xm_S → Prop) (Ex : String → xm_S → Prop) : Prop :=
  wp_X11_checkPlatform x1 S (fun S38 => st_t S38 h = some (11, 0) ∧ ∃ n41, (st_r S38 h 9) = some n41 ∧ ∃ z44, st_t S38 n41 = some (101, z44) ∧ vp_in x1 z44 ∧ (¬ (st_i S38 n41 (x1).toNatClampNeg) = 0 → wp_X11_lock_27 h x1 (0 : Int32) (0 : Int32) S38 g Ex) ∧ ((st_i S38 n41 (x1).toNatClampNeg) = 0 → Ex xm_eS S38)) Ex
set_option maxRecDepth 100000 in
set_option maxHeartbeats 4000000 in
theorem kp_X11_lock {K : xm_K} (h : Nat) (x1 : Int32) (S : xm_S) {g : Int32 → xm_S → Prop} {Ex : String → xm_S → Prop} (C : xm_Cx K cX11_lock RX11 4 (some (FieldType.int)) rm_X11_lock) (N : xm_Nx K) (hg : ∀ v S, g v S → xm_q K (some (xm_i v)) S) (hEx : ∀ X S, Ex X S → xm_x K X S)  (h1 : wp_X11_lock h x1 S g Ex) : xm_W K 0 0 0 [(0, xm_r (some h)), (1, xm_i x1)] [] S := by
  unfold wp_X11_lock at h1
  refine x_iload_n C 1 dX11_lock_0 rfl rfl ?_
  refine x_callS (rm' := rm_X11_checkPlatform) C (kp_X11_checkPlatform_met h1) lk_58 gw_373 rfl (Nat.le_of_ble_eq_true rfl) ⟨Nat.le_of_ble_eq_true rfl, Nat.le_of_ble_eq_true rfl, (Nat.le_of_ble_eq_true rfl), (Nat.le_of_ble_eq_true rfl)⟩ dX11_lock_1 (fun X9 S9 hx9 => x_thru C N (Nat.le_of_ble_eq_true rfl) (Nat.le_of_ble_eq_true rfl) (hEx _ _ hx9)) (xm_kv (fun S38 h1 => ?_))
  refine x_aload_n C 0 dX11_lock_4 rfl rfl ?_
  obtain ⟨ht40, h1⟩ := h1
  refine x_getf_r (n := h) C rfl ht40 fd_142 (by decide) dX11_lock_5 ?_
  refine x_iload_n C 1 dX11_lock_8 rfl rfl ?_
  obtain ⟨n41, hr42, h1⟩ := h1
  obtain ⟨z44, ht43, h1⟩ := h1
  obtain ⟨hi45, h1⟩ := h1
  refine x_zald (n := n41) C hr42 ht43 hi45 dX11_lock_9 ?_
  refine x_if_ne (tgt := 23) C dX11_lock_10 (by decide) (fun z9 => ?_) (fun z9 => ?_)
  · have h1 := h1.1 z9
    refine x_iconst (v := (0 : Int32)) C dX11_lock_23 (by decide) ?_
    refine x_istore_n (L' := [(2, xm_i (0 : Int32)), (0, xm_r (some h)), (1, xm_i x1)]) C dX11_lock_24 rfl (by decide) rfl ?_
    refine x_iconst (v := (0 : Int32)) C dX11_lock_25 (by decide) ?_
    refine x_istore_n (L' := [(3, xm_i (0 : Int32)), (2, xm_i (0 : Int32)), (0, xm_r (some h)), (1, xm_i x1)]) C dX11_lock_26 rfl (by decide) rfl ?_
    refine x_keep (L' := [(0, xm_r (some h)), (1, xm_i x1), (2, xm_i (0 : Int32)), (3, xm_i (0 : Int32))]) C [2, 3, 1, 0] rfl ?_
    exact kp_X11_lock_27 h x1 (0 : Int32) (0 : Int32) S38 C N hg hEx  h1
  · have h1 := h1.2 z9
    exact x_throw (text := "nothing is proposed") C N th_S_in th_S_fit gw_329 gw_330 (by decide +kernel) th_S_at th_S_no th_S_ot (Nat.le_of_ble_eq_true rfl) ⟨Nat.le_of_ble_eq_true rfl, Nat.le_of_ble_eq_true rfl, (Nat.le_of_ble_eq_true rfl), (Nat.le_of_ble_eq_true rfl)⟩ dX11_lock_13 dX11_lock_16 (Or.inl ⟨dX11_lock_17, dX11_lock_19, dX11_lock_22⟩) (hEx _ _ h1)
theorem kp_X11_lock_met {h : Nat} {x1 : Int32} {S : xm_S} {g : Int32 → xm_S → Prop} {Ex : String → xm_S → Prop}  (h1 : wp_X11_lock h x1 S g Ex) : xm_Met yX11_lock cX11_lock 4 (some (FieldType.int)) rm_X11_lock [xm_r (some h), xm_i x1] S (xm_qi g) Ex :=
  xm_ofW RX11 (by decide +kernel) rfl (Nat.le_of_ble_eq_true rfl) (fun K C N hq hx hi => kp_X11_lock h x1 S C N (fun v S h => by rw [hq]; exact ⟨v, rfl, h⟩) (fun X S h => by rw [hx]; exact h)  h1)
def rm_X11_locked : Room := { frames := 7, cells := 2, slots := 12, locals := 120 }
theorem dX11_locked_0 : decode cX11_locked 0 = .ok (.iload_n 1, 1) := by decide +kernel
theorem dX11_locked_1 : decode cX11_locked 1 = .ok (.invokestatic 212, 3) := by decide +kernel
theorem dX11_locked_4 : decode cX11_locked 4 = .ok (.iload_n 2, 1) := by decide +kernel
theorem dX11_locked_5 : decode cX11_locked 5 = .ok (.invokestatic 122, 3) := by decide +kernel
theorem dX11_locked_8 : decode cX11_locked 8 = .ok (.aload_n 0, 1) := by decide +kernel
theorem dX11_locked_9 : decode cX11_locked 9 = .ok (.getfield 46, 3) := by decide +kernel
theorem dX11_locked_12 : decode cX11_locked 12 = .ok (.iload_n 1, 1) := by decide +kernel
theorem dX11_locked_13 : decode cX11_locked 13 = .ok (.aaload, 1) := by decide +kernel
theorem dX11_locked_14 : decode cX11_locked 14 = .ok (.iload_n 2, 1) := by decide +kernel
theorem dX11_locked_15 : decode cX11_locked 15 = .ok (.iaload, 1) := by decide +kernel
theorem dX11_locked_16 : decode cX11_locked 16 = .ok (.ireturn, 1) := by decide +kernel
def wp_X11_locked (h : Nat) (x1 : Int32) (x2 : Int32) (S : xm_S) (g : Int32 → xm_S → Prop) (Ex : String → xm_S → Prop) : Prop :=
  wp_X11_checkPlatform x1 S (fun S1 => wp_X11_checkPack x2 S1 (fun S3 => st_t S3 h = some (11, 0) ∧ ∃ n6, (st_r S3 h 7) = some n6 ∧ ∃ z9, st_t S3 n6 = some (104, z9) ∧ vp_in x1 z9 ∧ ∃ n11, (st_r S3 n6 (x1).toNatClampNeg) = some n11 ∧ ∃ z14, st_t S3 n11 = some (100, z14) ∧ vp_in x2 z14 ∧ g (st_i S3 n11 (x2).toNatClampNeg) S3) Ex) Ex
set_option maxRecDepth 100000 in
set_option maxHeartbeats 4000000 in
theorem kp_X11_locked {K : xm_K} (h : Nat) (x1 : Int32) (x2 : Int32) (S : xm_S) {g : Int32 → xm_S → Prop} {Ex : String → xm_S → Prop} (C : xm_Cx K cX11_locked RX11 3 (some (FieldType.int)) rm_X11_locked) (N : xm_Nx K) (hg : ∀ v S, g v S → xm_q K (some (xm_i v)) S) (hEx : ∀ X S, Ex X S → xm_x K X S)  (h1 : wp_X11_locked h x1 x2 S g Ex) : xm_W K 0 0 0 [(0, xm_r (some h)), (1, xm_i x1), (2, xm_i x2)] [] S := by
  unfold wp_X11_locked at h1
  refine x_iload_n C 1 dX11_locked_0 rfl rfl ?_
  refine x_callS (rm' := rm_X11_checkPlatform) C (kp_X11_checkPlatform_met h1) lk_58 gw_373 rfl (Nat.le_of_ble_eq_true rfl) ⟨Nat.le_of_ble_eq_true rfl, Nat.le_of_ble_eq_true rfl, (Nat.le_of_ble_eq_true rfl), (Nat.le_of_ble_eq_true rfl)⟩ dX11_locked_1 (fun X9 S9 hx9 => x_thru C N (Nat.le_of_ble_eq_true rfl) (Nat.le_of_ble_eq_true rfl) (hEx _ _ hx9)) (xm_kv (fun S1 h1 => ?_))
  refine x_iload_n C 2 dX11_locked_4 rfl rfl ?_
  refine x_callS (rm' := rm_X11_checkPack) C (kp_X11_checkPack_met h1) lk_50 gw_336 rfl (Nat.le_of_ble_eq_true rfl) ⟨Nat.le_of_ble_eq_true rfl, Nat.le_of_ble_eq_true rfl, (Nat.le_of_ble_eq_true rfl), (Nat.le_of_ble_eq_true rfl)⟩ dX11_locked_5 (fun X9 S9 hx9 => x_thru C N (Nat.le_of_ble_eq_true rfl) (Nat.le_of_ble_eq_true rfl) (hEx _ _ hx9)) (xm_kv (fun S3 h1 => ?_))
  refine x_aload_n C 0 dX11_locked_8 rfl rfl ?_
  obtain ⟨ht5, h1⟩ := h1
  refine x_getf_r (n := h) C rfl ht5 fd_115 (by decide) dX11_locked_9 ?_
  refine x_iload_n C 1 dX11_locked_12 rfl rfl ?_
  obtain ⟨n6, hr7, h1⟩ := h1
  obtain ⟨z9, ht8, h1⟩ := h1
  obtain ⟨hi10, h1⟩ := h1
  refine x_aald (n := n6) C hr7 (by decide) rfl ht8 hi10 dX11_locked_13 ?_
  refine x_iload_n C 2 dX11_locked_14 rfl rfl ?_
  obtain ⟨n11, hr12, h1⟩ := h1
  obtain ⟨z14, ht13, h1⟩ := h1
  obtain ⟨hi15, h1⟩ := h1
  refine x_iald (n := n11) C hr12 ht13 hi15 dX11_locked_15 ?_
  exact x_iret C (Nat.le_of_ble_eq_true rfl) (Nat.le_of_ble_eq_true rfl) rfl dX11_locked_16 (hg _ _ h1)
theorem kp_X11_locked_met {h : Nat} {x1 : Int32} {x2 : Int32} {S : xm_S} {g : Int32 → xm_S → Prop} {Ex : String → xm_S → Prop}  (h1 : wp_X11_locked h x1 x2 S g Ex) : xm_Met yX11_locked cX11_locked 3 (some (FieldType.int)) rm_X11_locked [xm_r (some h), xm_i x1, xm_i x2] S (xm_qi g) Ex :=
  xm_ofW RX11 (by decide +kernel) rfl (Nat.le_of_ble_eq_true rfl) (fun K C N hq hx hi => kp_X11_locked h x1 x2 S C N (fun v S h => by rw [hq]; exact ⟨v, rfl, h⟩) (fun X S h => by rw [hx]; exact h)  h1)
def rm_X11_mirror : Room := { frames := 8, cells := 4, slots := 24, locals := 142 }
theorem dX11_mirror_0 : decode cX11_mirror 0 = .ok (.iload_n 1, 1) := by decide +kernel
theorem dX11_mirror_1 : decode cX11_mirror 1 = .ok (.invokestatic 262, 3) := by decide +kernel
theorem dX11_mirror_4 : decode cX11_mirror 4 = .ok (.aload_n 0, 1) := by decide +kernel
theorem dX11_mirror_5 : decode cX11_mirror 5 = .ok (.iload_n 2, 1) := by decide +kernel
theorem dX11_mirror_6 : decode cX11_mirror 6 = .ok (.iload_n 3, 1) := by decide +kernel
theorem dX11_mirror_7 : decode cX11_mirror 7 = .ok (.invokevirtual 152, 3) := by decide +kernel
theorem dX11_mirror_10 : decode cX11_mirror 10 = .ok (.iload 4, 2) := by decide +kernel
theorem dX11_mirror_12 : decode cX11_mirror 12 = .ok (.iconst (-1), 1) := by decide +kernel
theorem dX11_mirror_13 : decode cX11_mirror 13 = .ok (.if_icmp .eq 12, 3) := by decide +kernel
theorem dX11_mirror_16 : decode cX11_mirror 16 = .ok (.iload 4, 2) := by decide +kernel
theorem dX11_mirror_18 : decode cX11_mirror 18 = .ok (.iconst 0, 1) := by decide +kernel
theorem dX11_mirror_19 : decode cX11_mirror 19 = .ok (.sipush 999, 3) := by decide +kernel
theorem dX11_mirror_22 : decode cX11_mirror 22 = .ok (.invokestatic 132, 3) := by decide +kernel
theorem dX11_mirror_25 : decode cX11_mirror 25 = .ok (.aload_n 0, 1) := by decide +kernel
theorem dX11_mirror_26 : decode cX11_mirror 26 = .ok (.getfield 18, 3) := by decide +kernel
theorem dX11_mirror_29 : decode cX11_mirror 29 = .ok (.iload_n 2, 1) := by decide +kernel
theorem dX11_mirror_30 : decode cX11_mirror 30 = .ok (.aaload, 1) := by decide +kernel
theorem dX11_mirror_31 : decode cX11_mirror 31 = .ok (.getfield 143, 3) := by decide +kernel
theorem dX11_mirror_34 : decode cX11_mirror 34 = .ok (.iload_n 3, 1) := by decide +kernel
theorem dX11_mirror_35 : decode cX11_mirror 35 = .ok (.aaload, 1) := by decide +kernel
theorem dX11_mirror_36 : decode cX11_mirror 36 = .ok (.astore 5, 2) := by decide +kernel
theorem dX11_mirror_38 : decode cX11_mirror 38 = .ok (.aload 5, 2) := by decide +kernel
theorem dX11_mirror_40 : decode cX11_mirror 40 = .ok (.iload_n 1, 1) := by decide +kernel
theorem dX11_mirror_41 : decode cX11_mirror 41 = .ok (.invokevirtual 265, 3) := by decide +kernel
theorem dX11_mirror_44 : decode cX11_mirror 44 = .ok (.istore 6, 2) := by decide +kernel
theorem dX11_mirror_46 : decode cX11_mirror 46 = .ok (.aload 5, 2) := by decide +kernel
theorem dX11_mirror_48 : decode cX11_mirror 48 = .ok (.getfield 268, 3) := by decide +kernel
theorem dX11_mirror_51 : decode cX11_mirror 51 = .ok (.iload_n 1, 1) := by decide +kernel
theorem dX11_mirror_52 : decode cX11_mirror 52 = .ok (.iload 4, 2) := by decide +kernel
theorem dX11_mirror_54 : decode cX11_mirror 54 = .ok (.iastore, 1) := by decide +kernel
theorem dX11_mirror_55 : decode cX11_mirror 55 = .ok (.iload 6, 2) := by decide +kernel
theorem dX11_mirror_57 : decode cX11_mirror 57 = .ok (.ireturn, 1) := by decide +kernel
def wp_X11_mirror_25 (h : Nat) (x1 : Int32) (x2 : Int32) (x3 : Int32) (x4 : Int32) (S : xm_S) (g : Int32 → xm_S → Prop) (Ex : String → xm_S → Prop) : Prop :=
  st_t S h = some (11, 0) ∧ ∃ n2, (st_r S h 1) = some n2 ∧ ∃ z5, st_t S n2 = some (115, z5) ∧ vp_in x2 z5 ∧ ∃ n7, (st_r S n2 (x2).toNatClampNeg) = some n7 ∧ st_t S n7 = some (5, 0) ∧ ∃ n10, (st_r S n7 1) = some n10 ∧ ∃ z13, st_t S n10 = some (120, z13) ∧ vp_in x3 z13 ∧ ∃ n15, (st_r S n10 (x3).toNatClampNeg) = some n15 ∧ st_t S n15 = some (10, 0) ∧ wp_X10_givenBy n15 x1 S (fun r19 S18 => ∃ n20, (st_r S n10 (x3).toNatClampNeg) = some n20 ∧ st_t S18 n20 = some (10, 0) ∧ ∃ n23, (st_r S18 n20 17) = some n23 ∧ ∃ z26, st_t S18 n23 = some (100, z26) ∧ vp_in x1 z26 ∧ ∀ S28, S28 = st_pi S18 n23 (x1).toNatClampNeg x4 → g r19 S28)
set_option maxRecDepth 100000 in
set_option maxHeartbeats 4000000 in
theorem kp_X11_mirror_25 {K : xm_K} (h : Nat) (x1 : Int32) (x2 : Int32) (x3 : Int32) (x4 : Int32) (S : xm_S) {g : Int32 → xm_S → Prop} {Ex : String → xm_S → Prop} (C : xm_Cx K cX11_mirror RX11 7 (some (FieldType.int)) rm_X11_mirror) (N : xm_Nx K) (hg : ∀ v S, g v S → xm_q K (some (xm_i v)) S) (hEx : ∀ X S, Ex X S → xm_x K X S)  (h1 : wp_X11_mirror_25 h x1 x2 x3 x4 S g Ex) : xm_W K 4 24 25 [(0, xm_r (some h)), (1, xm_i x1), (2, xm_i x2), (3, xm_i x3), (4, xm_i x4)] [] S := by
  unfold wp_X11_mirror_25 at h1
  refine x_aload_n C 0 dX11_mirror_25 rfl rfl ?_
  obtain ⟨ht1, h1⟩ := h1
  refine x_getf_r (n := h) C rfl ht1 fd_111 (by decide) dX11_mirror_26 ?_
  refine x_iload_n C 2 dX11_mirror_29 rfl rfl ?_
  obtain ⟨n2, hr3, h1⟩ := h1
  obtain ⟨z5, ht4, h1⟩ := h1
  obtain ⟨hi6, h1⟩ := h1
  refine x_aald (n := n2) C hr3 (by decide) rfl ht4 hi6 dX11_mirror_30 ?_
  obtain ⟨n7, hr8, h1⟩ := h1
  obtain ⟨ht9, h1⟩ := h1
  refine x_getf_r (n := n7) C hr8 ht9 fd_112 (by decide) dX11_mirror_31 ?_
  refine x_iload_n C 3 dX11_mirror_34 rfl rfl ?_
  obtain ⟨n10, hr11, h1⟩ := h1
  obtain ⟨z13, ht12, h1⟩ := h1
  obtain ⟨hi14, h1⟩ := h1
  refine x_aald (n := n10) C hr11 (by decide) rfl ht12 hi14 dX11_mirror_35 ?_
  refine x_astore (L' := [(5, xm_r (st_r S n10 (x3).toNatClampNeg)), (0, xm_r (some h)), (1, xm_i x1), (2, xm_i x2), (3, xm_i x3), (4, xm_i x4)]) C dX11_mirror_36 (by decide) rfl ?_
  refine x_aload C 0 dX11_mirror_38 rfl ?_
  refine x_iload_n C 2 dX11_mirror_40 rfl rfl ?_
  obtain ⟨n15, hr16, h1⟩ := h1
  obtain ⟨ht17, h1⟩ := h1
  refine x_callV (rm' := rm_X10_givenBy) (n := n15) C (kp_X10_givenBy_met h1) lk_71 gw_433 gw_434 xv_10 rfl hr16 ht17 rfl (Nat.le_of_ble_eq_true rfl) ⟨Nat.le_of_ble_eq_true rfl, Nat.le_of_ble_eq_true rfl, (Nat.le_of_ble_eq_true rfl), (Nat.le_of_ble_eq_true rfl)⟩ dX11_mirror_41 xm_kx (xm_ki (fun r19 S18 h1 => ?_))
  refine x_istore (L' := [(6, xm_i r19), (5, xm_r (st_r S n10 (x3).toNatClampNeg)), (0, xm_r (some h)), (1, xm_i x1), (2, xm_i x2), (3, xm_i x3), (4, xm_i x4)]) C dX11_mirror_44 (by decide) rfl ?_
  refine x_aload C 1 dX11_mirror_46 rfl ?_
  obtain ⟨n20, hr21, h1⟩ := h1
  obtain ⟨ht22, h1⟩ := h1
  refine x_getf_r (n := n20) C hr21 ht22 fd_144 (by decide) dX11_mirror_48 ?_
  refine x_iload_n C 3 dX11_mirror_51 rfl rfl ?_
  refine x_iload C 6 dX11_mirror_52 rfl ?_
  obtain ⟨n23, hr24, h1⟩ := h1
  obtain ⟨z26, ht25, h1⟩ := h1
  obtain ⟨hi27, h1⟩ := h1
  refine x_iast (n := n23) C hr24 ht25 hi27 dX11_mirror_54 ?_
  refine x_topS (fun S28 e29 => ?_)
  have h1 := h1 S28 e29
  refine x_iload C 0 dX11_mirror_55 rfl ?_
  exact x_iret C (Nat.le_of_ble_eq_true rfl) (Nat.le_of_ble_eq_true rfl) rfl dX11_mirror_57 (hg _ _ h1)
def wp_X11_mirror (h : Nat) (x1 : Int32) (x2 : Int32) (x3 : Int32) (x4 : Int32) (S : xm_S) (g : Int32 → xm_S → Prop) (Ex : String → xm_S → Prop) : Prop :=
  wp_X11_checkMirror x1 S (fun S30 => st_t S30 h = some (11, 0) ∧ wp_X11_checkVersion h x2 x3 S30 (fun S33 => (x4 = (-1 : Int32) → wp_X11_mirror_25 h x1 x2 x3 x4 S33 g Ex) ∧ (¬ x4 = (-1 : Int32) → wp_X11_checkRange x4 (0 : Int32) (nI 999) S33 (fun S35 => wp_X11_mirror_25 h x1 x2 x3 x4 S35 g Ex) Ex)) Ex) Ex
set_option maxRecDepth 100000 in
set_option maxHeartbeats 4000000 in
theorem kp_X11_mirror {K : xm_K} (h : Nat) (x1 : Int32) (x2 : Int32) (x3 : Int32) (x4 : Int32) (S : xm_S) {g : Int32 → xm_S → Prop} {Ex : String → xm_S → Prop} (C : xm_Cx K cX11_mirror RX11 7 (some (FieldType.int)) rm_X11_mirror) (N : xm_Nx K) (hg : ∀ v S, g v S → xm_q K (some (xm_i v)) S) (hEx : ∀ X S, Ex X S → xm_x K X S)  (h1 : wp_X11_mirror h x1 x2 x3 x4 S g Ex) : xm_W K 0 0 0 [(0, xm_r (some h)), (1, xm_i x1), (2, xm_i x2), (3, xm_i x3), (4, xm_i x4)] [] S := by
  unfold wp_X11_mirror at h1
  refine x_iload_n C 1 dX11_mirror_0 rfl rfl ?_
  refine x_callS (rm' := rm_X11_checkMirror) C (kp_X11_checkMirror_met h1) lk_79 gw_489 rfl (Nat.le_of_ble_eq_true rfl) ⟨Nat.le_of_ble_eq_true rfl, Nat.le_of_ble_eq_true rfl, (Nat.le_of_ble_eq_true rfl), (Nat.le_of_ble_eq_true rfl)⟩ dX11_mirror_1 (fun X9 S9 hx9 => x_thru C N (Nat.le_of_ble_eq_true rfl) (Nat.le_of_ble_eq_true rfl) (hEx _ _ hx9)) (xm_kv (fun S30 h1 => ?_))
  refine x_aload_n C 0 dX11_mirror_4 rfl rfl ?_
  refine x_iload_n C 2 dX11_mirror_5 rfl rfl ?_
  refine x_iload_n C 3 dX11_mirror_6 rfl rfl ?_
  obtain ⟨ht32, h1⟩ := h1
  refine x_callV (rm' := rm_X11_checkVersion) (n := h) C (kp_X11_checkVersion_met h1) lk_65 gw_407 gw_408 xv_11 rfl rfl ht32 rfl (Nat.le_of_ble_eq_true rfl) ⟨Nat.le_of_ble_eq_true rfl, Nat.le_of_ble_eq_true rfl, (Nat.le_of_ble_eq_true rfl), (Nat.le_of_ble_eq_true rfl)⟩ dX11_mirror_7 (fun X9 S9 hx9 => x_thru C N (Nat.le_of_ble_eq_true rfl) (Nat.le_of_ble_eq_true rfl) (hEx _ _ hx9)) (xm_kv (fun S33 h1 => ?_))
  refine x_iload C 4 dX11_mirror_10 rfl ?_
  refine x_iconst (v := (-1 : Int32)) C dX11_mirror_12 (by decide) ?_
  refine x_icmp_eq (tgt := 25) C dX11_mirror_13 (by decide) (fun z9 => ?_) (fun z9 => ?_)
  · have h1 := h1.1 z9
    refine x_cs (cells' := 4) (slots' := 24) C (Nat.le_of_ble_eq_true rfl) (Nat.le_of_ble_eq_true rfl) ?_
    exact kp_X11_mirror_25 h x1 x2 x3 x4 S33 C N hg hEx  h1
  · have h1 := h1.2 z9
    refine x_iload C 4 dX11_mirror_16 rfl ?_
    refine x_iconst (v := (0 : Int32)) C dX11_mirror_18 (by decide) ?_
    refine x_sipush (v := (nI 999)) C dX11_mirror_19 (by decide) ?_
    refine x_callS (rm' := rm_X11_checkRange) C (kp_X11_checkRange_met h1) lk_51 gw_339 rfl (Nat.le_of_ble_eq_true rfl) ⟨Nat.le_of_ble_eq_true rfl, Nat.le_of_ble_eq_true rfl, (Nat.le_of_ble_eq_true rfl), (Nat.le_of_ble_eq_true rfl)⟩ dX11_mirror_22 (fun X9 S9 hx9 => x_thru C N (Nat.le_of_ble_eq_true rfl) (Nat.le_of_ble_eq_true rfl) (hEx _ _ hx9)) (xm_kv (fun S35 h1 => ?_))
    exact kp_X11_mirror_25 h x1 x2 x3 x4 S35 C N hg hEx  h1
theorem kp_X11_mirror_met {h : Nat} {x1 : Int32} {x2 : Int32} {x3 : Int32} {x4 : Int32} {S : xm_S} {g : Int32 → xm_S → Prop} {Ex : String → xm_S → Prop}  (h1 : wp_X11_mirror h x1 x2 x3 x4 S g Ex) : xm_Met yX11_mirror cX11_mirror 7 (some (FieldType.int)) rm_X11_mirror [xm_r (some h), xm_i x1, xm_i x2, xm_i x3, xm_i x4] S (xm_qi g) Ex :=
  xm_ofW RX11 (by decide +kernel) rfl (Nat.le_of_ble_eq_true rfl) (fun K C N hq hx hi => kp_X11_mirror h x1 x2 x3 x4 S C N (fun v S h => by rw [hq]; exact ⟨v, rfl, h⟩) (fun X S h => by rw [hx]; exact h)  h1)
def rm_X11_need : Room := { frames := 8, cells := 140, slots := 510, locals := 150 }
theorem dX11_need_0 : decode cX11_need 0 = .ok (.aload_n 0, 1) := by decide +kernel
theorem dX11_need_1 : decode cX11_need 1 = .ok (.iload_n 1, 1) := by decide +kernel
theorem dX11_need_2 : decode cX11_need 2 = .ok (.iload_n 2, 1) := by decide +kernel
theorem dX11_need_3 : decode cX11_need 3 = .ok (.invokevirtual 152, 3) := by decide +kernel
theorem dX11_need_6 : decode cX11_need 6 = .ok (.iload_n 3, 1) := by decide +kernel
theorem dX11_need_7 : decode cX11_need 7 = .ok (.invokestatic 122, 3) := by decide +kernel
theorem dX11_need_10 : decode cX11_need 10 = .ok (.iload 4, 2) := by decide +kernel
theorem dX11_need_12 : decode cX11_need 12 = .ok (.iconst 0, 1) := by decide +kernel
theorem dX11_need_13 : decode cX11_need 13 = .ok (.bipush 15, 2) := by decide +kernel
theorem dX11_need_15 : decode cX11_need 15 = .ok (.invokestatic 132, 3) := by decide +kernel
theorem dX11_need_18 : decode cX11_need 18 = .ok (.iload 5, 2) := by decide +kernel
theorem dX11_need_20 : decode cX11_need 20 = .ok (.iconst 1, 1) := by decide +kernel
theorem dX11_need_21 : decode cX11_need 21 = .ok (.bipush 7, 2) := by decide +kernel
theorem dX11_need_23 : decode cX11_need 23 = .ok (.invokestatic 132, 3) := by decide +kernel
theorem dX11_need_26 : decode cX11_need 26 = .ok (.iload 6, 2) := by decide +kernel
theorem dX11_need_28 : decode cX11_need 28 = .ok (.invokestatic 155, 3) := by decide +kernel
theorem dX11_need_31 : decode cX11_need 31 = .ok (.iload_n 1, 1) := by decide +kernel
theorem dX11_need_32 : decode cX11_need 32 = .ok (.iload_n 3, 1) := by decide +kernel
theorem dX11_need_33 : decode cX11_need 33 = .ok (.invokestatic 158, 3) := by decide +kernel
theorem dX11_need_36 : decode cX11_need 36 = .ok (.aload_n 0, 1) := by decide +kernel
theorem dX11_need_37 : decode cX11_need 37 = .ok (.invokevirtual 161, 3) := by decide +kernel
theorem dX11_need_40 : decode cX11_need 40 = .ok (.astore 7, 2) := by decide +kernel
theorem dX11_need_42 : decode cX11_need 42 = .ok (.aload_n 0, 1) := by decide +kernel
theorem dX11_need_43 : decode cX11_need 43 = .ok (.getfield 18, 3) := by decide +kernel
theorem dX11_need_46 : decode cX11_need 46 = .ok (.iload_n 1, 1) := by decide +kernel
theorem dX11_need_47 : decode cX11_need 47 = .ok (.aaload, 1) := by decide +kernel
theorem dX11_need_48 : decode cX11_need 48 = .ok (.getfield 143, 3) := by decide +kernel
theorem dX11_need_51 : decode cX11_need 51 = .ok (.iload_n 2, 1) := by decide +kernel
theorem dX11_need_52 : decode cX11_need 52 = .ok (.aaload, 1) := by decide +kernel
theorem dX11_need_53 : decode cX11_need 53 = .ok (.astore 8, 2) := by decide +kernel
theorem dX11_need_55 : decode cX11_need 55 = .ok (.aload 8, 2) := by decide +kernel
theorem dX11_need_57 : decode cX11_need 57 = .ok (.getfield 165, 3) := by decide +kernel
theorem dX11_need_60 : decode cX11_need 60 = .ok (.iconst 4, 1) := by decide +kernel
theorem dX11_need_61 : decode cX11_need 61 = .ok (.invokestatic 139, 3) := by decide +kernel
theorem dX11_need_64 : decode cX11_need 64 = .ok (.aload 8, 2) := by decide +kernel
theorem dX11_need_66 : decode cX11_need 66 = .ok (.getfield 168, 3) := by decide +kernel
theorem dX11_need_69 : decode cX11_need 69 = .ok (.aload 8, 2) := by decide +kernel
theorem dX11_need_71 : decode cX11_need 71 = .ok (.getfield 165, 3) := by decide +kernel
theorem dX11_need_74 : decode cX11_need 74 = .ok (.new 22, 3) := by decide +kernel
theorem dX11_need_77 : decode cX11_need 77 = .ok (.dup, 1) := by decide +kernel
theorem dX11_need_78 : decode cX11_need 78 = .ok (.iload_n 3, 1) := by decide +kernel
theorem dX11_need_79 : decode cX11_need 79 = .ok (.aload 7, 2) := by decide +kernel
theorem dX11_need_81 : decode cX11_need 81 = .ok (.iload 4, 2) := by decide +kernel
theorem dX11_need_83 : decode cX11_need 83 = .ok (.iload 5, 2) := by decide +kernel
theorem dX11_need_85 : decode cX11_need 85 = .ok (.iload 6, 2) := by decide +kernel
theorem dX11_need_87 : decode cX11_need 87 = .ok (.invokespecial 171, 3) := by decide +kernel
theorem dX11_need_90 : decode cX11_need 90 = .ok (.aastore, 1) := by decide +kernel
theorem dX11_need_91 : decode cX11_need 91 = .ok (.aload 8, 2) := by decide +kernel
theorem dX11_need_93 : decode cX11_need 93 = .ok (.dup, 1) := by decide +kernel
theorem dX11_need_94 : decode cX11_need 94 = .ok (.getfield 165, 3) := by decide +kernel
theorem dX11_need_97 : decode cX11_need 97 = .ok (.iconst 1, 1) := by decide +kernel
theorem dX11_need_98 : decode cX11_need 98 = .ok (.iadd, 1) := by decide +kernel
theorem dX11_need_99 : decode cX11_need 99 = .ok (.putfield 165, 3) := by decide +kernel
theorem dX11_need_102 : decode cX11_need 102 = .ok (.aload_n 0, 1) := by decide +kernel
theorem dX11_need_103 : decode cX11_need 103 = .ok (.getfield 12, 3) := by decide +kernel
theorem dX11_need_106 : decode cX11_need 106 = .ok (.invokevirtual 115, 3) := by decide +kernel
theorem dX11_need_109 : decode cX11_need 109 = .ok (.aload 8, 2) := by decide +kernel
theorem dX11_need_111 : decode cX11_need 111 = .ok (.getfield 165, 3) := by decide +kernel
theorem dX11_need_114 : decode cX11_need 114 = .ok (.ireturn, 1) := by decide +kernel
def wp_X11_need (h : Nat) (x1 : Int32) (x2 : Int32) (x3 : Int32) (x4 : Int32) (x5 : Int32) (x6 : Int32) (S : xm_S) (g : Int32 → xm_S → Prop) (Ex : String → xm_S → Prop) : Prop :=
  st_t S h = some (11, 0) ∧ wp_X11_checkVersion h x1 x2 S (fun S2 => wp_X11_checkPack x3 S2 (fun S4 => wp_X11_checkRange x4 (0 : Int32) (nI 15) S4 (fun S6 => wp_X11_checkRange x5 (1 : Int32) (nI 7) S6 (fun S8 => wp_X11_checkOwnFeature x6 S8 (fun S10 => wp_X11_checkOther x1 x3 S10 (fun S12 => st_t S12 h = some (11, 0) ∧ wp_X11_tapeAsRange h S12 (fun r16 S15 => st_t S15 h = some (11, 0) ∧ ∃ n18, (st_r S15 h 1) = some n18 ∧ ∃ z21, st_t S15 n18 = some (115, z21) ∧ vp_in x1 z21 ∧ ∃ n23, (st_r S15 n18 (x1).toNatClampNeg) = some n23 ∧ st_t S15 n23 = some (5, 0) ∧ ∃ n26, (st_r S15 n23 1) = some n26 ∧ ∃ z29, st_t S15 n26 = some (120, z29) ∧ vp_in x2 z29 ∧ ∃ n31, (st_r S15 n26 (x2).toNatClampNeg) = some n31 ∧ st_t S15 n31 = some (10, 0) ∧ wp_X11_checkRoom (st_i S15 n31 7) (nI 4) S15 (fun S34 => ∃ n36, (st_r S15 n26 (x2).toNatClampNeg) = some n36 ∧ st_t S34 n36 = some (10, 0) ∧ ∃ n39, (st_r S15 n26 (x2).toNatClampNeg) = some n39 ∧ st_t S34 n39 = some (10, 0) ∧ ∃ n42, st_t S34 n42 = none ∧ ∀ S44, S44 = st_nw S34 n42 (4, 0) → wp_X4_init n42 x3 r16 x4 x5 x6 S44 (fun S46 => ∃ n48, (st_r S34 n36 6) = some n48 ∧ ∃ z51, st_t S46 n48 = some (114, z51) ∧ vp_in (st_i S34 n39 7) z51 ∧ (∀ v9, (some n42) = some v9 → st_t S46 v9 = some (4, 0)) ∧ ∀ S54, S54 = st_pr S46 n48 ((st_i S34 n39 7)).toNatClampNeg (some n42) → ∃ n56, (st_r S15 n26 (x2).toNatClampNeg) = some n56 ∧ st_t S54 n56 = some (10, 0) ∧ ∃ n59, (st_r S15 n26 (x2).toNatClampNeg) = some n59 ∧ st_t S54 n59 = some (10, 0) ∧ ∀ S62, S62 = st_pi S54 n59 7 ((st_i S54 n56 7) + (1 : Int32)) → st_t S62 h = some (11, 0) ∧ ∃ n65, (st_r S62 h 0) = some n65 ∧ st_t S62 n65 = some (8, 0) ∧ wp_X8_clear n65 S62 (fun S68 => ∃ n70, (st_r S15 n26 (x2).toNatClampNeg) = some n70 ∧ st_t S68 n70 = some (10, 0) ∧ g (st_i S68 n70 7) S68))) Ex) Ex) Ex) Ex) Ex) Ex) Ex) Ex
set_option maxRecDepth 100000 in
set_option maxHeartbeats 4000000 in
theorem kp_X11_need {K : xm_K} (h : Nat) (x1 : Int32) (x2 : Int32) (x3 : Int32) (x4 : Int32) (x5 : Int32) (x6 : Int32) (S : xm_S) {g : Int32 → xm_S → Prop} {Ex : String → xm_S → Prop} (C : xm_Cx K cX11_need RX11 9 (some (FieldType.int)) rm_X11_need) (N : xm_Nx K) (hg : ∀ v S, g v S → xm_q K (some (xm_i v)) S) (hEx : ∀ X S, Ex X S → xm_x K X S)  (h1 : wp_X11_need h x1 x2 x3 x4 x5 x6 S g Ex) : xm_W K 0 0 0 [(0, xm_r (some h)), (1, xm_i x1), (2, xm_i x2), (3, xm_i x3), (4, xm_i x4), (5, xm_i x5), (6, xm_i x6)] [] S := by
  unfold wp_X11_need at h1
  refine x_aload_n C 0 dX11_need_0 rfl rfl ?_
  refine x_iload_n C 1 dX11_need_1 rfl rfl ?_
  refine x_iload_n C 2 dX11_need_2 rfl rfl ?_
  obtain ⟨ht1, h1⟩ := h1
  refine x_callV (rm' := rm_X11_checkVersion) (n := h) C (kp_X11_checkVersion_met h1) lk_65 gw_407 gw_408 xv_11 rfl rfl ht1 rfl (Nat.le_of_ble_eq_true rfl) ⟨Nat.le_of_ble_eq_true rfl, Nat.le_of_ble_eq_true rfl, (Nat.le_of_ble_eq_true rfl), (Nat.le_of_ble_eq_true rfl)⟩ dX11_need_3 (fun X9 S9 hx9 => x_thru C N (Nat.le_of_ble_eq_true rfl) (Nat.le_of_ble_eq_true rfl) (hEx _ _ hx9)) (xm_kv (fun S2 h1 => ?_))
  refine x_iload_n C 3 dX11_need_6 rfl rfl ?_
  refine x_callS (rm' := rm_X11_checkPack) C (kp_X11_checkPack_met h1) lk_50 gw_336 rfl (Nat.le_of_ble_eq_true rfl) ⟨Nat.le_of_ble_eq_true rfl, Nat.le_of_ble_eq_true rfl, (Nat.le_of_ble_eq_true rfl), (Nat.le_of_ble_eq_true rfl)⟩ dX11_need_7 (fun X9 S9 hx9 => x_thru C N (Nat.le_of_ble_eq_true rfl) (Nat.le_of_ble_eq_true rfl) (hEx _ _ hx9)) (xm_kv (fun S4 h1 => ?_))
  refine x_iload C 4 dX11_need_10 rfl ?_
  refine x_iconst (v := (0 : Int32)) C dX11_need_12 (by decide) ?_
  refine x_bipush (v := (nI 15)) C dX11_need_13 (by decide) ?_
  refine x_callS (rm' := rm_X11_checkRange) C (kp_X11_checkRange_met h1) lk_51 gw_339 rfl (Nat.le_of_ble_eq_true rfl) ⟨Nat.le_of_ble_eq_true rfl, Nat.le_of_ble_eq_true rfl, (Nat.le_of_ble_eq_true rfl), (Nat.le_of_ble_eq_true rfl)⟩ dX11_need_15 (fun X9 S9 hx9 => x_thru C N (Nat.le_of_ble_eq_true rfl) (Nat.le_of_ble_eq_true rfl) (hEx _ _ hx9)) (xm_kv (fun S6 h1 => ?_))
  refine x_iload C 5 dX11_need_18 rfl ?_
  refine x_iconst (v := (1 : Int32)) C dX11_need_20 (by decide) ?_
  refine x_bipush (v := (nI 7)) C dX11_need_21 (by decide) ?_
  refine x_callS (rm' := rm_X11_checkRange) C (kp_X11_checkRange_met h1) lk_51 gw_339 rfl (Nat.le_of_ble_eq_true rfl) ⟨Nat.le_of_ble_eq_true rfl, Nat.le_of_ble_eq_true rfl, (Nat.le_of_ble_eq_true rfl), (Nat.le_of_ble_eq_true rfl)⟩ dX11_need_23 (fun X9 S9 hx9 => x_thru C N (Nat.le_of_ble_eq_true rfl) (Nat.le_of_ble_eq_true rfl) (hEx _ _ hx9)) (xm_kv (fun S8 h1 => ?_))
  refine x_iload C 6 dX11_need_26 rfl ?_
  refine x_callS (rm' := rm_X11_checkOwnFeature) C (kp_X11_checkOwnFeature_met h1) lk_80 gw_493 rfl (Nat.le_of_ble_eq_true rfl) ⟨Nat.le_of_ble_eq_true rfl, Nat.le_of_ble_eq_true rfl, (Nat.le_of_ble_eq_true rfl), (Nat.le_of_ble_eq_true rfl)⟩ dX11_need_28 (fun X9 S9 hx9 => x_thru C N (Nat.le_of_ble_eq_true rfl) (Nat.le_of_ble_eq_true rfl) (hEx _ _ hx9)) (xm_kv (fun S10 h1 => ?_))
  refine x_iload_n C 1 dX11_need_31 rfl rfl ?_
  refine x_iload_n C 3 dX11_need_32 rfl rfl ?_
  refine x_callS (rm' := rm_X11_checkOther) C (kp_X11_checkOther_met h1) lk_67 gw_412 rfl (Nat.le_of_ble_eq_true rfl) ⟨Nat.le_of_ble_eq_true rfl, Nat.le_of_ble_eq_true rfl, (Nat.le_of_ble_eq_true rfl), (Nat.le_of_ble_eq_true rfl)⟩ dX11_need_33 (fun X9 S9 hx9 => x_thru C N (Nat.le_of_ble_eq_true rfl) (Nat.le_of_ble_eq_true rfl) (hEx _ _ hx9)) (xm_kv (fun S12 h1 => ?_))
  refine x_aload_n C 0 dX11_need_36 rfl rfl ?_
  obtain ⟨ht14, h1⟩ := h1
  refine x_callV (rm' := rm_X11_tapeAsRange) (n := h) C (kp_X11_tapeAsRange_met h1) lk_52 gw_342 gw_343 xv_11 rfl rfl ht14 rfl (Nat.le_of_ble_eq_true rfl) ⟨Nat.le_of_ble_eq_true rfl, Nat.le_of_ble_eq_true rfl, (Nat.le_of_ble_eq_true rfl), (Nat.le_of_ble_eq_true rfl)⟩ dX11_need_37 (fun X9 S9 hx9 => x_thru C N (Nat.le_of_ble_eq_true rfl) (Nat.le_of_ble_eq_true rfl) (hEx _ _ hx9)) (xm_kr (fun r16 S15 h1 => ?_))
  refine x_astore (L' := [(7, xm_r r16), (0, xm_r (some h)), (1, xm_i x1), (2, xm_i x2), (3, xm_i x3), (4, xm_i x4), (5, xm_i x5), (6, xm_i x6)]) C dX11_need_40 (by decide) rfl ?_
  refine x_aload_n C 1 dX11_need_42 rfl rfl ?_
  obtain ⟨ht17, h1⟩ := h1
  refine x_getf_r (n := h) C rfl ht17 fd_111 (by decide) dX11_need_43 ?_
  refine x_iload_n C 2 dX11_need_46 rfl rfl ?_
  obtain ⟨n18, hr19, h1⟩ := h1
  obtain ⟨z21, ht20, h1⟩ := h1
  obtain ⟨hi22, h1⟩ := h1
  refine x_aald (n := n18) C hr19 (by decide) rfl ht20 hi22 dX11_need_47 ?_
  obtain ⟨n23, hr24, h1⟩ := h1
  obtain ⟨ht25, h1⟩ := h1
  refine x_getf_r (n := n23) C hr24 ht25 fd_112 (by decide) dX11_need_48 ?_
  refine x_iload_n C 3 dX11_need_51 rfl rfl ?_
  obtain ⟨n26, hr27, h1⟩ := h1
  obtain ⟨z29, ht28, h1⟩ := h1
  obtain ⟨hi30, h1⟩ := h1
  refine x_aald (n := n26) C hr27 (by decide) rfl ht28 hi30 dX11_need_52 ?_
  refine x_astore (L' := [(8, xm_r (st_r S15 n26 (x2).toNatClampNeg)), (7, xm_r r16), (0, xm_r (some h)), (1, xm_i x1), (2, xm_i x2), (3, xm_i x3), (4, xm_i x4), (5, xm_i x5), (6, xm_i x6)]) C dX11_need_53 (by decide) rfl ?_
  refine x_aload C 0 dX11_need_55 rfl ?_
  obtain ⟨n31, hr32, h1⟩ := h1
  obtain ⟨ht33, h1⟩ := h1
  refine x_getf_i (n := n31) C hr32 ht33 fd_145 (by decide) dX11_need_57 ?_
  refine x_iconst (v := (nI 4)) C dX11_need_60 (by decide) ?_
  refine x_callS (rm' := rm_X11_checkRoom) C (kp_X11_checkRoom_met h1) lk_53 gw_347 rfl (Nat.le_of_ble_eq_true rfl) ⟨Nat.le_of_ble_eq_true rfl, Nat.le_of_ble_eq_true rfl, (Nat.le_of_ble_eq_true rfl), (Nat.le_of_ble_eq_true rfl)⟩ dX11_need_61 (fun X9 S9 hx9 => x_thru C N (Nat.le_of_ble_eq_true rfl) (Nat.le_of_ble_eq_true rfl) (hEx _ _ hx9)) (xm_kv (fun S34 h1 => ?_))
  refine x_aload C 0 dX11_need_64 rfl ?_
  obtain ⟨n36, hr37, h1⟩ := h1
  obtain ⟨ht38, h1⟩ := h1
  refine x_getf_r (n := n36) C hr37 ht38 fd_146 (by decide) dX11_need_66 ?_
  refine x_aload C 0 dX11_need_69 rfl ?_
  obtain ⟨n39, hr40, h1⟩ := h1
  obtain ⟨ht41, h1⟩ := h1
  refine x_getf_i (n := n39) C hr40 ht41 fd_145 (by decide) dX11_need_71 ?_
  obtain ⟨n42, hn43, h1⟩ := h1
  refine x_new (n := n42) C xc_4 gw_415 hn43 (Nat.le_of_ble_eq_true rfl) (Nat.le_of_ble_eq_true rfl) dX11_need_74 ?_
  refine x_topS (fun S44 e45 => ?_)
  have h1 := h1 S44 e45
  refine x_dup_r C dX11_need_77 ?_
  refine x_iload_n C 5 dX11_need_78 rfl rfl ?_
  refine x_aload C 1 dX11_need_79 rfl ?_
  refine x_iload C 6 dX11_need_81 rfl ?_
  refine x_iload C 7 dX11_need_83 rfl ?_
  refine x_iload C 8 dX11_need_85 rfl ?_
  refine x_callI (rm' := rm_X4_init) (n := n42) C (kp_X4_init_met h1) lk_68 gw_419 rfl rfl rfl (Nat.le_of_ble_eq_true rfl) ⟨Nat.le_of_ble_eq_true rfl, Nat.le_of_ble_eq_true rfl, (Nat.le_of_ble_eq_true rfl), (Nat.le_of_ble_eq_true rfl)⟩ dX11_need_87 xm_kx (xm_kv (fun S46 h1 => ?_))
  obtain ⟨n48, hr49, h1⟩ := h1
  obtain ⟨z51, ht50, h1⟩ := h1
  obtain ⟨hi52, h1⟩ := h1
  obtain ⟨hv53, h1⟩ := h1
  refine x_aast (n := n48) (ci := 4) C hr49 (by decide) rfl rfl ht50 hi52 hv53 dX11_need_90 ?_
  refine x_topS (fun S54 e55 => ?_)
  have h1 := h1 S54 e55
  refine x_aload C 0 dX11_need_91 rfl ?_
  refine x_dup_r C dX11_need_93 ?_
  obtain ⟨n56, hr57, h1⟩ := h1
  obtain ⟨ht58, h1⟩ := h1
  refine x_getf_i (n := n56) C hr57 ht58 fd_145 (by decide) dX11_need_94 ?_
  refine x_iconst (v := (1 : Int32)) C dX11_need_97 (by decide) ?_
  refine x_iadd C dX11_need_98 ?_
  obtain ⟨n59, hr60, h1⟩ := h1
  obtain ⟨ht61, h1⟩ := h1
  refine x_putf_i (n := n59) C hr60 ht61 fd_145 xc_10 (by decide) rfl ⟨rfl, rfl⟩ dX11_need_99 ?_
  refine x_topS (fun S62 e63 => ?_)
  have h1 := h1 S62 e63
  refine x_aload_n C 2 dX11_need_102 rfl rfl ?_
  obtain ⟨ht64, h1⟩ := h1
  refine x_getf_r (n := h) C rfl ht64 fd_108 (by decide) dX11_need_103 ?_
  obtain ⟨n65, hr66, h1⟩ := h1
  obtain ⟨ht67, h1⟩ := h1
  refine x_callV (rm' := rm_X8_clear) (n := n65) C (kp_X8_clear_met h1) lk_55 gw_356 gw_357 xv_8 rfl hr66 ht67 rfl (Nat.le_of_ble_eq_true rfl) ⟨Nat.le_of_ble_eq_true rfl, Nat.le_of_ble_eq_true rfl, (Nat.le_of_ble_eq_true rfl), (Nat.le_of_ble_eq_true rfl)⟩ dX11_need_106 xm_kx (xm_kv (fun S68 h1 => ?_))
  refine x_aload C 0 dX11_need_109 rfl ?_
  obtain ⟨n70, hr71, h1⟩ := h1
  obtain ⟨ht72, h1⟩ := h1
  refine x_getf_i (n := n70) C hr71 ht72 fd_145 (by decide) dX11_need_111 ?_
  exact x_iret C (Nat.le_of_ble_eq_true rfl) (Nat.le_of_ble_eq_true rfl) rfl dX11_need_114 (hg _ _ h1)
theorem kp_X11_need_met {h : Nat} {x1 : Int32} {x2 : Int32} {x3 : Int32} {x4 : Int32} {x5 : Int32} {x6 : Int32} {S : xm_S} {g : Int32 → xm_S → Prop} {Ex : String → xm_S → Prop}  (h1 : wp_X11_need h x1 x2 x3 x4 x5 x6 S g Ex) : xm_Met yX11_need cX11_need 9 (some (FieldType.int)) rm_X11_need [xm_r (some h), xm_i x1, xm_i x2, xm_i x3, xm_i x4, xm_i x5, xm_i x6] S (xm_qi g) Ex :=
  xm_ofW RX11 (by decide +kernel) rfl (Nat.le_of_ble_eq_true rfl) (fun K C N hq hx hi => kp_X11_need h x1 x2 x3 x4 x5 x6 S C N (fun v S h => by rw [hq]; exact ⟨v, rfl, h⟩) (fun X S h => by rw [hx]; exact h)  h1)
