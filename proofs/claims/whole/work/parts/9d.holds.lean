-- holds, closures
theorem al_k : ∀ w, w < 5 → ((1 : Int32) <<< (nI w &&& 31)) - (1 : Int32) = nI (2 ^ w - 1) := by decide +kernel
theorem al_bx : ∀ x, x < 20 → x % 4 < x / 4 → bt (nI (2 ^ (x / 4) - 1)) (x % 4) = true := by decide +kernel
theorem al_b {w k : Nat} (hw : w < 5) (hk : k < w) : bt (nI (2 ^ w - 1)) k = true := by
  have := al_bx (4 * w + k) (by omega) (by omega)
  rw [show (4 * w + k) / 4 = w by omega, show (4 * w + k) % 4 = k by omega] at this
  exact this
theorem al_15 : ∀ k, k < 4 → bt (nI 15) k = true := by decide +kernel
theorem al_63 : ∀ k, k < 6 → bt (nI 63) k = true := by decide +kernel
theorem al_e {V : VV} (I : Iv V) : ∀ k, k < vn V 18 0 → bt (nI (2 ^ vn V 18 0 - 1)) k = bt (nI 15) k := fun k hk => by
  have w4 := I.2.2.1.1.2
  rw [al_b (by omega) hk, al_15 k (by omega)]
theorem q_all {S : xm_S} {V : VV} {N : Nat} {g : Int32 → xm_S → Prop} (C : CR S V N) (I : Iv V) (h : g (nI (2 ^ vn V 18 0 - 1)) S) : wp_X11_allWishes 1 S g := by
  have w := I.2.2.1.1
  have w4 := w.2
  unfold wp_X11_allWishes
  rw [C.2.2.2.1.1, w.1, al_k _ (by omega)]
  exact ⟨C.2.2.1.1, h⟩
theorem ul_0 : ∀ p, p < 6 → bt 0 p = ulB (-1) p := fun p hp => by
  unfold ulB
  rw [bt_0, decide_eq_false (fun hh => hh.elim (by decide) fun e => nI_m1 (show p < 2 ^ 31 by omega) e.symm)]
theorem ul_63 : ∀ p, p < 6 → bt (nI 63) p = ulB (-2) p := fun p hp => by
  unfold ulB
  rw [al_63 p hp, decide_eq_true (.inl rfl)]
theorem ul_1 {q : Nat} (hq : q < 6) : ∀ p, p < 6 → bt ((1 : Int32) <<< (nI q &&& 31)) p = ulB (nI q) p := fun p hp => by
  have n2 : nI q ≠ -2 := fun e => by
    have := congrArg Int32.toInt e
    rw [nI_toInt (by omega)] at this
    have e2 : (-2 : Int32).toInt = -2 := by decide
    rw [e2] at this
    omega
  unfold ulB
  rw [bt_one (by omega)]
  by_cases e : p = q
  · rw [decide_eq_true e, decide_eq_true (.inr (by rw [e]))]
  · rw [decide_eq_false e, decide_eq_false (fun hh => hh.elim n2 fun h2 => e ((nI_eq (by omega) (by omega)).mp h2).symm)]
-- holds
def t_holds (l : Int32) : Nat := if inB l 0 (nI 2) then 0 else 1
noncomputable def r_holds (V : VV) (l : Int32) : Bool := cloB V l.toNatClampNeg (ulB (-1)) (nI 15) (lkC V l.toNatClampNeg)
theorem w_holds {S : xm_S} {V W : VV} {N : Nat} {l : Int32} {g : Int32 → xm_S → Prop} (R : RR S V W N) (I : Iv V) (h : ∀ S' N', RR S' V W N' → (t_holds l = 0 → st_l S' 1200 0 = bL (r_holds V l)) → g (nI (t_holds l)) S') : wp_L_holds (some 1) l (some 1200) S g := by
  have c1 := R.1.2.2.1
  unfold wp_L_holds wp_L_holds_15 wp_X11_holds
  refine ⟨1, rfl, c1.1, q_plat (fun a => ?_) (fun a => ⟨rfl, ?_⟩)⟩
  · obtain ⟨j, hj, e⟩ := inB_nI a (by decide)
    subst e
    have t : t_holds (nI j) = 0 := by unfold t_holds; rw [if_pos a]
    rw [t] at h
    refine ⟨c1.1, c_prep R I (by omega) fun S4 R4 F4 T4 => ⟨R4.1.2.2.1.1, q_all R4.1 I ?_⟩⟩
    have d1 := R4.1.2.2.1
    have s7 := gS_7 d1
    refine ⟨d1.1, 7, s7.1, _, s7.2.1, vp_in_nI (show j < 3 by omega) (by decide), 16, (gS_16 d1).1, (gS_16 d1).2, ?_⟩
    rw [nI_clamp (show j < 2 ^ 31 by omega), (CR_gL R4.1 j (by omega)).1]
    refine c_isClosure R4.1 I (by omega) T4 fun S18 F18 => ⟨bI_01 _, ?_⟩
    have R18 := SF_RR (SF_k F18) R4 I
    have er : cloB V j (bt 0) (nI (2 ^ vn V 18 0 - 1)) (lkC V j) = r_holds V (nI j) := by
      unfold r_holds
      rw [nI_clamp (by omega)]
      exact cloB_c I (lkC_x I (by omega)).1 (al_e I) ul_0
    rw [er]
    refine bI_c (fun q => ?_) (fun q => ?_)
    · exact w_out R18 I fun S' R' hl => h S' N R' (fun _ => by rw [hl, q]; rfl)
    · exact w_out R18 I fun S' R' hl => h S' N R' (fun _ => by rw [hl, q]; rfl)
  · have t : t_holds l = 1 := by unfold t_holds; rw [if_neg (by rw [a]; decide)]
    rw [t] at h
    exact h S N R (fun e => absurd e (by decide))
theorem ml_holds {S : xm_S} {V W : VV} {N : Nat} {l : Int32} {g : Int32 → xm_S → Prop} (R : RR S V W N) (I : Iv V) (IW : Iv W) (h : ∀ S' b, RR S' V W N → st_i S' 1000 0 = nI (t_holds l) → (t_holds l = 0 → b = bI (r_holds W l)) → st_l S' 1200 0 = st_l S 1200 0 → g b S') : wp_X12_holds 1000 l S g := by
  unfold wp_X12_holds
  refine m_plat (bI_c (fun a => ?_) (fun a => ?_))
  · obtain ⟨j, hj, e⟩ := inB_nI a (by decide)
    subst e
    have t : t_holds (nI j) = 0 := by unfold t_holds; rw [if_pos a]
    have r : r_holds W (nI j) = cloB W j (ulB (-1)) (nI 15) (lkC W j) := by unfold r_holds; rw [nI_clamp (by omega)]
    rw [t, r] at h
    unfold wp_X12_holds_13
    refine ⟨1000, rfl, R.2.1.1.1, m_may (t := 0) R I rfl (by decide) fun S4 R4 k4 e4 => ⟨fun e => absurd e (by decide), fun _ => ⟨R4.2.1.1.1, ?_⟩⟩⟩
    unfold wp_X12_isLockClosure
    refine ⟨R4.2.1.1.1, m_laysRanges R4.2.1 IW fun S20 F20 L20 => ?_⟩
    have M20 := MF_MR F20 R4.2.1
    have lk := lkC_x IW (show j < 3 by omega)
    unfold wp_X12_isLockClosure_6
    intro Z hZ
    have H : ∀ d p S1, p + d = 6 → MC S20 S1 → (∀ i, i < p → st_i S1 1034 i = cv (lkC W j i)) → Z (nI j) (nI p) S1 := by
      intro d
      induction d with
      | zero =>
        intro p S1 hp X1 k1
        have M1 := MF_MR X1.1 M20
        refine hZ _ _ _ ?_
        unfold wp_X12_isLockClosure_6B
        rw [show p = 6 by omega] at k1 ⊢
        refine ⟨fun _ => ⟨M1.1.1, m_isClosure M1 IW lk.1 (by omega) (MC_L X1 L20) k1 fun S2 X2 => ⟨bI_01 _, ?_⟩⟩, fun e => absurd (nI_le (Nat.le_refl 6) (by decide)) e⟩
        have F := MF_t F20 (MC_t X1 (MO_C X2)).1
        have R2 := RR_m R4 I (MF_KC F) (MF_MR F R4.2.1)
        unfold wp_X12_holds_31 wp_X12_holds_32
        have q := fun b (eb : b = bI (cloB W j (ulB (-1)) (nI 15) (lkC W j))) => h S2 b R2 ((MF_0 F).trans e4) (fun _ => eb) ((KC_tr k4 (MF_KC F) 1200 (by omega)).2.2.1 0)
        exact bI_c (fun b => ⟨.inr rfl, q _ (by rw [b]; rfl)⟩) (fun b => ⟨.inl rfl, q _ (by rw [b]; rfl)⟩)
      | succ d ih =>
        intro p S1 hp X1 k1
        have M1 := MF_MR X1.1 M20
        refine hZ _ _ _ ?_
        unfold wp_X12_isLockClosure_6B
        rw [pk_mul, nI_add, nI_clamp (show p < 2 ^ 31 by omega), nI_clamp (show 6 * j + p < 2 ^ 31 by omega)]
        refine ⟨fun e => absurd e (nI_ge (show p < 6 by omega) (by decide)), fun _ => ⟨M1.1.1, _, MS_r M1.1 29, _, MS_t M1.1 29, vp_in_nI (show 6 * j + p < 18 by omega) (by decide), _, MS_r M1.1 33, _, MS_t M1.1 33, vp_in_nI (show p < 6 by omega) (by decide), fun S15 e15 y ey => ?_⟩⟩
        have e15 : S15 = st_pi S1 1034 p (st_i S1 (1001 + 29) (6 * j + p)) := e15
        rw [show st_i S1 (1001 + 29) (6 * j + p) = W 29 (6 * j + p) from M1.2.2 29 _ rfl, lk.2 p (by omega)] at e15
        rw [ey, nI_1]
        refine ih (p + 1) S15 (by omega) (by rw [e15]; exact MC_i X1 (.inl rfl)) fun i hi => ?_
        by_cases e : i = p
        · rw [e, e15, st_i_pi_s]
        · rw [e15, st_i_pi_n _ _ _ _ _ _ (by omega)]; exact k1 i (by omega)
    exact H 6 0 S20 rfl (MC_r S20) (fun i hi => absurd hi (Nat.not_lt_zero _))
  · have t : t_holds l = 1 := by unfold t_holds; rw [if_neg (by rw [a]; decide)]
    rw [t] at h
    unfold wp_X12_holds_13
    refine ⟨1000, rfl, R.2.1.1.1, m_may (t := 1) R I rfl (by decide) fun S4 R4 k4 e4 => ⟨fun _ => ?_, fun e => absurd rfl e⟩⟩
    unfold wp_X12_holds_31 wp_X12_holds_32
    exact ⟨.inl rfl, h S4 0 R4 e4 (fun e => absurd e (by decide)) ((k4 1200 (by omega)).2.2.1 0)⟩
theorem lc_holds {m b len kc ks N : Nat} {xs : Nat → Int32} {x4 : Int32} {S : xm_S} {V : VV} {g : Int32 → xm_S → Prop} {Z : Option Nat → Option Nat → Option Nat → Int32 → xm_S → Nat → Nat → Prop} (R : RR S V V N) (I : Iv V) (hm : vn V 54 0 ≤ m) (nx : NX m b len xs x4 kc ks g Z) (hv1 : vp_in (x4 + (1 : Int32)) len) : wp_L_law_1564 b len xs (some 1) (some 1000) (some 1200) x4 S kc ks g Z := by
  obtain ⟨k1, k2, nx⟩ := nx
  unfold wp_L_law_1564 wp_L_law_1624 wp_L_law_1618 wp_L_law_1624
  refine ⟨hv1, by omega, by omega, w_holds R I fun S1 N1 R1 h1 => ⟨hv1, 1000, rfl, R1.2.1.1.1, by omega, by omega, ml_holds R1 I I fun S2 r R2 e2 hb hl => ⟨1000, rfl, R2.2.1.1.1, by omega, by omega, m_thrown R2.2.1 e2 ?_⟩⟩⟩
  exact lc_cmpB (C := fun v w => (lg_cmp w v = 0 → wp_L_law_2965 b len xs (some 1) (some 1000) (some 1200) x4 S2 (kc + 1) (ks + 6) g Z) ∧ (¬ lg_cmp w v = 0 → kc + 1 ≤ 601024 ∧ ks + 6 ≤ 7293034 ∧ g (0 : Int32) S2)) R2.2.2 (by unfold t_holds; split <;> decide) (fun e => hl.trans (h1 e)) hb (fun _ _ q => q) (nx _ _ _ _ _ R2 I (md rfl hm) (by omega) (by omega))
-- closures
noncomputable def r_closures (V : VV) (l : Int32) : Int32 := nI (skF V l.toNatClampNeg (ulB (-1)) (nI 15) 1).1
theorem w_closures {S : xm_S} {V W : VV} {N : Nat} {l : Int32} {g : Int32 → xm_S → Prop} (R : RR S V W N) (I : Iv V) (h : ∀ S' N', RR S' V W N' → (t_holds l = 0 → st_l S' 1200 0 = (r_closures V l).toInt64) → g (nI (t_holds l)) S') : wp_L_closures (some 1) l (some 1200) S g := by
  have c1 := R.1.2.2.1
  unfold wp_L_closures wp_X11_closures
  refine ⟨1, rfl, c1.1, q_plat (fun a => ?_) (fun a => ⟨rfl, ?_⟩)⟩
  · obtain ⟨j, hj, e⟩ := inB_nI a (by decide)
    subst e
    have t : t_holds (nI j) = 0 := by unfold t_holds; rw [if_pos a]
    rw [t] at h
    refine ⟨c1.1, c_prep R I (by omega) fun S4 R4 F4 T4 => ⟨R4.1.2.2.1.1, q_all R4.1 I ?_⟩⟩
    have d1 := R4.1.2.2.1
    refine ⟨16, (gS_16 d1).1, (gS_16 d1).2, c_seek (goal := 1) R4.1 I (by omega) (by decide) T4 fun S12 F12 _ => ?_⟩
    have R12 := SF_RR (SF_k F12) R4 I
    have er : nI (skF V j (bt 0) (nI (2 ^ vn V 18 0 - 1)) 1).1 = r_closures V (nI j) := by
      unfold r_closures
      rw [nI_clamp (by omega), skF_c I (al_e I) ul_0]
    rw [er]
    exact w_out R12 I fun S' R' hl => h S' N R' (fun _ => hl)
  · have t : t_holds l = 1 := by unfold t_holds; rw [if_neg (by rw [a]; decide)]
    rw [t] at h
    exact h S N R (fun e => absurd e (by decide))
theorem ml_closures {S : xm_S} {V W : VV} {N : Nat} {l : Int32} {g : Int32 → xm_S → Prop} (R : RR S V W N) (I : Iv V) (IW : Iv W) (h : ∀ S' b, RR S' V W N → st_i S' 1000 0 = nI (t_holds l) → (t_holds l = 0 → b = r_closures W l) → st_l S' 1200 0 = st_l S 1200 0 → g b S') : wp_X12_closures 1000 l S g := by
  unfold wp_X12_closures
  refine m_plat (bI_c (fun a => ?_) (fun a => ?_))
  · obtain ⟨j, hj, e⟩ := inB_nI a (by decide)
    subst e
    have t : t_holds (nI j) = 0 := by unfold t_holds; rw [if_pos a]
    have r : r_closures W (nI j) = nI (skF W j (ulB (-1)) (nI 15) 1).1 := by unfold r_closures; rw [nI_clamp (by omega)]
    rw [t, r] at h
    unfold wp_X12_closures_13
    refine ⟨1000, rfl, R.2.1.1.1, m_may (t := 0) R I rfl (by decide) fun S4 R4 k4 e4 => ⟨fun _ => ⟨R4.2.1.1.1, m_laysRanges R4.2.1 IW fun S20 F20 L20 => m_closures29 (MF_MR F20 R4.2.1) IW (by omega) L20 fun S5 F5 => ?_⟩, fun e => absurd e (by decide)⟩⟩
    have F := MF_t F20 F5
    exact h S5 _ (RR_m R4 I (MF_KC F) (MF_MR F R4.2.1)) ((MF_0 F).trans e4) (fun _ => rfl) ((KC_tr k4 (MF_KC F) 1200 (by omega)).2.2.1 0)
  · have t : t_holds l = 1 := by unfold t_holds; rw [if_neg (by rw [a]; decide)]
    rw [t] at h
    unfold wp_X12_closures_13
    refine ⟨1000, rfl, R.2.1.1.1, m_may (t := 1) R I rfl (by decide) fun S4 R4 k4 e4 => ⟨fun e => absurd rfl e, fun _ => ?_⟩⟩
    exact h S4 0 R4 e4 (fun e => absurd e (by decide)) ((k4 1200 (by omega)).2.2.1 0)
theorem lc_closures {m b len kc ks N : Nat} {xs : Nat → Int32} {x4 : Int32} {S : xm_S} {V : VV} {g : Int32 → xm_S → Prop} {Z : Option Nat → Option Nat → Option Nat → Int32 → xm_S → Nat → Nat → Prop} (R : RR S V V N) (I : Iv V) (hm : vn V 54 0 ≤ m) (nx : NX m b len xs x4 kc ks g Z) (hv1 : vp_in (x4 + (1 : Int32)) len) : wp_L_law_1328 b len xs (some 1) (some 1000) (some 1200) x4 S kc ks g Z := by
  obtain ⟨k1, k2, nx⟩ := nx
  unfold wp_L_law_1328 wp_L_law_1381
  refine ⟨hv1, by omega, by omega, w_closures R I fun S1 N1 R1 h1 => ⟨hv1, 1000, rfl, R1.2.1.1.1, by omega, by omega, ml_closures R1 I I fun S2 b R2 e2 hb hl => ⟨1000, rfl, R2.2.1.1.1, by omega, by omega, m_thrown R2.2.1 e2 ?_⟩⟩⟩
  exact lc_cmp R2.2.2 (by unfold t_holds; repeat' split
                          all_goals decide) (fun e => hl.trans (h1 e)) hb (nx _ _ _ _ _ R2 I (md rfl hm) (by omega) (by omega))
