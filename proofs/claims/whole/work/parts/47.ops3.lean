-- readers that may throw
theorem gS_24 {S : xm_S} (h : gS S) : st_r S 1 17 = some 24 ∧ st_t S 24 = some (2, 0) := ⟨h.2.2.2.2.2.2.2.2.2.2.2.2.2.2.2.2.2.2.2.2.1, h.2.2.2.2.2.2.2.2.2.2.2.2.2.2.2.2.2.2.2.2.2⟩
theorem gS_22 {S : xm_S} (h : gS S) : st_r S 1 15 = some 22 ∧ st_t S 22 = some (101, 3) ∧ st_r S 1 16 = some 23 ∧ st_t S 23 = some (100, 3) := ⟨h.2.2.2.2.2.2.2.2.2.2.2.2.2.2.2.2.1, h.2.2.2.2.2.2.2.2.2.2.2.2.2.2.2.2.2.1, h.2.2.2.2.2.2.2.2.2.2.2.2.2.2.2.2.2.2.1, h.2.2.2.2.2.2.2.2.2.2.2.2.2.2.2.2.2.2.2.1⟩
theorem gS_7 {S : xm_S} (h : gS S) : st_r S 1 7 = some 7 ∧ st_t S 7 = some (104, 3) ∧ st_r S 1 8 = some 11 ∧ st_t S 11 = some (104, 3) := ⟨h.2.2.2.2.2.2.2.2.1, h.2.2.2.2.2.2.2.2.2.1, h.2.2.2.2.2.2.2.2.2.2.1, h.2.2.2.2.2.2.2.2.2.2.2.1⟩
theorem CR_gL {S : xm_S} {V : VV} {N : Nat} (C : CR S V N) : gL S V := C.2.2.2.2.2.2.2.2.2.2.1
theorem CR_gM {S : xm_S} {V : VV} {N : Nat} (C : CR S V N) : gM S V := C.2.2.2.2.2.2.2.2.2.2.2.1
theorem CR_gI1 {S : xm_S} {V : VV} {N : Nat} (C : CR S V N) : gI1 S := C.2.2.2.2.2.2.2.2.2.2.2.2.1
theorem CR_gI2 {S : xm_S} {V : VV} {N : Nat} (C : CR S V N) : gI2 S V := C.2.2.2.2.2.2.2.2.2.2.2.2.2.1
theorem CR_gI3 {S : xm_S} {V : VV} {N : Nat} (C : CR S V N) : gI3 S V := C.2.2.2.2.2.2.2.2.2.2.2.2.2.2
theorem CR_gP {S : xm_S} {V : VV} {N : Nat} (C : CR S V N) : gP S V := C.2.2.2.2.2.2.1
theorem CR_gV {S : xm_S} {V : VV} {N : Nat} (C : CR S V N) : gV S V N := C.2.2.2.2.2.2.2.1
def t_lies (x : Int32) : Nat := if inB x 0 (nI 2) then 0 else 1
theorem w_lies {S : xm_S} {V W : VV} {N : Nat} {x : Int32} {g : Int32 → xm_S → Prop} (R : RR S V W N) (I : Iv V) (h : ∀ S' N', RR S' V W N' → (t_lies x = 0 → st_l S' 1200 0 = (V 43 x.toNatClampNeg).toInt64) → g (nI (t_lies x)) S') : wp_L_lies (some 1) x (some 1200) S g := by
  revert h
  unfold t_lies
  intro h
  have c1 := R.1.2.2.1
  unfold wp_L_lies wp_X11_lies
  refine ⟨1, rfl, c1.1, q_mirr (fun e => ?_) (fun e => ⟨rfl, ?_⟩)⟩
  · rw [if_pos e] at h
    obtain ⟨j, hj, ex⟩ := inB_nI e (by decide)
    subst ex
    have s := gS_22 c1
    refine ⟨c1.1, 23, s.2.2.1, _, s.2.2.2, vp_in_nI (show j < 3 by omega) (by decide), ?_⟩
    have EV : st_i S 23 j = V 43 j := (CR_gM R.1 j (by omega)).2
    rw [nI_clamp (by omega)] at h ⊢
    rw [EV]
    exact w_out R I fun S' R' hl => h S' N R' (fun _ => hl)
  · rw [if_neg (by rw [e]; decide)] at h
    exact h S N R (fun e => absurd e (by decide))
theorem ml_lies {S : xm_S} {V W : VV} {N : Nat} {x : Int32} {g : Int32 → xm_S → Prop} (R : RR S V W N) (I : Iv V) (h : ∀ S' b, RR S' V W N → st_i S' 1000 0 = nI (t_lies x) → (t_lies x = 0 → b = W 43 x.toNatClampNeg) → st_l S' 1200 0 = st_l S 1200 0 → g b S') : wp_X12_lies 1000 x S g := by
  revert h
  unfold t_lies
  intro h
  unfold wp_X12_lies wp_X12_lies_13 wp_X12_lies_29
  refine m_mirr (bI_c (fun e => ⟨1000, rfl, R.2.1.1.1, m_may (t := 0) R I rfl (by decide) fun S4 R4 k4 e4 => ⟨fun e => absurd e (by decide), fun _ => ?_⟩⟩) (fun e => ⟨1000, rfl, R.2.1.1.1, m_may (t := 1) R I rfl (by decide) fun S4 R4 k4 e4 => ⟨fun _ => ?_, fun e => absurd rfl e⟩⟩))
  · rw [if_pos e] at h
    obtain ⟨j, hj, ex⟩ := inB_nI e (by decide)
    subst ex
    have M4 := R4.2.1.1
    refine ⟨M4.1, _, MS_r M4 43, _, MS_t M4 43, vp_in_nI (show j < mz 43 from Nat.lt_of_le_of_lt hj (by decide)) (by decide), ?_⟩
    exact h S4 _ R4 e4 (fun _ => R4.2.1.2.2 43 _ rfl) ((k4 1200 (by omega)).2.2.1 0)
  · rw [if_neg (by rw [e]; decide)] at h
    exact h S4 _ R4 e4 (fun e => absurd e (by decide)) ((k4 1200 (by omega)).2.2.1 0)
theorem lc_lies {m b len kc ks N : Nat} {xs : Nat → Int32} {x4 : Int32} {S : xm_S} {V : VV} {g : Int32 → xm_S → Prop} {Z : Option Nat → Option Nat → Option Nat → Int32 → xm_S → Nat → Nat → Prop} (R : RR S V V N) (I : Iv V) (hm : vn V 54 0 ≤ m) (nx : NX m b len xs x4 kc ks g Z) (hv1 : vp_in (x4 + (1 : Int32)) len) : wp_L_law_2237 b len xs (some 1) (some 1000) (some 1200) x4 S kc ks g Z := by
  obtain ⟨k1, k2, nx⟩ := nx
  unfold wp_L_law_2237 wp_L_law_2290
  refine ⟨hv1, by omega, by omega, w_lies R I fun S1 N1 R1 h1 => ⟨hv1, 1000, rfl, R1.2.1.1.1, by omega, by omega, ml_lies R1 I fun S2 b R2 e2 hb hl => ⟨1000, rfl, R2.2.1.1.1, by omega, by omega, m_thrown R2.2.1 e2 ?_⟩⟩⟩
  exact lc_cmp R2.2.2 (by unfold t_lies; repeat' split
                          all_goals decide) (fun e => hl.trans (h1 e)) hb (nx _ _ _ _ _ R2 I (md rfl hm) (by omega) (by omega))
def t_installed (x : Int32) : Nat := if inB x 0 (nI 5) then 0 else 1
theorem w_installed {S : xm_S} {V W : VV} {N : Nat} {x : Int32} {g : Int32 → xm_S → Prop} (R : RR S V W N) (I : Iv V) (h : ∀ S' N', RR S' V W N' → (t_installed x = 0 → st_l S' 1200 0 = (V 50 x.toNatClampNeg).toInt64) → g (nI (t_installed x)) S') : wp_L_installed (some 1) x (some 1200) S g := by
  revert h
  unfold t_installed
  intro h
  have c1 := R.1.2.2.1
  unfold wp_L_installed wp_X11_installed
  refine ⟨1, rfl, c1.1, q_pack (fun e => ?_) (fun e => ⟨rfl, ?_⟩)⟩
  · rw [if_pos e] at h
    obtain ⟨j, hj, ex⟩ := inB_nI e (by decide)
    subst ex
    have s := gS_24 c1
    have i1 := CR_gI1 R.1
    refine ⟨c1.1, 24, s.1, s.2, 25, i1.1, i1.2.1.1, 26, i1.2.1.2.1, _, i1.2.1.2.2.1, vp_in_nI (show j < 6 by omega) (by decide), ?_⟩
    have EV : st_i S 26 j = V 50 j := by
      have := (CR_gI2 R.1).1.1 j (by omega)
      rw [Nat.zero_add] at this
      exact this
    rw [nI_clamp (by omega)] at h ⊢
    rw [EV]
    exact w_out R I fun S' R' hl => h S' N R' (fun _ => hl)
  · rw [if_neg (by rw [e]; decide)] at h
    exact h S N R (fun e => absurd e (by decide))
theorem ml_installed {S : xm_S} {V W : VV} {N : Nat} {x : Int32} {g : Int32 → xm_S → Prop} (R : RR S V W N) (I : Iv V) (h : ∀ S' b, RR S' V W N → st_i S' 1000 0 = nI (t_installed x) → (t_installed x = 0 → b = W 50 x.toNatClampNeg) → st_l S' 1200 0 = st_l S 1200 0 → g b S') : wp_X12_installed 1000 x S g := by
  revert h
  unfold t_installed
  intro h
  unfold wp_X12_installed wp_X12_installed_13 wp_X12_installed_29
  refine m_pack (bI_c (fun e => ⟨1000, rfl, R.2.1.1.1, m_may (t := 0) R I rfl (by decide) fun S4 R4 k4 e4 => ⟨fun e => absurd e (by decide), fun _ => ?_⟩⟩) (fun e => ⟨1000, rfl, R.2.1.1.1, m_may (t := 1) R I rfl (by decide) fun S4 R4 k4 e4 => ⟨fun _ => ?_, fun e => absurd rfl e⟩⟩))
  · rw [if_pos e] at h
    obtain ⟨j, hj, ex⟩ := inB_nI e (by decide)
    subst ex
    have M4 := R4.2.1.1
    refine ⟨M4.1, _, MS_r M4 50, _, MS_t M4 50, vp_in_nI (show j < mz 50 from Nat.lt_of_le_of_lt hj (by decide)) (by decide), ?_⟩
    exact h S4 _ R4 e4 (fun _ => R4.2.1.2.2 50 _ rfl) ((k4 1200 (by omega)).2.2.1 0)
  · rw [if_neg (by rw [e]; decide)] at h
    exact h S4 _ R4 e4 (fun e => absurd e (by decide)) ((k4 1200 (by omega)).2.2.1 0)
theorem lc_installed {m b len kc ks N : Nat} {xs : Nat → Int32} {x4 : Int32} {S : xm_S} {V : VV} {g : Int32 → xm_S → Prop} {Z : Option Nat → Option Nat → Option Nat → Int32 → xm_S → Nat → Nat → Prop} (R : RR S V V N) (I : Iv V) (hm : vn V 54 0 ≤ m) (nx : NX m b len xs x4 kc ks g Z) (hv1 : vp_in (x4 + (1 : Int32)) len) : wp_L_law_2710 b len xs (some 1) (some 1000) (some 1200) x4 S kc ks g Z := by
  obtain ⟨k1, k2, nx⟩ := nx
  unfold wp_L_law_2710 wp_L_law_2763
  refine ⟨hv1, by omega, by omega, w_installed R I fun S1 N1 R1 h1 => ⟨hv1, 1000, rfl, R1.2.1.1.1, by omega, by omega, ml_installed R1 I fun S2 b R2 e2 hb hl => ⟨1000, rfl, R2.2.1.1.1, by omega, by omega, m_thrown R2.2.1 e2 ?_⟩⟩⟩
  exact lc_cmp R2.2.2 (by unfold t_installed; repeat' split
                          all_goals decide) (fun e => hl.trans (h1 e)) hb (nx _ _ _ _ _ R2 I (md rfl hm) (by omega) (by omega))
def t_proposed (l p : Int32) : Nat := if inB l 0 (nI 2) && inB p 0 (nI 5) then 0 else 1
theorem w_proposed {S : xm_S} {V W : VV} {N : Nat} {l p : Int32} {g : Int32 → xm_S → Prop} (R : RR S V W N) (I : Iv V) (h : ∀ S' N', RR S' V W N' → (t_proposed l p = 0 → st_l S' 1200 0 = (V 27 (6 * l.toNatClampNeg + p.toNatClampNeg)).toInt64) → g (nI (t_proposed l p)) S') : wp_L_proposed (some 1) l p (some 1200) S g := by
  revert h
  unfold t_proposed
  intro h
  have c1 := R.1.2.2.1
  unfold wp_L_proposed wp_X11_proposed
  refine ⟨1, rfl, c1.1, q_plat (fun e => q_pack (fun e2 => ?_) (fun e2 => ⟨rfl, ?_⟩)) (fun e => ⟨rfl, ?_⟩)⟩
  · rw [if_pos (by rw [e, e2]; rfl)] at h
    obtain ⟨j, hj, ex⟩ := inB_nI e (by decide)
    obtain ⟨i, hi, ex2⟩ := inB_nI e2 (by decide)
    subst ex ex2
    have s := gS_7 c1
    have L := CR_gL R.1 j (by omega)
    rw [nI_clamp (by omega), nI_clamp (by omega)] at h ⊢
    refine ⟨c1.1, 11, s.2.2.1, _, s.2.2.2, vp_in_nI (show j < 3 by omega) (by decide), 12 + j, L.2.2.1, _, L.2.2.2.1, vp_in_nI (show i < 6 by omega) (by decide), ?_⟩
    rw [(L.2.2.2.2.2 i (by omega)).2]
    exact w_out R I fun S' R' hl => h S' N R' (fun _ => hl)
  · rw [if_neg (by rw [e, e2]; decide)] at h
    exact h S N R (fun e => absurd e (by decide))
  · rw [if_neg (by rw [e, Bool.false_and]; decide)] at h
    exact h S N R (fun e => absurd e (by decide))
theorem ml_proposed {S : xm_S} {V W : VV} {N : Nat} {l p : Int32} {g : Int32 → xm_S → Prop} (R : RR S V W N) (I : Iv V) (h : ∀ S' b, RR S' V W N → st_i S' 1000 0 = nI (t_proposed l p) → (t_proposed l p = 0 → b = W 27 (6 * l.toNatClampNeg + p.toNatClampNeg)) → st_l S' 1200 0 = st_l S 1200 0 → g b S') : wp_X12_proposed 1000 l p S g := by
  revert h
  unfold t_proposed
  intro h
  unfold wp_X12_proposed wp_X12_proposed_19 wp_X12_proposed_20 wp_X12_proposed_41
  refine m_plat (bI_c (fun e => m_pack (bI_c (fun e2 => ⟨1000, rfl, R.2.1.1.1, m_may (t := 0) R I rfl (by decide) fun S4 R4 k4 e4 => ⟨fun e => absurd e (by decide), fun _ => ?_⟩⟩) (fun e2 => ⟨1000, rfl, R.2.1.1.1, m_may (t := 1) R I rfl (by decide) fun S4 R4 k4 e4 => ⟨fun _ => ?_, fun e => absurd rfl e⟩⟩))) (fun e => ⟨1000, rfl, R.2.1.1.1, m_may (t := 1) R I rfl (by decide) fun S4 R4 k4 e4 => ⟨fun _ => ?_, fun e => absurd rfl e⟩⟩))
  · rw [if_pos (by rw [e, e2]; rfl)] at h
    obtain ⟨j, hj, ex⟩ := inB_nI e (by decide)
    obtain ⟨i, hi, ex2⟩ := inB_nI e2 (by decide)
    subst ex ex2
    have M4 := R4.2.1.1
    rw [nI_clamp (by omega), nI_clamp (by omega)] at h
    rw [pk_mul, nI_add]
    refine ⟨M4.1, _, MS_r M4 27, _, MS_t M4 27, vp_in_nI (show 6 * j + i < 18 by omega) (by decide), ?_⟩
    rw [nI_clamp (by omega)]
    exact h S4 _ R4 e4 (fun _ => R4.2.1.2.2 27 _ rfl) ((k4 1200 (by omega)).2.2.1 0)
  · rw [if_neg (by rw [e, e2]; decide)] at h
    exact h S4 _ R4 e4 (fun e => absurd e (by decide)) ((k4 1200 (by omega)).2.2.1 0)
  · rw [if_neg (by rw [e, Bool.false_and]; decide)] at h
    exact h S4 _ R4 e4 (fun e => absurd e (by decide)) ((k4 1200 (by omega)).2.2.1 0)
theorem lc_proposed {m b len kc ks N : Nat} {xs : Nat → Int32} {x4 : Int32} {S : xm_S} {V : VV} {g : Int32 → xm_S → Prop} {Z : Option Nat → Option Nat → Option Nat → Int32 → xm_S → Nat → Nat → Prop} (R : RR S V V N) (I : Iv V) (hm : vn V 54 0 ≤ m) (nx : NX m b len xs x4 kc ks g Z) (hv1 : vp_in (x4 + (1 : Int32)) len) (hv2 : vp_in (x4 + nI 2) len) : wp_L_law_1260 b len xs (some 1) (some 1000) (some 1200) x4 S kc ks g Z := by
  obtain ⟨k1, k2, nx⟩ := nx
  unfold wp_L_law_1260 wp_L_law_1325
  refine ⟨hv1, hv2, by omega, by omega, w_proposed R I fun S1 N1 R1 h1 => ⟨hv1, hv2, 1000, rfl, R1.2.1.1.1, by omega, by omega, ml_proposed R1 I fun S2 b R2 e2 hb hl => ⟨1000, rfl, R2.2.1.1.1, by omega, by omega, m_thrown R2.2.1 e2 ?_⟩⟩⟩
  exact lc_cmp R2.2.2 (by unfold t_proposed; repeat' split
                          all_goals decide) (fun e => hl.trans (h1 e)) hb (nx _ _ _ _ _ R2 I (md rfl hm) (by omega) (by omega))
def t_locked (l p : Int32) : Nat := if inB l 0 (nI 2) && inB p 0 (nI 5) then 0 else 1
theorem w_locked {S : xm_S} {V W : VV} {N : Nat} {l p : Int32} {g : Int32 → xm_S → Prop} (R : RR S V W N) (I : Iv V) (h : ∀ S' N', RR S' V W N' → (t_locked l p = 0 → st_l S' 1200 0 = (V 29 (6 * l.toNatClampNeg + p.toNatClampNeg)).toInt64) → g (nI (t_locked l p)) S') : wp_L_locked (some 1) l p (some 1200) S g := by
  revert h
  unfold t_locked
  intro h
  have c1 := R.1.2.2.1
  unfold wp_L_locked wp_X11_locked
  refine ⟨1, rfl, c1.1, q_plat (fun e => q_pack (fun e2 => ?_) (fun e2 => ⟨rfl, ?_⟩)) (fun e => ⟨rfl, ?_⟩)⟩
  · rw [if_pos (by rw [e, e2]; rfl)] at h
    obtain ⟨j, hj, ex⟩ := inB_nI e (by decide)
    obtain ⟨i, hi, ex2⟩ := inB_nI e2 (by decide)
    subst ex ex2
    have s := gS_7 c1
    have L := CR_gL R.1 j (by omega)
    rw [nI_clamp (by omega), nI_clamp (by omega)] at h ⊢
    refine ⟨c1.1, 7, s.1, _, s.2.1, vp_in_nI (show j < 3 by omega) (by decide), 8 + j, L.1, _, L.2.1, vp_in_nI (show i < 6 by omega) (by decide), ?_⟩
    rw [(L.2.2.2.2.2 i (by omega)).1]
    exact w_out R I fun S' R' hl => h S' N R' (fun _ => hl)
  · rw [if_neg (by rw [e, e2]; decide)] at h
    exact h S N R (fun e => absurd e (by decide))
  · rw [if_neg (by rw [e, Bool.false_and]; decide)] at h
    exact h S N R (fun e => absurd e (by decide))
theorem ml_locked {S : xm_S} {V W : VV} {N : Nat} {l p : Int32} {g : Int32 → xm_S → Prop} (R : RR S V W N) (I : Iv V) (h : ∀ S' b, RR S' V W N → st_i S' 1000 0 = nI (t_locked l p) → (t_locked l p = 0 → b = W 29 (6 * l.toNatClampNeg + p.toNatClampNeg)) → st_l S' 1200 0 = st_l S 1200 0 → g b S') : wp_X12_locked 1000 l p S g := by
  revert h
  unfold t_locked
  intro h
  unfold wp_X12_locked wp_X12_locked_19 wp_X12_locked_20 wp_X12_locked_41
  refine m_plat (bI_c (fun e => m_pack (bI_c (fun e2 => ⟨1000, rfl, R.2.1.1.1, m_may (t := 0) R I rfl (by decide) fun S4 R4 k4 e4 => ⟨fun e => absurd e (by decide), fun _ => ?_⟩⟩) (fun e2 => ⟨1000, rfl, R.2.1.1.1, m_may (t := 1) R I rfl (by decide) fun S4 R4 k4 e4 => ⟨fun _ => ?_, fun e => absurd rfl e⟩⟩))) (fun e => ⟨1000, rfl, R.2.1.1.1, m_may (t := 1) R I rfl (by decide) fun S4 R4 k4 e4 => ⟨fun _ => ?_, fun e => absurd rfl e⟩⟩))
  · rw [if_pos (by rw [e, e2]; rfl)] at h
    obtain ⟨j, hj, ex⟩ := inB_nI e (by decide)
    obtain ⟨i, hi, ex2⟩ := inB_nI e2 (by decide)
    subst ex ex2
    have M4 := R4.2.1.1
    rw [nI_clamp (by omega), nI_clamp (by omega)] at h
    rw [pk_mul, nI_add]
    refine ⟨M4.1, _, MS_r M4 29, _, MS_t M4 29, vp_in_nI (show 6 * j + i < 18 by omega) (by decide), ?_⟩
    rw [nI_clamp (by omega)]
    exact h S4 _ R4 e4 (fun _ => R4.2.1.2.2 29 _ rfl) ((k4 1200 (by omega)).2.2.1 0)
  · rw [if_neg (by rw [e, e2]; decide)] at h
    exact h S4 _ R4 e4 (fun e => absurd e (by decide)) ((k4 1200 (by omega)).2.2.1 0)
  · rw [if_neg (by rw [e, Bool.false_and]; decide)] at h
    exact h S4 _ R4 e4 (fun e => absurd e (by decide)) ((k4 1200 (by omega)).2.2.1 0)
theorem lc_locked {m b len kc ks N : Nat} {xs : Nat → Int32} {x4 : Int32} {S : xm_S} {V : VV} {g : Int32 → xm_S → Prop} {Z : Option Nat → Option Nat → Option Nat → Int32 → xm_S → Nat → Nat → Prop} (R : RR S V V N) (I : Iv V) (hm : vn V 54 0 ≤ m) (nx : NX m b len xs x4 kc ks g Z) (hv1 : vp_in (x4 + (1 : Int32)) len) (hv2 : vp_in (x4 + nI 2) len) : wp_L_law_1496 b len xs (some 1) (some 1000) (some 1200) x4 S kc ks g Z := by
  obtain ⟨k1, k2, nx⟩ := nx
  unfold wp_L_law_1496 wp_L_law_1561
  refine ⟨hv1, hv2, by omega, by omega, w_locked R I fun S1 N1 R1 h1 => ⟨hv1, hv2, 1000, rfl, R1.2.1.1.1, by omega, by omega, ml_locked R1 I fun S2 b R2 e2 hb hl => ⟨1000, rfl, R2.2.1.1.1, by omega, by omega, m_thrown R2.2.1 e2 ?_⟩⟩⟩
  exact lc_cmp R2.2.2 (by unfold t_locked; repeat' split
                          all_goals decide) (fun e => hl.trans (h1 e)) hb (nx _ _ _ _ _ R2 I (md rfl hm) (by omega) (by omega))
