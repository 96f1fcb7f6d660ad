-- of which versions of a package a range holds; within
def itm (V : VV) (q : Nat) : List xit := match (sc 41 (tT V q) 0 true).2 with
  | some l => l
  | none => []
theorem itm_of {V : VV} {q : Nat} {l : List xit} (h : tOf (tT V q) (tL V q) l) : itm V q = l := by
  unfold itm
  rw [show sc 41 (tT V q) 0 true = (tL V q, some l) from h]
def inc (V : VV) (q p k : Nat) : Bool := hf (vn V 1 p) (vn V 3 (4 * p + k)) false false (itm V q)
def wb (V : VV) (q p : Nat) : Nat → Int32
  | 0 => 0
  | k + 1 => if inc V q p k then wb V q p k ||| ((1 : Int32) <<< (nI k &&& 31)) else wb V q p k
theorem m_versionsOf {S : xm_S} {W : VV} {q p : Nat} {g : Int32 → xm_S → Prop} (M : MR S W) (I : Iv W) (hq : q < 155) (hp : p < 6) (hR : VR W q) (h : ∀ S', xf_F fB S S' → g (wb W q p (vn W 2 p)) S') : wp_X12_versionsOf 1000 (nI q) (nI p) S g := by
  have s := (I.1.1 p hp).1
  have c := (I.1.1 p hp).2
  have s2 := s.2
  have c2 := c.2
  obtain ⟨hT, l, hl⟩ := hR
  unfold wp_X12_versionsOf wp_X12_versionsOf_5
  intro Z hZ
  have H : ∀ d k S1, k + d = vn W 2 p → xf_F fB S S1 → Z (nI q) (nI p) (wb W q p k) (nI k) S1 := by
    intro d
    induction d with
    | zero =>
      intro k S1 hk F
      have M1 := MR_B M F
      refine hZ _ _ _ _ _ ?_
      unfold wp_X12_versionsOf_5B
      refine ⟨M1.1.1, _, MS_r M1.1 2, _, MS_t M1.1 2, vp_in_nI (show p < 6 by omega) (by decide), ?_⟩
      rw [nI_clamp (show p < 2 ^ 31 by omega), show st_i S1 (1001 + 2) p = nI (vn W 2 p) from (M1.2.2 2 _ rfl).trans c.1]
      refine ⟨fun _ => ?_, fun e => absurd (nI_le (show vn W 2 p ≤ k by omega) (by omega)) e⟩
      rw [show k = vn W 2 p by omega]
      exact h S1 F
    | succ d ih =>
      intro k S1 hk F
      have M1 := MR_B M F
      have n := (I.1.2.1 (4 * p + k) (by omega)).1
      have n2 := n.2
      refine hZ _ _ _ _ _ ?_
      unfold wp_X12_versionsOf_5B
      refine ⟨M1.1.1, _, MS_r M1.1 2, _, MS_t M1.1 2, vp_in_nI (show p < 6 by omega) (by decide), ?_⟩
      rw [pk_mul, nI_add, nI_clamp (show p < 2 ^ 31 by omega), nI_clamp (show 4 * p + k < 2 ^ 31 by omega), show st_i S1 (1001 + 2) p = nI (vn W 2 p) from (M1.2.2 2 _ rfl).trans c.1]
      refine ⟨fun e => absurd e (nI_ge (show k < vn W 2 p by omega) (by omega)), fun _ => ⟨_, MS_r M1.1 1, _, MS_t M1.1 1, vp_in_nI (show p < 6 by omega) (by decide), _, MS_r M1.1 3, _, MS_t M1.1 3, vp_in_nI (show 4 * p + k < 24 by omega) (by decide), ?_⟩⟩
      rw [show st_i S1 (1001 + 1) p = nI (vn W 1 p) from (M1.2.2 1 _ rfl).trans s.1, show st_i S1 (1001 + 3) (4 * p + k) = nI (vn W 3 (4 * p + k)) from (M1.2.2 3 _ rfl).trans n.1]
      refine pm_isRangeOf (MX_of M1 hq hT) s2 (by omega) hl fun S2 F2 => ?_
      have E : hf (vn W 1 p) (vn W 3 (4 * p + k)) false false l = inc W q p k := by unfold inc; rw [itm_of hl]
      rw [E]
      have F' := xf_tr F F2
      unfold wp_X12_versionsOf_50
      have ih := ih (k + 1) S2 (by omega) F'
      unfold wb at ih
      refine bI_c (fun b y1 e1 y3 e3 => ?_) (fun b y1 e1 y3 e3 => ?_)
      · rw [e1, e3, nI_1]
        rw [if_pos b] at ih
        exact ih
      · rw [e1, e3, nI_1, Int32.or_zero]
        rw [if_neg (by rw [b]; decide)] at ih
        exact ih
  exact H (vn W 2 p) 0 S (by omega) (xf_rfl _ _)
def t_within (V : VV) (p : Int32) : Nat := if inB p 0 (nI 5) then (if okT V then 0 else 2) else 1
theorem w_within {S : xm_S} {V W : VV} {N : Nat} {p : Int32} {g : Int32 → xm_S → Prop} (R : RR S V W N) (I : Iv V) (h : ∀ S' N', RR S' V W N' → (t_within V p = 0 → st_l S' 1200 0 = (wb V 154 p.toNatClampNeg (vn V 2 p.toNatClampNeg)).toInt64) → g (nI (t_within V p)) S') : wp_L_within (some 1) p (some 1200) S g := by
  revert h
  unfold t_within
  intro h
  have c1 := R.1.2.2.1
  have c4 := gS_4 c1
  unfold wp_L_within wp_X11_within
  refine ⟨1, rfl, c1.1, q_pack (fun e => ⟨c1.1, q_tape R I (fun ok l hl S1 N1 R1 hN ro G => ?_) (fun ok S1 N1 R1 => .inr ⟨rfl, ?_⟩)⟩) (fun e => .inl ⟨rfl, ?_⟩)⟩
  · rw [if_pos e, if_pos ok] at h
    obtain ⟨i, hi, ex⟩ := inB_nI e (by decide)
    subst ex
    have ci : (nI i).toNatClampNeg = i := nI_clamp (by omega)
    rw [ci] at h ⊢
    have d1 := R1.1.2.2.1
    have d4 := gS_4 d1
    have P := CR_gP R1.1 i (by omega)
    have s := (I.1.1 i (by omega)).1
    have c := (I.1.1 i (by omega)).2
    have s2 := s.2
    have c2 := c.2
    refine ⟨d1.1, 4, d4.1, _, d4.2, vp_in_nI (show i < 6 by omega) (by decide), ?_⟩
    rw [P.2.1]
    unfold wp_X11_within_22
    intro Z hZ
    have H : ∀ d k, k + d = vn V 2 i → Z (some N) (some (100 + 2 * i)) (wb V 154 i k) (nI k) S1 := by
      intro d
      induction d with
      | zero =>
        intro k hk
        refine hZ _ _ _ _ _ ?_
        unfold wp_X11_within_22B
        refine ⟨_, rfl, P.1, ?_⟩
        rw [P.2.2.2.2.2.1, c.1]
        refine ⟨fun _ => ?_, fun e => absurd (nI_le (show vn V 2 i ≤ k by omega) (by omega)) e⟩
        rw [show k = vn V 2 i by omega]
        exact w_out R1 I fun S' R' hl => h S' N1 R' (fun _ => hl)
      | succ d ih =>
        intro k hk
        have vk := CR_ver R1.1 I (i := i) (j := k) (by omega) (by omega)
        have n := (I.1.2.1 (4 * i + k) (by omega)).1
        have n2 := n.2
        refine hZ _ _ _ _ _ ?_
        unfold wp_X11_within_22B
        refine ⟨_, rfl, P.1, ?_⟩
        rw [P.2.2.2.2.2.1, c.1, nI_clamp (show k < 2 ^ 31 by omega)]
        refine ⟨fun e => absurd e (nI_ge (show k < vn V 2 i by omega) (by omega)), fun _ => ⟨_, rfl, P.1, _, P.2.2.1, _, P.2.2.2.1, vp_in_nI (show k < 4 by omega) (by decide), _, vk.1, vk.2.1.1, _, rfl, P.1, _, rfl, ro.2.2.1, ?_⟩⟩
        rw [vk.2.2.1.1, P.2.2.2.2.1, s.1]
        refine cq_includes ro (tOf_ok hl) s2 (by omega) ?_
        have E : hf (vn V 1 i) (vn V 3 (4 * i + k)) false false l = inc V 154 i k := by unfold inc; rw [itm_of hl]
        rw [E]
        have ih := ih (k + 1) (by omega)
        unfold wb at ih
        unfold wp_X11_within_61
        refine bI_c (fun b y e1 y3 e3 => ?_) (fun b y3 e3 => ?_)
        · rw [e1, e3, nI_1]
          rw [if_pos b] at ih
          exact ih
        · rw [e3, nI_1]
          rw [if_neg (by rw [b]; decide)] at ih
          exact ih
    exact H (vn V 2 i) 0 (by omega)
  · rw [if_pos e, if_neg (by rw [ok]; decide)] at h
    exact h S1 N1 R1 (fun e => absurd e (by decide))
  · rw [if_neg (by rw [e]; decide)] at h
    exact h S N R (fun e => absurd e (by decide))
theorem ml_within {S : xm_S} {V W : VV} {N : Nat} {p : Int32} {g : Int32 → xm_S → Prop} (R : RR S V W N) (I : Iv V) (IW : Iv W) (h : ∀ S' b, RR S' V W N → st_i S' 1000 0 = nI (t_within W p) → (t_within W p = 0 → b = wb W 154 p.toNatClampNeg (vn W 2 p.toNatClampNeg)) → st_l S' 1200 0 = st_l S 1200 0 → g b S') : wp_X12_within 1000 p S g := by
  revert h
  unfold t_within
  intro h
  unfold wp_X12_within wp_X12_within_24
  refine m_pack (bI_c' (fun e => ⟨R.2.1.1.1, m_typed R I IW fun S1 R1 k1 => bI_c (fun ok => ⟨1000, rfl, R1.2.1.1.1, m_may (t := 0) R1 I rfl (by decide) fun S4 R4 k4 e4 => ⟨fun _ => ⟨R4.2.1.1.1, ?_⟩, fun e => absurd e (by decide)⟩⟩) (fun ok => ⟨1000, rfl, R1.2.1.1.1, m_may (t := 2) R1 I rfl (by decide) fun S4 R4 k4 e4 => ⟨fun e => absurd rfl e, fun _ => ?_⟩⟩)⟩) (fun e => ⟨1000, rfl, R.2.1.1.1, m_may (t := 1) R I rfl (by decide) fun S4 R4 k4 e4 => ⟨fun e => absurd rfl e, fun _ => ?_⟩⟩))
  · rw [if_pos e, if_pos ok] at h
    obtain ⟨i, hi, ex⟩ := inB_nI e (by decide)
    subst ex
    rw [nI_clamp (by omega)] at h
    refine m_versionsOf R4.2.1 IW (by decide) (by omega) ⟨IW.2.2.1.2.2.2.2.2.2 154 (by decide), okT_t ok⟩ fun S7 F => ?_
    refine h S7 _ (RR_m R4 I (KC_B F) (MR_B R4.2.1 F)) ((F.2.2.2 1000 0 rfl).trans e4) (fun _ => rfl) ((KC_tr (KC_tr k1 k4) (KC_B F) 1200 (by omega)).2.2.1 0)
  · rw [if_pos e, if_neg (by rw [ok]; decide)] at h
    exact h S4 _ R4 e4 (fun e => absurd e (by decide)) ((KC_tr k1 k4 1200 (by omega)).2.2.1 0)
  · rw [if_neg (by rw [e]; decide)] at h
    exact h S4 _ R4 e4 (fun e => absurd e (by decide)) ((k4 1200 (by omega)).2.2.1 0)
theorem lc_within {m b len kc ks N : Nat} {xs : Nat → Int32} {x4 : Int32} {S : xm_S} {V : VV} {g : Int32 → xm_S → Prop} {Z : Option Nat → Option Nat → Option Nat → Int32 → xm_S → Nat → Nat → Prop} (R : RR S V V N) (I : Iv V) (hm : vn V 54 0 ≤ m) (nx : NX m b len xs x4 kc ks g Z) (hv1 : vp_in (x4 + (1 : Int32)) len) : wp_L_law_999 b len xs (some 1) (some 1000) (some 1200) x4 S kc ks g Z := by
  obtain ⟨k1, k2, nx⟩ := nx
  unfold wp_L_law_999 wp_L_law_1052
  refine ⟨hv1, by omega, by omega, w_within R I fun S1 N1 R1 h1 => ⟨hv1, 1000, rfl, R1.2.1.1.1, by omega, by omega, ml_within R1 I I fun S2 b R2 e2 hb hl => ⟨1000, rfl, R2.2.1.1.1, by omega, by omega, m_thrown R2.2.1 e2 ?_⟩⟩⟩
  exact lc_cmp R2.2.2 (by unfold t_within; repeat' split
                          all_goals decide) (fun e => hl.trans (h1 e)) hb (nx _ _ _ _ _ R2 I (md rfl hm) (by omega) (by omega))
