-- fetch
/-- fields of which nothing is wanted -/
theorem Iv_free {V V' : VV} (I : Iv V) (ev : ∀ f k, f ≠ 43 → f ≠ 52 → f ≠ 53 → V' f k = V f k) : Iv V' := by
  have et : ∀ q, eTs V V' q := fun q => ⟨ev 25 q (by omega) (by omega) (by omega), fun s hs => ev 24 _ (by omega) (by omega) (by omega)⟩
  exact ⟨Iv1_e I.1 fun f k h => ev f k (by omega) (by omega) (by omega), Iv2_e I.1 I.2.1 (fun f k h => ev f k (by omega) (by omega) (by omega)) fun q hq _ => et q, Iv3_e I.2.2.1 (fun f k h => ev f k (by omega) (by omega) (by omega)) (fun q hq _ => et q) (fun q hq => VT_e (I.2.2.1.2.2.2.2.2.2 q hq) (et q)), Iv4_e I.2.2.2.1 fun f k h => ev f k (by omega) (by omega) (by omega), Iv5_e I.2.2.2.2 fun f k h => ev f k (by omega) (by omega) (by omega)⟩
theorem CR_lie {S : xm_S} {V : VV} {N m : Nat} {x : Int32} (hm : m < 3) (C : CR S V N) (I : Iv V) : CR (st_pi S 23 m x) (uV V 43 m x) N := by
  have K : KX fA0 (E1 23 m) N S (st_pi S 23 m x) := KX_pi (KX_rfl _ _ _ _) (E1_t _ _)
  have et : ∀ q, eT V (uV V 43 m x) q := eT_v fun f k h => uV_n _ _ _ _ _ _ (by omega)
  have b18 := I.2.2.1.1.2
  have b21 := I.2.2.1.2.2.2.1.2
  obtain ⟨hN, hf, c1, c2, c3, c4, c5, c6, c7, c8, c9, c10, c11, c12, c13⟩ := C
  refine ⟨by omega, hf, gS_X c1 K hN (fun k => by rfl), gX_X c2 c1 K hN (fun k => by exact E1_f (by omega)) (fun f hf9 => by exact uV_n _ _ _ _ _ _ (by omega)), gO_X c3 K hN (fun k hk => by rfl), gT_X c4 K hN (by rfl) (by exact E1_f (by omega)) (fun k => by exact E1_f (by omega)) (by exact et _), gP_X c5 K hN (fun n k hn => by rfl) (fun n k g1 g2 => by exact E1_f (by omega)) (fun k hk => ⟨by exact uV_n _ _ _ _ _ _ (by omega), by exact uV_n _ _ _ _ _ _ (by omega)⟩), gV_Y I c6 K hN (Nat.le_refl _) (fun n k hn => by rfl) (fun n k hn => by exact E1_f (by omega)) (fun f k hf9 => by exact uV_n _ _ _ _ _ _ (by omega)) (fun q hq => by exact et _), gW_X c7 K hN (Nat.le_refl _) (fun n k hn => by rfl) (fun n k hn => by exact E1_f (by omega)) (by exact uV_n _ _ _ _ _ _ (by omega)) (fun j hj => ⟨by exact et _, by exact uV_n _ _ _ _ _ _ (by omega), by exact uV_n _ _ _ _ _ _ (by omega)⟩), gA_X c8 K hN (Nat.le_refl _) (fun n k hn => by rfl) (fun n k hn => by exact E1_f (by omega)) (by exact uV_n _ _ _ _ _ _ (by omega)) (fun j hj => ⟨by exact et _, by exact uV_n _ _ _ _ _ _ (by omega), by exact uV_n _ _ _ _ _ _ (by omega)⟩), gL_X c9 c1 K hN (fun n k hn => by rfl) (fun n k hn => by exact E1_f (by omega)) (fun f k hf9 => by exact uV_n _ _ _ _ _ _ (by omega)), ?_, gI1_X c11 K hN (fun n k hn => by rfl), gI2_X c12 c11 c1 K hN (fun n k hn => by exact E1_f (by omega)) (fun f k hf9 => by exact uV_n _ _ _ _ _ _ (by omega)), gI3_X c13 c11 K hN (fun k => by rfl) (fun n k hn => by exact E1_f (by omega)) I.2.2.2.2.2.2.2.2.2.1.2 (fun f k hf9 => by exact uV_n _ _ _ _ _ _ (by omega))⟩
  intro k hk
  refine ⟨?_, ?_⟩
  · rw [st_i_pi_n _ _ _ _ _ _ (by omega), uV_n _ _ _ _ _ _ (by omega)]; exact (c10 k hk).1
  · by_cases e : k = m
    · subst e; exact (st_i_pi_s _ _ _ _).trans (uV_s _ _ _ _).symm
    · rw [st_i_pi_n _ _ _ _ _ _ (by omega), uV_n _ _ _ _ _ _ (by omega)]; exact (c10 k hk).2
theorem CR_stored {S : xm_S} {V : VV} {N a : Nat} {y : Bool} (ha : a < 24) (u : used V a) (C : CR S V N) (I : Iv V) : CR (st_pi S (200 + 20 * a) 5 (bI y)) (uV V 42 a (bI y)) N := by
  have K : KX fA0 (E1 (200 + 20 * a) 5) N S (st_pi S (200 + 20 * a) 5 (bI y)) := KX_pi (KX_rfl _ _ _ _) (E1_t _ _)
  have et : ∀ q, eT V (uV V 42 a (bI y)) q := eT_v fun f k h => uV_n _ _ _ _ _ _ (by omega)
  have ev : ∀ f k, f ≠ 42 → uV V 42 a (bI y) f k = V f k := fun f k h => uV_n _ _ _ _ _ _ (by omega)
  have b18 := I.2.2.1.1.2
  have b21 := I.2.2.1.2.2.2.1.2
  obtain ⟨hN, hf, c1, c2, c3, c4, c5, c6, c7, c8, c9, c10, c11, c12, c13⟩ := C
  refine ⟨by omega, hf, gS_X c1 K hN (fun k => by rfl), gX_X c2 c1 K hN (fun k => by exact E1_f (by omega)) (fun f hf9 => by exact uV_n _ _ _ _ _ _ (by omega)), gO_X c3 K hN (fun k hk => by rfl), gT_X c4 K hN (by rfl) (by exact E1_f (by omega)) (fun k => by exact E1_f (by omega)) (by exact et _), gP_X c5 K hN (fun n k hn => by rfl) (fun n k g1 g2 => by exact E1_f (by omega)) (fun k hk => ⟨by exact uV_n _ _ _ _ _ _ (by omega), by exact uV_n _ _ _ _ _ _ (by omega)⟩), ?_, gW_X c7 K hN (Nat.le_refl _) (fun n k hn => by rfl) (fun n k hn => by exact E1_f (by omega)) (by exact uV_n _ _ _ _ _ _ (by omega)) (fun j hj => ⟨by exact et _, by exact uV_n _ _ _ _ _ _ (by omega), by exact uV_n _ _ _ _ _ _ (by omega)⟩), gA_X c8 K hN (Nat.le_refl _) (fun n k hn => by rfl) (fun n k hn => by exact E1_f (by omega)) (by exact uV_n _ _ _ _ _ _ (by omega)) (fun j hj => ⟨by exact et _, by exact uV_n _ _ _ _ _ _ (by omega), by exact uV_n _ _ _ _ _ _ (by omega)⟩), gL_X c9 c1 K hN (fun n k hn => by rfl) (fun n k hn => by exact E1_f (by omega)) (fun f k hf9 => by exact uV_n _ _ _ _ _ _ (by omega)), gM_X c10 K hN (fun n k hn => by exact E1_f (by omega)) (fun f k hf9 hk9 => by exact uV_n _ _ _ _ _ _ (by omega)), gI1_X c11 K hN (fun n k hn => by rfl), gI2_X c12 c11 c1 K hN (fun n k hn => by exact E1_f (by omega)) (fun f k hf9 => by exact uV_n _ _ _ _ _ _ (by omega)), gI3_X c13 c11 K hN (fun k => by rfl) (fun n k hn => by exact E1_f (by omega)) I.2.2.2.2.2.2.2.2.2.1.2 (fun f k hf9 => by exact uV_n _ _ _ _ _ _ (by omega))⟩
  have bb := I.1.2.2.1 a ha
  refine gV_A ha I c6 K hN (Nat.le_refl _) (fun n k _ _ => rfl) (fun n k h1 h2 => E1_f (by omega)) (fun k => ev _ _ (by omega)) (fun f a' h1 h2 => uV_n _ _ _ _ _ _ (by omega)) (fun a' _ _ j _ => ev _ _ (by omega)) (fun a' _ j _ => ⟨ev _ _ (by omega), ev _ _ (by omega)⟩) (fun a' _ j _ => ⟨ev _ _ (by omega), ev _ _ (by omega), ev _ _ (by omega)⟩) (fun a' _ _ j _ => ⟨et _, fun f hf => ev _ _ (by omega)⟩) (fun a' _ _ j _ => ⟨et _, ev _ _ (by omega)⟩) u fun g1 g2 g3 g4 => ⟨gV1_X g1 K (by omega) (fun k => rfl), ?_, gV3_X g3 g1 K (by omega) (fun n k h1 h2 => E1_f (by omega)) (fun f hf => ev _ _ (by omega)) (fun j _ => ev _ _ (by omega)) (fun j _ => ⟨ev _ _ (by omega), ev _ _ (by omega)⟩) (fun j _ => ⟨ev _ _ (by omega), ev _ _ (by omega), ev _ _ (by omega)⟩), gN_X g4 K (by omega) (Nat.le_refl _) (fun n k _ => rfl) (fun n k h1 => E1_f (by omega)) (fun f hf => ev _ _ (by omega)) (fun j _ => ⟨et _, fun f hf => ev _ _ (by omega)⟩) (fun j _ => ⟨et _, ev _ _ (by omega)⟩) ⟨bb.1.2, bb.2.1.2⟩⟩
  obtain ⟨h1, h2, h3, h4, h5, h6, h7, h8, h9, h10⟩ := g2
  unfold gV2
  rw [vn_e (ev 3 a (by omega)), ev 4 _ (by omega), ev 5 _ (by omega), ev 6 _ (by omega), ev 7 _ (by omega), ev 8 _ (by omega), ev 13 _ (by omega), ev 15 _ (by omega), ev 44 _ (by omega)]
  have r : ∀ k, k ≠ 5 → st_i (st_pi S (200 + 20 * a) 5 (bI y)) (200 + 20 * a) k = st_i S (200 + 20 * a) k := fun k hk => st_i_pi_n _ _ _ _ _ _ (by omega)
  exact ⟨(r _ (by decide)).trans h1, (r _ (by decide)).trans h2, (r _ (by decide)).trans h3, (r _ (by decide)).trans h4, (r _ (by decide)).trans h5, (st_i_pi_s _ _ _ _).trans (uV_s _ _ _ _).symm, (r _ (by decide)).trans h7, (r _ (by decide)).trans h8, (r _ (by decide)).trans h9, (r _ (by decide)).trans h10⟩
theorem Iv_42 {V : VV} {a0 : Nat} {y : Bool} (I : Iv V) (u0 : used V a0) : Iv (uV V 42 a0 (bI y)) := by
  have ev : ∀ f k, f ≠ 42 → uV V 42 a0 (bI y) f k = V f k := fun f k h => uV_n _ _ _ _ _ _ (by omega)
  have et : ∀ q, eTs V (uV V 42 a0 (bI y)) q := fun q => ⟨ev _ _ (by omega), fun s hs => ev _ _ (by omega)⟩
  obtain ⟨g1, g2, g3, g4⟩ := I.1
  have n1 : Iv1 (uV V 42 a0 (bI y)) := by
    refine ⟨fun k hk => ⟨In_e (g1 k hk).1 (ev _ _ (by omega)), In_e (g1 k hk).2 (ev _ _ (by omega))⟩, fun a ha => ?_, fun a ha => ?_, fun a ha hu => ?_⟩
    · obtain ⟨g1, g2, g3, g4, g5, g6⟩ := g2 a ha
      refine ⟨In_e g1 (ev _ _ (by omega)), In_e g2 (ev _ _ (by omega)), In_e g3 (ev _ _ (by omega)), In_e g4 (ev _ _ (by omega)), In_e g5 (ev _ _ (by omega)), ?_⟩
      by_cases e : a = a0
      · subst e; exact In_bI (b := y) (uV_s _ _ _ _)
      · exact In_e g6 (uV_n _ _ _ _ _ _ (by omega))
    · obtain ⟨g1, g2, g3, g4⟩ := g3 a ha
      exact ⟨In_e g1 (ev _ _ (by omega)), In_e g2 (ev _ _ (by omega)), In_e g3 (ev _ _ (by omega)), In_e g4 (ev _ _ (by omega))⟩
    · have hu' : ¬ used V a := by unfold used at hu ⊢; rw [vn_e (ev 2 _ (by omega))] at hu; exact hu
      obtain ⟨q1, q2, q3, q4, q5, q6, q7⟩ := g4 a ha hu'
      rw [vn_e (ev 8 _ (by omega)), vn_e (ev 13 _ (by omega)), vn_e (ev 15 _ (by omega)), vn_e (ev 44 _ (by omega)), ev 7 _ (by omega), uV_n _ _ _ _ _ _ (show ¬ (42 = 42 ∧ a = a0) from fun hh => hu' (by rw [hh.2]; exact u0))]
      exact ⟨q1, q2, q3, q4, q5, q6, fun j hj => by rw [ev 40 _ (by omega)]; exact q7 j hj⟩
  exact ⟨n1, Iv2_e I.1 I.2.1 (fun f k h => ev f k (by omega)) fun q hq _ => et q, Iv3_e I.2.2.1 (fun f k h => ev f k (by omega)) (fun q hq _ => et q) (fun q hq => VT_e (I.2.2.1.2.2.2.2.2.2 q hq) (et q)), Iv4_e I.2.2.2.1 fun f k h => ev f k (by omega), Iv5_e I.2.2.2.2 fun f k h => ev f k (by omega)⟩
def ftc (a : Nat) : Nat → Nat → VV → Int32 × VV
  | 0, _, V => (-1, V)
  | d + 1, m, V => if V 41 m = 0 then (if gvs V m a = V 6 a then (nI m, uV V 42 a (bI true)) else ftc a d (m + 1) (uV V 43 m (V 43 m + 1))) else ftc a d (m + 1) V
theorem Iv_lie {V : VV} {m : Nat} {x : Int32} (I : Iv V) : Iv (uV V 43 m x) := Iv_free I fun f k h1 h2 h3 => uV_n _ _ _ _ _ _ (by omega)
theorem Iv_ftc {a : Nat} : ∀ d m V, Iv V → used V a → Iv (ftc a d m V).2 := by
  intro d
  induction d with
  | zero => intro m V I u; exact I
  | succ d ih =>
    intro m V I u
    unfold ftc
    by_cases h : V 41 m = 0
    · rw [if_pos h]
      by_cases h2 : gvs V m a = V 6 a
      · rw [if_pos h2]; exact Iv_42 I u
      · rw [if_neg h2]; exact ih _ _ (Iv_lie I) (by unfold used at u ⊢; rw [vn_e (uV_n _ _ _ _ _ _ (by omega))]; exact u)
    · rw [if_neg h]; exact ih _ _ I u
theorem ftc_54 {a : Nat} : ∀ d m V, (ftc a d m V).2 54 0 = V 54 0 := by
  intro d
  induction d with
  | zero => intro m V; rfl
  | succ d ih =>
    intro m V
    unfold ftc
    by_cases h : V 41 m = 0
    · rw [if_pos h]
      by_cases h2 : gvs V m a = V 6 a
      · rw [if_pos h2]; show uV V 42 a (bI true) 54 0 = V 54 0; exact uV_n _ _ _ _ _ _ (by omega)
      · rw [if_neg h2, ih]; exact uV_n _ _ _ _ _ _ (by omega)
    · rw [if_neg h]; exact ih _ _
def t_fetch (V : VV) (p v : Int32) : Nat := if isV V p v then 0 else 1
def v_fetch (V : VV) (p v : Int32) : VV := if isV V p v then (if V 42 (4 * p.toNatClampNeg + v.toNatClampNeg) = 0 then (ftc (4 * p.toNatClampNeg + v.toNatClampNeg) 3 0 V).2 else V) else V
def r_fetch (V : VV) (p v : Int32) : Int32 := if V 42 (4 * p.toNatClampNeg + v.toNatClampNeg) = 0 then (ftc (4 * p.toNatClampNeg + v.toNatClampNeg) 3 0 V).1 else nI 3
theorem v_fetch_54 {V : VV} {p v : Int32} : v_fetch V p v 54 0 = V 54 0 := by
  unfold v_fetch
  (repeat' split) <;> first | rfl | exact ftc_54 _ _ _
theorem Iv_fetch {V : VV} {p v : Int32} (I : Iv V) : Iv (v_fetch V p v) := by
  unfold v_fetch
  split
  next h =>
    obtain ⟨i, j, hi, hj, hc, ei, ej⟩ := isV_nI I h
    rw [ei, ej, nI_clamp (by omega), nI_clamp (by omega)]
    split
    · exact Iv_ftc _ _ _ I (used_of hj hc)
    · exact I
  · exact I
theorem c_ftc {W : VV} {N i j : Nat} {g : Int32 → xm_S → Prop} {Ex : String → xm_S → Prop} {Z : Option Nat → Int32 → xm_S → Prop} (hi : i < 6) (hZ : ∀ x3 x4 S, wp_X11_fetch_30B 1 x3 x4 S g Ex Z → Z x3 x4 S) : ∀ d m V S, m + d = 3 → RR S V W N → Iv V → j < vn V 2 i → (∀ S', RR S' (ftc (4 * i + j) d m V).2 W N → g (ftc (4 * i + j) d m V).1 S') → Z (some (200 + 20 * (4 * i + j))) (nI m) S := by
  intro d
  induction d with
  | zero =>
    intro m V S hm R I hj h
    refine hZ _ _ _ ?_
    unfold wp_X11_fetch_30B
    exact ⟨fun _ => h S R, fun e => absurd (nI_le (show 3 ≤ m by omega) (by omega)) e⟩
  | succ d ih =>
    intro m V S hm R I hj h
    have c1 := R.1.2.2.1
    have s := gS_22 c1
    have gm := CR_gM R.1 m (by omega)
    have vj := CR_ver R.1 I hi hj
    have hc := (I.1.1 i hi).2.2
    unfold ftc at h
    refine hZ _ _ _ ?_
    unfold wp_X11_fetch_30B wp_X11_fetch_81
    rw [nI_clamp (show m < 2 ^ 31 by omega)]
    refine ⟨fun e => absurd e (nI_ge (show m < 3 by omega) (by decide)), fun _ => ⟨c1.1, 22, s.1, _, s.2.1, vp_in_nI (show m < 3 by omega) (by decide), ?_⟩⟩
    rw [gm.1]
    refine ⟨fun e => ⟨_, rfl, vj.2.1.1, c_given (by omega) vj.2.1 vj.2.2.1 vj.2.2.2.1 ⟨_, rfl, vj.2.1.1, ?_⟩⟩, fun e y ey => ?_⟩
    · rw [if_pos e] at h
      rw [vj.2.2.1.2.2.2.1]
      refine ⟨fun e2 => ⟨c1.1, 23, s.2.2.1, _, s.2.2.2, vp_in_nI (show m < 3 by omega) (by decide), 23, s.2.2.1, _, s.2.2.2, vp_in_nI (show m < 3 by omega) (by decide), fun S28 e28 y ey => ?_⟩, fun e2 => ⟨_, rfl, vj.2.1.1, fun S33 e33 => ?_⟩⟩
      · rw [if_neg e2] at h
        rw [gm.2] at e28
        rw [ey, nI_1]
        refine ih (m + 1) _ S28 (by omega) ?_ (Iv_lie (m := m) (x := V 43 m + 1) I) (by rw [vn_e (uV_n _ _ _ _ _ _ (by omega))]; exact hj) h
        subst e28
        exact ⟨CR_lie (by omega) R.1 I, MR_K R.2.1 (KM_pi (KM_rfl _) (by omega)), R.2.2⟩
      · rw [if_pos e2] at h
        refine h S33 ?_
        subst e33
        exact ⟨CR_stored (y := true) (by omega) (used_of hj hc) R.1 I, MR_K R.2.1 (KM_pi (KM_rfl _) (by omega)), R.2.2⟩
    · rw [if_neg e] at h
      rw [ey, nI_1]
      exact ih (m + 1) V S (by omega) R I hj h
theorem w_fetch {S : xm_S} {V W : VV} {N : Nat} {p v : Int32} {g : Int32 → xm_S → Prop} (R : RR S V W N) (I : Iv V) (h : ∀ S' N', RR S' (v_fetch V p v) W N' → (t_fetch V p v = 0 → st_l S' 1200 0 = (r_fetch V p v).toInt64) → g (nI (t_fetch V p v)) S') : wp_L_fetch (some 1) p v (some 1200) S g := by
  have I' := Iv_fetch (p := p) (v := v) I
  revert h I'
  unfold v_fetch t_fetch r_fetch
  intro h I'
  have c1 := R.1.2.2.1
  have c4 := gS_4 c1
  unfold wp_L_fetch wp_X11_fetch
  refine ⟨1, rfl, c1.1, c1.1, q_ver R.1 (fun e => ?_) (fun e => ⟨rfl, ?_⟩)⟩
  · rw [if_pos e] at I'
    rw [if_pos e, if_pos e] at h
    obtain ⟨i, j, hi, hj, hc, ei, ej⟩ := isV_nI I e
    subst ei ej
    have ci : (nI i).toNatClampNeg = i := nI_clamp (by omega)
    have cj : (nI j).toNatClampNeg = j := nI_clamp (by omega)
    rw [ci, cj] at h I' ⊢
    have P := CR_gP R.1 i hi
    have vj := CR_ver R.1 I hi hj
    refine ⟨c1.1, 4, c4.1, _, c4.2, vp_in_nI (show i < 6 by omega) (by decide), _, P.2.1, P.1, _, P.2.2.1, _, P.2.2.2.1, vp_in_nI (show j < 4 by omega) (by decide), _, vj.1, vj.2.1.1, ?_⟩
    rw [vj.2.2.1.2.2.2.2.2.1, vj.1]
    refine ⟨fun e2 => ?_, fun e2 => ?_⟩
    · rw [if_pos e2, if_pos e2] at h
      rw [if_pos e2] at I'
      unfold wp_X11_fetch_30
      intro Z hZ
      exact c_ftc hi hZ 3 0 V S rfl R I hj fun S1 R1 => w_out R1 I' fun S' R' hl => h S' N R' (fun _ => hl)
    · rw [if_neg e2, if_neg e2] at h
      exact w_out R I fun S' R' hl => h S' N R' (fun _ => hl)
  · rw [if_neg (by rw [e]; decide), if_neg (by rw [e]; decide)] at h
    exact h S N R (fun e => absurd e (by decide))
theorem m_ftc {S0 : xm_S} {V : VV} {N a : Nat} {g : Int32 → xm_S → Prop} {Z : Int32 → Int32 → xm_S → Prop} (ha : a < 24) (I : Iv V) (hZ : ∀ x3 x4 S, wp_X12_fetch_43B 1000 x3 x4 S g Z → Z x3 x4 S) : ∀ d m W S, m + d = 3 → RR S V W N → KC S0 S → st_i S 1000 0 = 0 → (∀ S', RR S' V (ftc a d m W).2 N → KC S0 S' → st_i S' 1000 0 = 0 → g (ftc a d m W).1 S') → Z (nI a) (nI m) S := by
  intro d
  induction d with
  | zero =>
    intro m W S hm R K e h
    refine hZ _ _ _ ?_
    unfold wp_X12_fetch_43B
    exact ⟨fun _ => h S R K e, fun e => absurd (nI_le (show 3 ≤ m by omega) (by omega)) e⟩
  | succ d ih =>
    intro m W S hm R K e0 h
    have M := R.2.1
    unfold ftc at h
    refine hZ _ _ _ ?_
    unfold wp_X12_fetch_43B wp_X12_fetch_96
    rw [nI_clamp (show m < 2 ^ 31 by omega), nI_clamp (show a < 2 ^ 31 by omega)]
    refine ⟨fun e => absurd e (nI_ge (show m < 3 by omega) (by decide)), fun _ => ⟨M.1.1, _, MS_r M.1 41, _, MS_t M.1 41, vp_in_nI (show m < 3 by omega) (by decide), ?_⟩⟩
    rw [show st_i S (1001 + 41) m = W 41 m from M.2.2 41 _ rfl]
    refine ⟨fun e y ey => ?_, fun e => m_gives M (by omega) ha ⟨M.1.1, _, MS_r M.1 6, _, MS_t M.1 6, vp_in_nI (show a < 24 by omega) (by decide), ?_⟩⟩
    · rw [if_neg e] at h
      rw [ey, nI_1]
      exact ih (m + 1) W S (by omega) R K e0 h
    · rw [if_pos e] at h
      rw [show st_i S (1001 + 6) a = W 6 a from M.2.2 6 _ rfl]
      refine ⟨fun e2 => ⟨_, MS_r M.1 43, _, MS_t M.1 43, vp_in_nI (show m < 3 by omega) (by decide), _, MS_r M.1 43, _, MS_t M.1 43, vp_in_nI (show m < 3 by omega) (by decide), fun S27 e27 y ey => ?_⟩, fun e2 => ⟨_, MS_r M.1 42, _, MS_t M.1 42, vp_in_nI (show a < 24 by omega) (by decide), fun S34 e34 => ?_⟩⟩
      · rw [if_neg e2] at h
        rw [ey, nI_1]
        rw [show st_i S (1001 + 43) m = W 43 m from M.2.2 43 _ rfl] at e27
        have k7 : KC S S27 := by subst e27; exact KC_pi (KC_rfl _) (by omega)
        refine ih (m + 1) _ S27 (by omega) (RR_m R I k7 (by subst e27; exact MR_a M)) (KC_tr K k7) ?_ h
        rw [e27, st_i_pi_n _ _ _ _ _ _ (by omega)]; exact e0
      · rw [if_pos e2] at h
        have k7 : KC S S34 := by subst e34; exact KC_pi (KC_rfl _) (by omega)
        refine h S34 (RR_m R I k7 (by subst e34; exact MR_a M)) (KC_tr K k7) ?_
        rw [e34, st_i_pi_n _ _ _ _ _ _ (by omega)]; exact e0
theorem ml_fetch {S : xm_S} {V W : VV} {N : Nat} {p v : Int32} {g : Int32 → xm_S → Prop} (R : RR S V W N) (I : Iv V) (IW : Iv W) (h : ∀ S' b, RR S' V (v_fetch W p v) N → st_i S' 1000 0 = nI (t_fetch W p v) → (t_fetch W p v = 0 → b = r_fetch W p v) → st_l S' 1200 0 = st_l S 1200 0 → g b S') : wp_X12_fetch 1000 p v S g := by
  revert h
  unfold v_fetch t_fetch r_fetch
  intro h
  unfold wp_X12_fetch wp_X12_fetch_15
  refine ⟨R.2.1.1.1, m_ver R.2.1 IW (bI_c (fun e => ⟨1000, rfl, R.2.1.1.1, m_may (t := 0) R I rfl (by decide) fun S4 R4 k4 e4 => ⟨fun _ y ey => ?_, fun e => absurd e (by decide)⟩⟩) (fun e => ⟨1000, rfl, R.2.1.1.1, m_may (t := 1) R I rfl (by decide) fun S4 R4 k4 e4 => ⟨fun e => absurd rfl e, fun _ => ?_⟩⟩))⟩
  · rw [if_pos e, if_pos e] at h
    obtain ⟨i, j, hi, hj, hc, ei, ej⟩ := isV_nI IW e
    subst ei ej
    have ci : (nI i).toNatClampNeg = i := nI_clamp (by omega)
    have cj : (nI j).toNatClampNeg = j := nI_clamp (by omega)
    rw [ci, cj] at h
    have M4 := R4.2.1.1
    rw [pk_mul, nI_add] at ey
    subst ey
    refine ⟨M4.1, _, MS_r M4 42, _, MS_t M4 42, vp_in_nI (show 4 * i + j < 24 by omega) (by decide), ?_⟩
    rw [nI_clamp (by omega), show st_i S4 (1001 + 42) (4 * i + j) = W 42 (4 * i + j) from R4.2.1.2.2 42 _ rfl]
    refine ⟨fun e2 => ?_, fun e2 => ?_⟩
    · rw [if_pos e2, if_pos e2] at h
      unfold wp_X12_fetch_43
      intro Z hZ
      exact m_ftc (S0 := S) (by omega) I hZ 3 0 W S4 rfl R4 k4 e4 fun S' R' K' e' => h S' _ R' e' (fun _ => rfl) ((K' 1200 (by omega)).2.2.1 0)
    · rw [if_neg e2, if_neg e2] at h
      exact h S4 _ R4 e4 (fun _ => rfl) ((k4 1200 (by omega)).2.2.1 0)
  · rw [if_neg (by rw [e]; decide), if_neg (by rw [e]; decide)] at h
    exact h S4 _ R4 e4 (fun e => absurd e (by decide)) ((k4 1200 (by omega)).2.2.1 0)
theorem lc_fetch {m b len kc ks N : Nat} {xs : Nat → Int32} {x4 : Int32} {S : xm_S} {V : VV} {g : Int32 → xm_S → Prop} {Z : Option Nat → Option Nat → Option Nat → Int32 → xm_S → Nat → Nat → Prop} (R : RR S V V N) (I : Iv V) (hm : vn V 54 0 ≤ m) (nx : NX m b len xs x4 kc ks g Z) (hv1 : vp_in (x4 + (1 : Int32)) len) (hv2 : vp_in (x4 + nI 2) len) : wp_L_law_2169 b len xs (some 1) (some 1000) (some 1200) x4 S kc ks g Z := by
  obtain ⟨k1, k2, nx⟩ := nx
  unfold wp_L_law_2169 wp_L_law_2234
  refine ⟨hv1, hv2, by omega, by omega, w_fetch R I fun S1 N1 R1 h1 => ⟨hv1, hv2, 1000, rfl, R1.2.1.1.1, by omega, by omega, ml_fetch R1 (Iv_fetch I) I fun S2 b R2 e2 hb hl => ⟨1000, rfl, R2.2.1.1.1, by omega, by omega, m_thrown R2.2.1 e2 ?_⟩⟩⟩
  exact lc_cmp R2.2.2 (by unfold t_fetch; repeat' split
                          all_goals decide) (fun e => hl.trans (h1 e)) hb (nx _ _ _ _ _ R2 (Iv_fetch I) (md v_fetch_54 hm) (by omega) (by omega))

