-- yank
theorem used_of {V : VV} {i j : Nat} (hj : j < vn V 2 i) (h4 : vn V 2 i ≤ 4) : used V (4 * i + j) := by
  unfold used
  rw [show (4 * i + j) % 4 = j by omega, show (4 * i + j) / 4 = i by omega]
  exact hj
theorem CR_yank {S : xm_S} {V : VV} {N a : Nat} {y : Bool} (ha : a < 24) (u : used V a) (C : CR S V N) (I : Iv V) : CR (st_pi S (200 + 20 * a) 4 (bI y)) (uV V 7 a (bI y)) N := by
  have K : KX fA0 (E1 (200 + 20 * a) 4) N S (st_pi S (200 + 20 * a) 4 (bI y)) := KX_pi (KX_rfl _ _ _ _) (E1_t _ _)
  have et : ∀ q, eT V (uV V 7 a (bI y)) q := eT_v fun f k h => uV_n _ _ _ _ _ _ (by omega)
  have ev : ∀ f k, f ≠ 7 → uV V 7 a (bI y) f k = V f k := fun f k h => uV_n _ _ _ _ _ _ (by omega)
  have b18 := I.2.2.1.1.2
  have b21 := I.2.2.1.2.2.2.1.2
  obtain ⟨hN, hf, c1, c2, c3, c4, c5, c6, c7, c8, c9, c10, c11, c12, c13⟩ := C
  refine ⟨by omega, hf, gS_X c1 K hN (fun k => by rfl), gX_X c2 c1 K hN (fun k => by exact E1_f (by omega)) (fun f hf9 => by exact uV_n _ _ _ _ _ _ (by omega)), gO_X c3 K hN (fun k hk => by rfl), gT_X c4 K hN (by rfl) (by exact E1_f (by omega)) (fun k => by exact E1_f (by omega)) (by exact et _), gP_X c5 K hN (fun n k hn => by rfl) (fun n k g1 g2 => by exact E1_f (by omega)) (fun k hk => ⟨by exact uV_n _ _ _ _ _ _ (by omega), by exact uV_n _ _ _ _ _ _ (by omega)⟩), ?_, gW_X c7 K hN (Nat.le_refl _) (fun n k hn => by rfl) (fun n k hn => by exact E1_f (by omega)) (by exact uV_n _ _ _ _ _ _ (by omega)) (fun j hj => ⟨by exact et _, by exact uV_n _ _ _ _ _ _ (by omega), by exact uV_n _ _ _ _ _ _ (by omega)⟩), gA_X c8 K hN (Nat.le_refl _) (fun n k hn => by rfl) (fun n k hn => by exact E1_f (by omega)) (by exact uV_n _ _ _ _ _ _ (by omega)) (fun j hj => ⟨by exact et _, by exact uV_n _ _ _ _ _ _ (by omega), by exact uV_n _ _ _ _ _ _ (by omega)⟩), gL_X c9 c1 K hN (fun n k hn => by rfl) (fun n k hn => by exact E1_f (by omega)) (fun f k hf9 => by exact uV_n _ _ _ _ _ _ (by omega)), gM_X c10 K hN (fun n k hn => by exact E1_f (by omega)) (fun f k hf9 hk9 => by exact uV_n _ _ _ _ _ _ (by omega)), gI1_X c11 K hN (fun n k hn => by rfl), gI2_X c12 c11 c1 K hN (fun n k hn => by exact E1_f (by omega)) (fun f k hf9 => by exact uV_n _ _ _ _ _ _ (by omega)), gI3_X c13 c11 K hN (fun k => by rfl) (fun n k hn => by exact E1_f (by omega)) I.2.2.2.2.2.2.2.2.2.1.2 (fun f k hf9 => by exact uV_n _ _ _ _ _ _ (by omega))⟩
  have bb := I.1.2.2.1 a ha
  refine gV_A ha I c6 K hN (Nat.le_refl _) (fun n k _ _ => rfl) (fun n k h1 h2 => E1_f (by omega)) (fun k => ev _ _ (by omega)) (fun f a' h1 h2 => uV_n _ _ _ _ _ _ (by omega)) (fun a' _ _ j _ => ev _ _ (by omega)) (fun a' _ j _ => ⟨ev _ _ (by omega), ev _ _ (by omega)⟩) (fun a' _ j _ => ⟨ev _ _ (by omega), ev _ _ (by omega), ev _ _ (by omega)⟩) (fun a' _ _ j _ => ⟨et _, fun f hf => ev _ _ (by omega)⟩) (fun a' _ _ j _ => ⟨et _, ev _ _ (by omega)⟩) u fun g1 g2 g3 g4 => ⟨gV1_X g1 K (by omega) (fun k => rfl), ?_, gV3_X g3 g1 K (by omega) (fun n k h1 h2 => E1_f (by omega)) (fun f hf => ev _ _ (by omega)) (fun j _ => ev _ _ (by omega)) (fun j _ => ⟨ev _ _ (by omega), ev _ _ (by omega)⟩) (fun j _ => ⟨ev _ _ (by omega), ev _ _ (by omega), ev _ _ (by omega)⟩), gN_X g4 K (by omega) (Nat.le_refl _) (fun n k _ => rfl) (fun n k h1 => E1_f (by omega)) (fun f hf => ev _ _ (by omega)) (fun j _ => ⟨et _, fun f hf => ev _ _ (by omega)⟩) (fun j _ => ⟨et _, ev _ _ (by omega)⟩) ⟨bb.1.2, bb.2.1.2⟩⟩
  obtain ⟨h1, h2, h3, h4, h5, h6, h7, h8, h9, h10⟩ := g2
  unfold gV2
  rw [vn_e (ev 3 a (by omega)), ev 4 _ (by omega), ev 5 _ (by omega), ev 6 _ (by omega), ev 42 _ (by omega), ev 8 _ (by omega), ev 13 _ (by omega), ev 15 _ (by omega), ev 44 _ (by omega)]
  have r : ∀ k, k ≠ 4 → st_i (st_pi S (200 + 20 * a) 4 (bI y)) (200 + 20 * a) k = st_i S (200 + 20 * a) k := fun k hk => st_i_pi_n _ _ _ _ _ _ (by omega)
  exact ⟨(r _ (by decide)).trans h1, (r _ (by decide)).trans h2, (r _ (by decide)).trans h3, (r _ (by decide)).trans h4, (st_i_pi_s _ _ _ _).trans (uV_s _ _ _ _).symm, (r _ (by decide)).trans h6, (r _ (by decide)).trans h7, (r _ (by decide)).trans h8, (r _ (by decide)).trans h9, (r _ (by decide)).trans h10⟩
theorem Iv_7 {V : VV} {a0 : Nat} {y : Bool} (I : Iv V) (u0 : used V a0) : Iv (uV V 7 a0 (bI y)) := by
  have ev : ∀ f k, f ≠ 7 → uV V 7 a0 (bI y) f k = V f k := fun f k h => uV_n _ _ _ _ _ _ (by omega)
  have et : ∀ q, eTs V (uV V 7 a0 (bI y)) q := fun q => ⟨ev _ _ (by omega), fun s hs => ev _ _ (by omega)⟩
  obtain ⟨g1, g2, g3, g4⟩ := I.1
  have n1 : Iv1 (uV V 7 a0 (bI y)) := by
    refine ⟨fun k hk => ⟨In_e (g1 k hk).1 (ev _ _ (by omega)), In_e (g1 k hk).2 (ev _ _ (by omega))⟩, fun a ha => ?_, fun a ha => ?_, fun a ha hu => ?_⟩
    · obtain ⟨g1, g2, g3, g4, g5, g6⟩ := g2 a ha
      refine ⟨In_e g1 (ev _ _ (by omega)), In_e g2 (ev _ _ (by omega)), In_e g3 (ev _ _ (by omega)), In_e g4 (ev _ _ (by omega)), ?_, In_e g6 (ev _ _ (by omega))⟩
      by_cases e : a = a0
      · subst e; exact In_bI (b := y) (uV_s _ _ _ _)
      · exact In_e g5 (uV_n _ _ _ _ _ _ (by omega))
    · obtain ⟨g1, g2, g3, g4⟩ := g3 a ha
      exact ⟨In_e g1 (ev _ _ (by omega)), In_e g2 (ev _ _ (by omega)), In_e g3 (ev _ _ (by omega)), In_e g4 (ev _ _ (by omega))⟩
    · have hu' : ¬ used V a := by unfold used at hu ⊢; rw [vn_e (ev 2 _ (by omega))] at hu; exact hu
      obtain ⟨q1, q2, q3, q4, q5, q6, q7⟩ := g4 a ha hu'
      rw [vn_e (ev 8 _ (by omega)), vn_e (ev 13 _ (by omega)), vn_e (ev 15 _ (by omega)), vn_e (ev 44 _ (by omega)), uV_n _ _ _ _ _ _ (show ¬ (7 = 7 ∧ a = a0) from fun hh => hu' (by rw [hh.2]; exact u0)), ev 42 _ (by omega)]
      exact ⟨q1, q2, q3, q4, q5, q6, fun j hj => by rw [ev 40 _ (by omega)]; exact q7 j hj⟩
  exact ⟨n1, Iv2_e I.1 I.2.1 (fun f k h => ev f k (by omega)) fun q hq _ => et q, Iv3_e I.2.2.1 (fun f k h => ev f k (by omega)) (fun q hq _ => et q) (fun q hq => VT_e (I.2.2.1.2.2.2.2.2.2 q hq) (et q)), Iv4_e I.2.2.2.1 fun f k h => ev f k (by omega), Iv5_e I.2.2.2.2 fun f k h => ev f k (by omega)⟩
def t_yank (V : VV) (p v : Int32) : Nat := if isV V p v then 0 else 1
def v_yank (V : VV) (p v : Int32) (y : Bool) : VV := if isV V p v then uV V 7 (4 * p.toNatClampNeg + v.toNatClampNeg) (bI y) else V
theorem Iv_yank {V : VV} {p v : Int32} {y : Bool} (I : Iv V) : Iv (v_yank V p v y) := by
  unfold v_yank
  split
  next h =>
    obtain ⟨i, j, hi, hj, hc, ei, ej⟩ := isV_nI I h
    rw [ei, ej, nI_clamp (by omega), nI_clamp (by omega)]
    exact Iv_7 I (used_of hj hc)
  · exact I
theorem w_yank {S : xm_S} {V W : VV} {N : Nat} {p v : Int32} {y : Bool} {g : Int32 → xm_S → Prop} (R : RR S V W N) (I : Iv V) (h : ∀ S' N', RR S' (v_yank V p v y) W N' → (t_yank V p v = 0 → st_l S' 1200 0 = bL (decide (V 7 (4 * p.toNatClampNeg + v.toNatClampNeg) ≠ 0))) → g (nI (t_yank V p v)) S') : wp_L_yank (some 1) p v (bI y) (some 1200) S g := by
  have I' := Iv_yank (p := p) (v := v) (y := y) I
  revert h I'
  unfold v_yank t_yank
  intro h I'
  have c1 := R.1.2.2.1
  have c4 := gS_4 c1
  unfold wp_L_yank wp_L_yank_18 wp_X11_yank
  refine ⟨1, rfl, c1.1, c1.1, q_ver R.1 (fun e => ?_) (fun e => ⟨rfl, ?_⟩)⟩
  · rw [if_pos e] at I'
    rw [if_pos e, if_pos e] at h
    obtain ⟨i, j, hi, hj, hc, ei, ej⟩ := isV_nI I e
    subst ei ej
    have ci : (nI i).toNatClampNeg = i := nI_clamp (by omega)
    have cj : (nI j).toNatClampNeg = j := nI_clamp (by omega)
    rw [ci, cj] at h I' ⊢
    have P := CR_gP R.1 i hi
    have vj := CR_ver R.1 I hi hj
    have B := In_b (I.1.2.1 (4 * i + j) (by omega)).2.2.2.2.1
    refine ⟨c1.1, 4, c4.1, _, c4.2, vp_in_nI (show i < 6 by omega) (by decide), _, P.2.1, P.1, _, P.2.2.1, _, P.2.2.2.1, vp_in_nI (show j < 4 by omega) (by decide), _, vj.1, vj.2.1.1, _, vj.1, vj.2.1.1, bI_01 _, fun S25 e25 => ?_⟩
    have R4 : RR S25 (uV V 7 (4 * i + j) (bI y)) W N := by subst e25; exact ⟨CR_yank (by omega) (used_of hj hc) R.1 I, MR_K R.2.1 (KM_pi (KM_rfl _) (by omega)), R.2.2⟩
    rw [vj.2.2.1.2.2.2.2.1, B]
    refine ⟨bI_01 _, bI_c (fun q => ?_) (fun q => ?_)⟩
    · exact w_out R4 I' fun S' R' hl => h S' N R' (fun _ => by rw [hl, q]; rfl)
    · exact w_out R4 I' fun S' R' hl => h S' N R' (fun _ => by rw [hl, q]; rfl)
  · rw [if_neg (by rw [e]; decide), if_neg (by rw [e]; decide)] at h
    exact h S N R (fun e => absurd e (by decide))
theorem ml_yank {S : xm_S} {V W : VV} {N : Nat} {p v : Int32} {y : Bool} {g : Int32 → xm_S → Prop} (R : RR S V W N) (I : Iv V) (IW : Iv W) (h : ∀ S' b, RR S' V (v_yank W p v y) N → st_i S' 1000 0 = nI (t_yank W p v) → (t_yank W p v = 0 → b = bI (decide (W 7 (4 * p.toNatClampNeg + v.toNatClampNeg) ≠ 0))) → st_l S' 1200 0 = st_l S 1200 0 → g b S') : wp_X12_yank 1000 p v (bI y) S g := by
  revert h
  unfold v_yank t_yank
  intro h
  unfold wp_X12_yank wp_X12_yank_15
  refine ⟨R.2.1.1.1, m_ver R.2.1 IW (bI_c (fun e => ⟨1000, rfl, R.2.1.1.1, m_may (t := 0) R I rfl (by decide) fun S4 R4 k4 e4 => ⟨fun _ => ?_, fun e => absurd e (by decide)⟩⟩) (fun e => ⟨1000, rfl, R.2.1.1.1, m_may (t := 1) R I rfl (by decide) fun S4 R4 k4 e4 => ⟨fun e => absurd rfl e, fun _ => ?_⟩⟩))⟩
  · rw [if_pos e, if_pos e] at h
    obtain ⟨i, j, hi, hj, hc, ei, ej⟩ := isV_nI IW e
    subst ei ej
    have ci : (nI i).toNatClampNeg = i := nI_clamp (by omega)
    have cj : (nI j).toNatClampNeg = j := nI_clamp (by omega)
    rw [ci, cj] at h
    have B := In_b (IW.1.2.1 (4 * i + j) (by omega)).2.2.2.2.1
    have M4 := R4.2.1.1
    rw [pk_mul, nI_add]
    refine ⟨M4.1, _, MS_r M4 7, _, MS_t M4 7, vp_in_nI (show 4 * i + j < 24 by omega) (by decide), fun y9 e9 => ⟨_, MS_r M4 7, _, MS_t M4 7, vp_in_nI (show 4 * i + j < 24 by omega) (by decide), bI_01 _, fun S7 e7 => ?_⟩⟩
    rw [nI_clamp (by omega)] at e9 e7
    rw [show st_i S4 (1001 + 7) (4 * i + j) = W 7 (4 * i + j) from R4.2.1.2.2 7 _ rfl, B] at e9
    have k7 : KC S4 S7 := by subst e7; exact KC_pi (KC_rfl _) (by omega)
    refine ⟨by rw [e9]; exact bI_01 _, h S7 _ (RR_m R4 I k7 (by subst e7; exact MR_a R4.2.1)) ?_ (fun _ => e9) ((KC_tr k4 k7 1200 (by omega)).2.2.1 0)⟩
    rw [e7, st_i_pi_n _ _ _ _ _ _ (by omega)]; exact e4
  · rw [if_neg (by rw [e]; decide), if_neg (by rw [e]; decide)] at h
    exact h S4 _ R4 e4 (fun e => absurd e (by decide)) ((k4 1200 (by omega)).2.2.1 0)
theorem lc_yank {m b len kc ks N : Nat} {xs : Nat → Int32} {x4 : Int32} {S : xm_S} {V : VV} {g : Int32 → xm_S → Prop} {Z : Option Nat → Option Nat → Option Nat → Int32 → xm_S → Nat → Nat → Prop} (R : RR S V V N) (I : Iv V) (hm : vn V 54 0 ≤ m) (nx : NX m b len xs x4 kc ks g Z) (hv1 : vp_in (x4 + (1 : Int32)) len) (hv2 : vp_in (x4 + nI 2) len) (hv3 : vp_in (x4 + nI 3) len) : wp_L_law_816 b len xs (some 1) (some 1000) (some 1200) x4 S kc ks g Z := by
  obtain ⟨k1, k2, nx⟩ := nx
  unfold wp_L_law_816
  refine ⟨hv1, hv2, hv3, b_arg _ (P := fun q => wp_L_law_843 b len xs (some 1) (some 1000) (some 1200) x4 q (xs ((x4 + (nI 2))).toNatClampNeg) (xs ((x4 + (1 : Int32))).toNatClampNeg) (some 1) S kc ks g Z) ?_⟩
  unfold wp_L_law_843
  refine ⟨by omega, by omega, w_yank R I fun S1 N1 R1 h1 => ⟨hv1, hv2, hv3, b_arg _ (P := fun q => wp_L_law_876 b len xs (some 1) (some 1000) (some 1200) x4 (nI (t_yank V (xs ((x4 + (1 : Int32))).toNatClampNeg) (xs ((x4 + (nI 2))).toNatClampNeg))) q (xs ((x4 + (nI 2))).toNatClampNeg) (xs ((x4 + (1 : Int32))).toNatClampNeg) (some 1000) S1 (kc + 2) (ks + 12) g Z) ?_⟩⟩
  unfold wp_L_law_876 wp_L_law_910 wp_L_law_916
  refine ⟨1000, rfl, R1.2.1.1.1, by omega, by omega, ml_yank R1 (Iv_yank I) I fun S2 r R2 e2 hb hl => ⟨1000, rfl, R2.2.1.1.1, by omega, by omega, m_thrown R2.2.1 e2 ?_⟩⟩
  exact lc_cmpB (C := fun v w => (lg_cmp w v = 0 → wp_L_law_2965 b len xs (some 1) (some 1000) (some 1200) x4 S2 (kc + 2) (ks + 12) g Z) ∧ (¬ lg_cmp w v = 0 → kc + 2 ≤ 601024 ∧ ks + 12 ≤ 7293034 ∧ g (0 : Int32) S2)) R2.2.2 (by unfold t_yank; split <;> decide) (fun e => hl.trans (h1 e)) hb (fun _ _ q => q) (nx _ _ _ _ _ R2 (Iv_yank I) (md (by unfold v_yank; (repeat' split) <;> first | rfl | exact uV_n _ _ _ _ _ _ (by omega)) hm) (by omega) (by omega))

