-- calls that read and never throw
theorem lc_steps {m b len kc ks N : Nat} {xs : Nat → Int32} {x4 : Int32} {S : xm_S} {V : VV} {g : Int32 → xm_S → Prop} {Z : Option Nat → Option Nat → Option Nat → Int32 → xm_S → Nat → Nat → Prop} (R : RR S V V N) (I : Iv V) (hm : vn V 54 0 ≤ m) (nx : NX m b len xs x4 kc ks g Z) : wp_L_law_2561 b len xs (some 1) (some 1000) (some 1200) x4 S kc ks g Z := by
  obtain ⟨k1, k2, nx⟩ := nx
  have c1 := R.1.2.2.1
  have i2 : gI2 S V := R.1.2.2.2.2.2.2.2.2.2.2.2.2.2.1
  have t24 : st_t S 24 = some (2, 0) := c1.2.2.2.2.2.2.2.2.2.2.2.2.2.2.2.2.2.2.2.2.2
  have r24 : st_r S 1 17 = some 24 := c1.2.2.2.2.2.2.2.2.2.2.2.2.2.2.2.2.2.2.2.2.1
  unfold wp_L_law_2561 wp_X11_steps wp_X12_steps
  refine ⟨1, rfl, c1.1, by omega, by omega, c1.1, 24, r24, t24, 1000, rfl, R.2.1.1.1, by omega, by omega, R.2.1.1.1, fun S2 e2 => ?_⟩
  have R2 : RR S2 V V N := by subst e2; exact RR_m R I (KC_pi (KC_rfl _) (by omega)) (MR_thr R.2.1)
  rw [show st_i S 24 5 = V 52 0 from i2.2.2.2.2.1, show st_i S2 1000 52 = V 52 0 from R2.2.1.2.1 52 rfl]
  exact ⟨fun _ => nx _ _ _ _ _ R2 I (md rfl hm) (by omega) (by omega), fun e => absurd rfl e⟩
theorem lc_aside {m b len kc ks N : Nat} {xs : Nat → Int32} {x4 : Int32} {S : xm_S} {V : VV} {g : Int32 → xm_S → Prop} {Z : Option Nat → Option Nat → Option Nat → Int32 → xm_S → Nat → Nat → Prop} (R : RR S V V N) (I : Iv V) (hm : vn V 54 0 ≤ m) (nx : NX m b len xs x4 kc ks g Z) : wp_L_law_2766 b len xs (some 1) (some 1000) (some 1200) x4 S kc ks g Z := by
  obtain ⟨k1, k2, nx⟩ := nx
  have c1 := R.1.2.2.1
  have i2 : gI2 S V := R.1.2.2.2.2.2.2.2.2.2.2.2.2.2.1
  have t24 : st_t S 24 = some (2, 0) := c1.2.2.2.2.2.2.2.2.2.2.2.2.2.2.2.2.2.2.2.2.2
  have r24 : st_r S 1 17 = some 24 := c1.2.2.2.2.2.2.2.2.2.2.2.2.2.2.2.2.2.2.2.2.1
  unfold wp_L_law_2766 wp_X11_aside wp_X12_aside
  refine ⟨1, rfl, c1.1, by omega, by omega, c1.1, 24, r24, t24, 1000, rfl, R.2.1.1.1, by omega, by omega, R.2.1.1.1, fun S2 e2 => ?_⟩
  have R2 : RR S2 V V N := by subst e2; exact RR_m R I (KC_pi (KC_rfl _) (by omega)) (MR_thr R.2.1)
  rw [show st_i S 24 6 = V 53 0 from i2.2.2.2.2.2.1, show st_i S2 1000 53 = V 53 0 from R2.2.1.2.1 53 rfl]
  exact ⟨fun _ => nx _ _ _ _ _ R2 I (md rfl hm) (by omega) (by omega), fun e => absurd rfl e⟩
theorem lc_generation {m b len kc ks N : Nat} {xs : Nat → Int32} {x4 : Int32} {S : xm_S} {V : VV} {g : Int32 → xm_S → Prop} {Z : Option Nat → Option Nat → Option Nat → Int32 → xm_S → Nat → Nat → Prop} (R : RR S V V N) (I : Iv V) (hm : vn V 54 0 ≤ m) (nx : NX m b len xs x4 kc ks g Z) : wp_L_law_2939 b len xs (some 1) (some 1000) (some 1200) x4 S kc ks g Z := by
  obtain ⟨k1, k2, nx⟩ := nx
  have c1 := R.1.2.2.1
  have i2 : gI2 S V := R.1.2.2.2.2.2.2.2.2.2.2.2.2.2.1
  have t24 : st_t S 24 = some (2, 0) := c1.2.2.2.2.2.2.2.2.2.2.2.2.2.2.2.2.2.2.2.2.2
  have r24 : st_r S 1 17 = some 24 := c1.2.2.2.2.2.2.2.2.2.2.2.2.2.2.2.2.2.2.2.2.1
  unfold wp_L_law_2939 wp_X11_generation wp_X12_generation
  refine ⟨1, rfl, c1.1, by omega, by omega, c1.1, 24, r24, t24, 1000, rfl, R.2.1.1.1, by omega, by omega, R.2.1.1.1, fun S2 e2 => ?_⟩
  have R2 : RR S2 V V N := by subst e2; exact RR_m R I (KC_pi (KC_rfl _) (by omega)) (MR_thr R.2.1)
  rw [show st_i S 24 3 = V 55 0 from i2.2.2.1, show st_i S2 1000 55 = V 55 0 from R2.2.1.2.1 55 rfl]
  exact ⟨fun _ => nx _ _ _ _ _ R2 I (md rfl hm) (by omega) (by omega), fun e => absurd rfl e⟩
theorem lc_generations {m b len kc ks N : Nat} {xs : Nat → Int32} {x4 : Int32} {S : xm_S} {V : VV} {g : Int32 → xm_S → Prop} {Z : Option Nat → Option Nat → Option Nat → Int32 → xm_S → Nat → Nat → Prop} (R : RR S V V N) (I : Iv V) (hm : vn V 54 0 ≤ m) (nx : NX m b len xs x4 kc ks g Z) : wp_L_law_2952 b len xs (some 1) (some 1000) (some 1200) x4 S kc ks g Z := by
  obtain ⟨k1, k2, nx⟩ := nx
  have c1 := R.1.2.2.1
  have i2 : gI2 S V := R.1.2.2.2.2.2.2.2.2.2.2.2.2.2.1
  have t24 : st_t S 24 = some (2, 0) := c1.2.2.2.2.2.2.2.2.2.2.2.2.2.2.2.2.2.2.2.2.2
  have r24 : st_r S 1 17 = some 24 := c1.2.2.2.2.2.2.2.2.2.2.2.2.2.2.2.2.2.2.2.2.1
  unfold wp_L_law_2952 wp_X11_generations wp_X12_generations
  refine ⟨1, rfl, c1.1, by omega, by omega, c1.1, 24, r24, t24, 1000, rfl, R.2.1.1.1, by omega, by omega, R.2.1.1.1, fun S2 e2 => ?_⟩
  have R2 : RR S2 V V N := by subst e2; exact RR_m R I (KC_pi (KC_rfl _) (by omega)) (MR_thr R.2.1)
  rw [show st_i S 24 2 = V 56 0 from i2.2.1, show st_i S2 1000 56 = V 56 0 from R2.2.1.2.1 56 rfl]
  exact ⟨fun _ => nx _ _ _ _ _ R2 I (md rfl hm) (by omega) (by omega), fun e => absurd rfl e⟩
theorem Iv_unwish {V : VV} (I : Iv V) : Iv (uV V 18 0 0) := by
  have ev : ∀ f k, f ≠ 18 → uV V 18 0 0 f k = V f k := fun f k h => uV_n _ _ _ _ _ _ (by omega)
  have et : ∀ q, eTs V (uV V 18 0 0) q := fun q => ⟨ev _ _ (by omega), fun s hs => ev _ _ (by omega)⟩
  obtain ⟨g1, g2, g3, g4, g5, g6, g7⟩ := I.2.2.1
  have b4 := g4.2
  have i18 := In_nI (V := uV V 18 0 0) (f := 18) (k := 0) (b := 4) (n := 0) (uV_s _ _ _ _) (by decide) (by decide)
  refine ⟨Iv1_e I.1 fun f k h => ev f k (by omega), Iv2_e I.1 I.2.1 (fun f k h => ev f k (by omega)) fun q hq _ => et q, ⟨i18.1, fun k hk => ⟨In_e (g2 k hk).1 (ev _ _ (by omega)), In_e (g2 k hk).2 (ev _ _ (by omega))⟩, fun k hk => by rw [i18.2] at hk; exact absurd hk (Nat.not_lt_zero k), In_e g4 (ev _ _ (by omega)), fun k hk => ⟨In_e (g5 k hk).1 (ev _ _ (by omega)), In_e (g5 k hk).2 (ev _ _ (by omega))⟩, fun k hk => ?_, fun q hq => VT_e (g7 q hq) (et q)⟩, Iv4_e I.2.2.2.1 fun f k h => ev f k (by omega), Iv5_e I.2.2.2.2 fun f k h => ev f k (by omega)⟩
  rw [vn_e (ev 21 0 (by omega))] at hk
  exact VR_e (g6 k hk) (et _)
theorem CR_x3 {S : xm_S} {V : VV} {N : Nat} (C : CR S V N) (I : Iv V) : CR (st_pi S 1 3 0) (uV V 18 0 0) N := by
  have K : KX fA0 (E1 1 3) N S (st_pi S 1 3 0) := KX_pi (KX_rfl _ _ _ _) (E1_t 1 3)
  have et : ∀ q, eT V (uV V 18 0 0) q := eT_v fun f k h => uV_n _ _ _ _ _ _ (by omega)
  have v0 : vn (uV V 18 0 0) 18 0 = 0 := vn_s (n := 0) (by decide)
  have b18 := I.2.2.1.1.2
  have b21 := I.2.2.1.2.2.2.1.2
  obtain ⟨hN, hf, c1, c2, c3, c4, c5, c6, c7, c8, c9, c10, c11, c12, c13⟩ := C
  refine ⟨by omega, hf, gS_X c1 K hN (fun k => by rfl), ?_, gO_X c3 K hN (fun k hk => by rfl), gT_X c4 K hN (by rfl) (by exact E1_f (by omega)) (fun k => by exact E1_f (by omega)) (by exact et _), gP_X c5 K hN (fun n k hn => by rfl) (fun n k g1 g2 => by exact E1_f (by omega)) (fun k hk => ⟨by exact uV_n _ _ _ _ _ _ (by omega), by exact uV_n _ _ _ _ _ _ (by omega)⟩), gV_Y I c6 K hN (Nat.le_refl _) (fun n k hn => by rfl) (fun n k hn => by exact E1_f (by omega)) (fun f k hf9 => by exact uV_n _ _ _ _ _ _ (by omega)) (fun q hq => by exact et _), ?_, gA_X c8 K hN (Nat.le_refl _) (fun n k hn => by rfl) (fun n k hn => by exact E1_f (by omega)) (by exact uV_n _ _ _ _ _ _ (by omega)) (fun j hj => ⟨by exact et _, by exact uV_n _ _ _ _ _ _ (by omega), by exact uV_n _ _ _ _ _ _ (by omega)⟩), gL_X c9 c1 K hN (fun n k hn => by rfl) (fun n k hn => by exact E1_f (by omega)) (fun f k hf9 => by exact uV_n _ _ _ _ _ _ (by omega)), gM_X c10 K hN (fun n k hn => by exact E1_f (by omega)) (fun f k hf9 hk9 => by exact uV_n _ _ _ _ _ _ (by omega)), gI1_X c11 K hN (fun n k hn => by rfl), gI2_X c12 c11 c1 K hN (fun n k hn => by exact E1_f (by omega)) (fun f k hf9 => by exact uV_n _ _ _ _ _ _ (by omega)), gI3_X c13 c11 K hN (fun k => by rfl) (fun n k hn => by exact E1_f (by omega)) I.2.2.2.2.2.2.2.2.2.1.2 (fun f k hf9 => by exact uV_n _ _ _ _ _ _ (by omega))⟩
  · obtain ⟨h1, h2, h3, h4, h5, h6, h7⟩ := c2
    exact ⟨(st_i_pi_s _ _ _ _).trans (uV_s _ _ _ _).symm, h2, h3, h4, h5, h6, h7⟩
  · exact ⟨fun _ => 0, fun j hj => by rw [v0] at hj; exact absurd hj (Nat.not_lt_zero j), fun i j _ hj => by rw [v0] at hj; exact absurd hj (Nat.not_lt_zero j)⟩
theorem lc_unwish {m b len kc ks N : Nat} {xs : Nat → Int32} {x4 : Int32} {S : xm_S} {V : VV} {g : Int32 → xm_S → Prop} {Z : Option Nat → Option Nat → Option Nat → Int32 → xm_S → Nat → Nat → Prop} (R : RR S V V N) (I : Iv V) (hm : vn V 54 0 ≤ m) (nx : NX m b len xs x4 kc ks g Z) : wp_L_law_1123 b len xs (some 1) (some 1000) (some 1200) x4 S kc ks g Z := by
  obtain ⟨k1, k2, nx⟩ := nx
  have c1 := R.1.2.2.1
  unfold wp_L_law_1123 wp_X11_unwish wp_X12_unwish
  refine ⟨1, rfl, c1.1, by omega, by omega, c1.1, fun S1 e1 => ?_⟩
  have R1 : RR S1 (uV V 18 0 0) V N := by subst e1; exact ⟨CR_x3 R.1 I, MR_K R.2.1 (KM_pi (KM_rfl _) (by omega)), R.2.2⟩
  refine ⟨1000, rfl, R1.2.1.1.1, by omega, by omega, R1.2.1.1.1, fun S2 e2 S4 e4 => ?_⟩
  have R2 : RR S2 (uV V 18 0 0) V N := by subst e2; exact RR_m R1 (Iv_unwish I) (KC_pi (KC_rfl _) (by omega)) (MR_thr R1.2.1)
  have R4 : RR S4 (uV V 18 0 0) (uV V 18 0 0) N := by subst e4; exact RR_m R2 (Iv_unwish I) (KC_pi (KC_rfl _) (by omega)) (MR_s R2.2.1)
  rw [show st_i S 1 3 = V 18 0 from R.1.2.2.2.1.1, show st_i S2 1000 18 = V 18 0 from R2.2.1.2.1 18 rfl]
  exact ⟨fun _ => nx _ _ _ _ _ R4 (Iv_unwish I) (md (uV_n _ _ _ _ _ _ (by omega)) hm) (by omega) (by omega), fun e => absurd rfl e⟩
