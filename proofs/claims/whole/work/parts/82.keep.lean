-- install: a new generation
def kgV (V : VV) : VV := fun f k => if f = 57 ∧ k = kp_ V then V 54 0 else if f = 58 ∧ k = kp_ V then 0 else if f = 59 ∧ 54 * kp_ V ≤ k ∧ k < 54 * kp_ V + 54 then V 50 (k - 54 * kp_ V) else if f = 56 ∧ k = 0 then nI (kp_ V + 1) else if f = 55 ∧ k = 0 then V 54 0 else if f = 54 ∧ k = 0 then nI (vn V 54 0 + 1) else V f k
theorem kgV_f {V : VV} (f k : Nat) (h : f < 54 ∨ 59 < f) : kgV V f k = V f k := by
  unfold kgV
  rw [if_neg (by omega), if_neg (by omega), if_neg (by omega), if_neg (by omega), if_neg (by omega), if_neg (by omega)]
theorem kgV_n {V : VV} : kgV V 57 (kp_ V) = V 54 0 ∧ kgV V 58 (kp_ V) = 0 ∧ kgV V 56 0 = nI (kp_ V + 1) ∧ kgV V 55 0 = V 54 0 ∧ kgV V 54 0 = nI (vn V 54 0 + 1) := by
  refine ⟨if_pos ⟨rfl, rfl⟩, ?_, ?_, ?_, ?_⟩
  · unfold kgV; rw [if_neg (by omega), if_pos ⟨rfl, rfl⟩]
  · unfold kgV; rw [if_neg (by omega), if_neg (by omega), if_neg (by omega), if_pos ⟨rfl, rfl⟩]
  · unfold kgV; rw [if_neg (by omega), if_neg (by omega), if_neg (by omega), if_neg (by omega), if_pos ⟨rfl, rfl⟩]
  · unfold kgV; rw [if_neg (by omega), if_neg (by omega), if_neg (by omega), if_neg (by omega), if_neg (by omega), if_pos ⟨rfl, rfl⟩]
theorem kgV_o {V : VV} (f k : Nat) (hf : f = 57 ∨ f = 58) (h : k ≠ kp_ V) : kgV V f k = V f k := by
  unfold kgV
  rw [if_neg (by omega), if_neg (by omega), if_neg (by omega), if_neg (by omega), if_neg (by omega), if_neg (by omega)]
theorem kgV_59 {V : VV} (j : Nat) (h : j < 54) : kgV V 59 (54 * kp_ V + j) = V 50 j := by
  unfold kgV
  rw [if_neg (by omega), if_neg (by omega), if_pos (by omega)]
  congr 1; omega
theorem kgV_59o {V : VV} (k j : Nat) (h : j < 54) (hk : k ≠ kp_ V) : kgV V 59 (54 * k + j) = V 59 (54 * k + j) := by
  unfold kgV
  rw [if_neg (by omega), if_neg (by omega), if_neg (by omega), if_neg (by omega), if_neg (by omega), if_neg (by omega)]
theorem Iv_kg {V : VV} (I : Iv V) (hk : kp_ V < 6) (hm : vn V 54 0 < 512) : Iv (kgV V) ∧ kp_ (kgV V) = kp_ V + 1 ∧ vn (kgV V) 54 0 = vn V 54 0 + 1 := by
  have ev : ∀ f k, (f < 54 ∨ 59 < f) → kgV V f k = V f k := fun f k h => kgV_f f k h
  have et : ∀ q, eTs V (kgV V) q := fun q => ⟨ev _ _ (by omega), fun s hs => ev _ _ (by omega)⟩
  obtain ⟨n57, n58, n56, n55, n54⟩ := kgV_n (V := V)
  have kk : kp_ (kgV V) = kp_ V + 1 := by unfold kp_ vn; rw [n56, nI_clamp (by omega)]; rfl
  have k54 : vn (kgV V) 54 0 = vn V 54 0 + 1 := by unfold vn; rw [n54, nI_clamp (by omega)]; rfl
  obtain ⟨g1, g2, g3, g4, g5, g6, g7, g8⟩ := I.2.2.2.2
  have v57 : vn (kgV V) 57 (kp_ V) = vn V 54 0 := by unfold vn; rw [n57]
  have v57o : ∀ k, k ≠ kp_ V → vn (kgV V) 57 k = vn V 57 k := fun k h => vn_e (kgV_o 57 k (by omega) h)
  refine ⟨⟨Iv1_e I.1 fun f k h => ev f k (by omega), Iv2_e I.1 I.2.1 (fun f k h => ev f k (by omega)) fun q hq _ => et q, Iv3_e I.2.2.1 (fun f k h => ev f k (by omega)) (fun q hq _ => et q) (fun q hq => VT_e (I.2.2.1.2.2.2.2.2.2 q hq) (et q)), Iv4_e I.2.2.2.1 fun f k h => ev f k (by omega), fun k hk => ⟨Im_e (g1 k hk).1 (ev _ _ (by omega)), In_e (g1 k hk).2 (ev _ _ (by omega))⟩, fun k hk => Im_e (g2 k hk) (ev _ _ (by omega)), fun k hk => ?_, ?_, ?_, ?_, fun k hk2 => ?_, fun i j hi hj => ?_⟩, kk, k54⟩
  · rw [ev 50 _ (by omega), ev 50 _ (by omega), ev 50 _ (by omega)]; exact g3 k hk
  · exact (In_nI (n := vn V 54 0 + 1) n54 (by omega) (by omega)).1
  · refine .inr ?_
    unfold In at g4 ⊢
    rw [show vn (kgV V) 55 0 = vn V 54 0 by unfold vn; rw [n55], n55]
    exact g4
  · exact (In_nI (n := kp_ V + 1) n56 (by omega) (by omega)).1
  · have hk2 : k < kp_ V + 1 := by rw [← kk]; exact hk2
    by_cases e : k = kp_ V
    · rw [e, v57, k54]
      refine ⟨?_, by omega, (In_nI (n := 0) n58 (by decide) (by decide)).1, fun j hj => ?_, fun j hj => ?_⟩
      · unfold In at g4 ⊢
        rw [v57, n57]; exact g4
      · have q := g2 j hj
        have e9 := kgV_59 (V := V) j hj
        unfold Im In at q ⊢
        rw [show vn (kgV V) 59 (54 * kp_ V + j) = vn V 50 j by unfold vn; rw [e9], e9]
        exact q
      · rw [kgV_59 _ (by omega), kgV_59 _ (by omega), kgV_59 _ (by omega)]
        exact g3 j hj
    · obtain ⟨a, b, c, d, f⟩ := g7 k (show k < kp_ V by omega)
      rw [v57o k e, k54]
      refine ⟨In_e a (kgV_o _ _ (by omega) e), by omega, In_e c (kgV_o _ _ (by omega) e), fun j hj => Im_e (d j hj) (kgV_59o _ _ hj e), fun j hj => ?_⟩
      rw [kgV_59o _ _ (by omega) e, kgV_59o _ _ (by omega) e, kgV_59o _ _ (by omega) e]
      exact f j hj
  · have hj : j < kp_ V + 1 := by rw [← kk]; exact hj
    rw [v57o i (by omega)]
    by_cases e : j = kp_ V
    · rw [e, v57]; exact (g7 i (show i < kp_ V by omega)).2.1
    · rw [v57o j e]; exact g8 i j hi (show j < kp_ V by omega)
def EIk (q n k : Nat) : Bool := (n == 24 && decide (2 ≤ k ∧ k ≤ 4)) || decide (40 + 6 * q ≤ n ∧ n ≤ 45 + 6 * q)
theorem EIk_f {q n k : Nat} (h : ¬ (n = 24 ∧ 2 ≤ k ∧ k ≤ 4) ∧ ¬ (40 + 6 * q ≤ n ∧ n ≤ 45 + 6 * q)) : EIk q n k = false := by
  unfold EIk
  rw [decide_eq_false h.2, Bool.or_false]
  by_cases e : n = 24
  · rw [decide_eq_false (fun hh => h.1 ⟨e, hh⟩), Bool.and_false]
  · rw [beq_eq_false_iff_ne.mpr e]; rfl
theorem EIk_t {q n k : Nat} (h : (n = 24 ∧ 2 ≤ k ∧ k ≤ 4) ∨ (40 + 6 * q ≤ n ∧ n ≤ 45 + 6 * q)) : EIk q n k = true := by
  unfold EIk
  rcases h with ⟨h1, h2⟩ | h
  · rw [decide_eq_true h2, h1]; rfl
  · rw [decide_eq_true h, Bool.or_true]
theorem CR_kg {S S17 S25 S' : xm_S} {V : VV} {N : Nat} {π : Nat → Nat} (hk : kp_ V < 6) (hm : vn V 54 0 < 512) (P : PI3 S V π) (C : CR S V N) (I : Iv V) (e17 : S17 = st_pi (st_pi (st_pi S 24 2 (nI (kp_ V + 1))) (40 + 6 * π (kp_ V)) 0 (V 54 0)) (40 + 6 * π (kp_ V)) 1 0) (b : BL S17 S25 (41 + 6 * π (kp_ V)) 25) (e' : S' = st_pi (st_pi S25 24 3 (V 54 0)) 24 4 (nI (vn V 54 0 + 1))) : CR S' (kgV V) N := by
  have p6 := (P.1 _ hk).1
  have ev : ∀ f k, (f < 54 ∨ 59 < f) → kgV V f k = V f k := fun f k h => kgV_f f k h
  have et : ∀ q, eT V (kgV V) q := eT_v fun f k h => ev _ _ (by omega)
  obtain ⟨n57, n58, n56, n55, n54⟩ := kgV_n (V := V)
  obtain ⟨I', kk, k54⟩ := Iv_kg I hk hm
  have mc := CR_mc C
  have K17 : KX fA0 (EIk (π (kp_ V))) N S S17 := by rw [e17]; exact KX_pi (KX_pi (KX_pi (KX_rfl _ _ _ _) (EIk_t (by omega))) (EIk_t (by omega))) (EIk_t (by omega))
  have K : KX fA0 (EIk (π (kp_ V))) N S S' := by
    rw [e']
    exact KX_pi (KX_pi (KX_tr K17 (BL_KX b fun q k h1 h2 => EIk_t (by omega)) (Nat.le_refl _)) (EIk_t (by omega))) (EIk_t (by omega))
  have b18 := I.2.2.1.1.2
  have b21 := I.2.2.1.2.2.2.1.2
  obtain ⟨hN, hf0, c1, c2, c3, c4, c5, c6, c7, c8, c9, c10, c11, c12, c13⟩ := C
  have hf : frs N S' := fun n hn => by rw [e', st_t_pi, st_t_pi, b.1.1, e17]; exact hf0 n hn
  refine ⟨by omega, hf, gS_X c1 K hN (fun k => by rfl), gX_X c2 c1 K hN (fun k => by exact EIk_f (by omega)) (fun f hf9 => by exact ev _ _ (by omega)), gO_X c3 K hN (fun k hk => by rfl), gT_X c4 K hN (by rfl) (by exact EIk_f (by omega)) (fun k => by exact EIk_f (by omega)) (by exact et _), gP_X c5 K hN (fun n k hn => by rfl) (fun n k g1 g2 => by exact EIk_f (by omega)) (fun k hk => ⟨by exact ev _ _ (by omega), by exact ev _ _ (by omega)⟩), gV_Y I c6 K hN (Nat.le_refl _) (fun n k hn => by rfl) (fun n k hn => by exact EIk_f (by omega)) (fun f k hf9 => by exact ev _ _ (by omega)) (fun q hq => by exact et _), gW_X c7 K hN (Nat.le_refl _) (fun n k hn => by rfl) (fun n k hn => by exact EIk_f (by omega)) (by exact ev _ _ (by omega)) (fun j hj => ⟨by exact et _, by exact ev _ _ (by omega), by exact ev _ _ (by omega)⟩), gA_X c8 K hN (Nat.le_refl _) (fun n k hn => by rfl) (fun n k hn => by exact EIk_f (by omega)) (by exact ev _ _ (by omega)) (fun j hj => ⟨by exact et _, by exact ev _ _ (by omega), by exact ev _ _ (by omega)⟩), gL_X c9 c1 K hN (fun n k hn => by rfl) (fun n k hn => by exact EIk_f (by omega)) (fun f k hf9 => by exact ev _ _ (by omega)), gM_X c10 K hN (fun n k hn => by exact EIk_f (by omega)) (fun f k hf9 hk9 => by exact ev _ _ (by omega)), gI1_X c11 K hN (fun n k hn => by rfl), ?_, ?_⟩
  · obtain ⟨h1, h2, h3, h4, h5, h6, h7⟩ := c12
    have r : ∀ n k, ¬ (n = 24 ∧ 2 ≤ k ∧ k ≤ 4) → ¬ (40 + 6 * π (kp_ V) ≤ n ∧ n ≤ 45 + 6 * π (kp_ V)) → st_i S' n k = st_i S n k := fun n k a c => by
      rw [e', st_i_pi_n _ _ _ _ _ _ (by omega), st_i_pi_n _ _ _ _ _ _ (by omega), b.2.1 _ _ (by omega), e17, st_i_pi_n _ _ _ _ _ _ (by omega), st_i_pi_n _ _ _ _ _ _ (by omega), st_i_pi_n _ _ _ _ _ _ (by omega)]
    unfold gI2
    rw [n56, n55, n54, ev 52 _ (by omega), ev 53 _ (by omega)]
    refine ⟨gMi_X h1 c11.2.1 K (by omega) (fun m j g1 g2 => EIk_f (by omega)) (fun j _ => ev 50 _ (by omega)), ?_, ?_, ?_, (r _ _ (by omega) (by omega)).trans h5, (r _ _ (by omega) (by omega)).trans h6, fun k hk => ?_⟩
    · rw [e', st_i_pi_n _ _ _ _ _ _ (by omega), st_i_pi_n _ _ _ _ _ _ (by omega), b.2.1 _ _ (by omega), e17, st_i_pi_n _ _ _ _ _ _ (by omega), st_i_pi_n _ _ _ _ _ _ (by omega), st_i_pi_s]
    · rw [e', st_i_pi_n _ _ _ _ _ _ (by omega), st_i_pi_s]
    · rw [e', st_i_pi_s]
    · rw [ev 48 _ (by omega), ev 49 _ (by omega), r _ _ (by omega) (by omega), r _ _ (by omega) (by omega)]
      exact h7 k hk
  · refine ⟨π, fun i hi => ⟨(P.1 i hi).1, ((K 30 (by omega)).2.1 _ rfl).trans (P.1 i hi).2⟩, P.2.1, fun j hj => ?_⟩
    have hj : j < kp_ V + 1 := by rw [← kk]; exact hj
    have pj := (P.1 j (by omega)).1
    by_cases e : j = kp_ V
    · subst e
      rw [n57, n58]
      refine ⟨?_, ?_, fun p hp => ?_, fun a ha => ?_⟩
      · rw [e', st_i_pi_n _ _ _ _ _ _ (by omega), st_i_pi_n _ _ _ _ _ _ (by omega), b.2.1 _ _ (by omega), e17, st_i_pi_n _ _ _ _ _ _ (by omega), st_i_pi_s]
      · rw [e', st_i_pi_n _ _ _ _ _ _ (by omega), st_i_pi_n _ _ _ _ _ _ (by omega), b.2.1 _ _ (by omega), e17, st_i_pi_s]
      · rw [kgV_59 _ (by omega), e', st_i_pi_n _ _ _ _ _ _ (by omega), st_i_pi_n _ _ _ _ _ _ (by omega), b.2.2.1 p hp, e17, st_i_pi_n _ _ _ _ _ _ (by omega), st_i_pi_n _ _ _ _ _ _ (by omega), st_i_pi_n _ _ _ _ _ _ (by omega)]
        have := c12.1.1 p hp
        rw [Nat.zero_add] at this
        exact this
      · have w := b.2.2.2 a ha
        have w2 := mc a ha
        rw [kgV_59 _ (by omega), kgV_59 _ (by omega), kgV_59 _ (by omega)]
        refine ⟨?_, ?_, ?_⟩
        · rw [e', st_i_pi_n _ _ _ _ _ _ (by omega), st_i_pi_n _ _ _ _ _ _ (by omega), w.1, e17, st_i_pi_n _ _ _ _ _ _ (by omega), st_i_pi_n _ _ _ _ _ _ (by omega), st_i_pi_n _ _ _ _ _ _ (by omega)]
          exact w2.1
        · rw [e', st_i_pi_n _ _ _ _ _ _ (by omega), st_i_pi_n _ _ _ _ _ _ (by omega), w.2.1, e17, st_i_pi_n _ _ _ _ _ _ (by omega), st_i_pi_n _ _ _ _ _ _ (by omega), st_i_pi_n _ _ _ _ _ _ (by omega)]
          exact w2.2.1
        · rw [e', st_i_pi_n _ _ _ _ _ _ (by omega), st_i_pi_n _ _ _ _ _ _ (by omega), w.2.2, e17, st_i_pi_n _ _ _ _ _ _ (by omega), st_i_pi_n _ _ _ _ _ _ (by omega), st_i_pi_n _ _ _ _ _ _ (by omega)]
          exact w2.2.2
    · have hne := PI3_ne P (i := j) (j := kp_ V) (by omega) hk e
      obtain ⟨q1, q2, q3⟩ := P.2.2 j (show j < kp_ V by omega)
      rw [kgV_o 57 j (by omega) e, kgV_o 58 j (by omega) e]
      exact ⟨(KX_i K (by omega) (EIk_f (by omega)) (by omega)).trans q1, (KX_i K (by omega) (EIk_f (by omega)) (by omega)).trans q2, gMi_X q3 (c11.2.2.2.2.2.2.2.2.2.2 _ pj).2.2 K (by omega) (fun m k a b => EIk_f (by omega)) (fun k hk => kgV_59o _ _ hk e)⟩
theorem c_keep17 {S : xm_S} {V W : VV} {N : Nat} {g : xm_S → Prop} (R : RR S V W N) (I : Iv V) (hk : kp_ V < 6) (hm : vn V 54 0 < 512) (h : ∀ S', RR S' (kgV V) W N → g S') : wp_X2_keep_17 24 S g := by
  have s := gS_24 R.1.2.2.1
  have i1 := CR_gI1 R.1
  have i2 := CR_gI2 R.1
  obtain ⟨π, P⟩ := CR_gI3 R.1
  have P : PI3 S V π := P
  obtain ⟨k1, k6⟩ := kp_6 I
  have p := P.1 _ hk
  have gk := i1.2.2.2.2.2.2.2.2.2.2 _ p.1
  have g54 := I.2.2.2.2.2.2.2.1
  unfold wp_X2_keep_17 wp_X2_keep_89
  rw [i2.2.1, k1, nI_clamp (show kp_ V < 2 ^ 31 by omega)]
  refine ⟨s.2, fun e => absurd e (nI_ge hk (by decide)), fun _ => ⟨30, i1.2.2.1, _, i1.2.2.2.1, vp_in_nI hk (by decide), fun S7 e7 => ?_⟩⟩
  rw [p.2]
  refine ⟨_, rfl, by rw [e7]; exact gk.1, fun S12 e12 => ⟨_, rfl, by rw [e12, e7]; exact gk.1, fun S17 e17 => ?_⟩⟩
  rw [show st_i S7 24 4 = V 54 0 by rw [e7, st_i_pi_n _ _ _ _ _ _ (by omega)]; exact i2.2.2.2.1] at e12
  have E17 : S17 = st_pi (st_pi (st_pi S 24 2 (nI (kp_ V + 1))) (40 + 6 * π (kp_ V)) 0 (V 54 0)) (40 + 6 * π (kp_ V)) 1 0 := by rw [e17, e12, e7, nI_1]
  have b0 : BS S S17 := by rw [E17]; exact ⟨fun _ => rfl, fun _ _ => rfl, fun _ _ => rfl⟩
  refine ⟨_, rfl, (b0.1 _).trans gk.1, _, (b0.2.1 _ _).trans gk.2.1, (b0.1 _).trans gk.2.2.1, ?_⟩
  rw [show st_r S17 24 0 = some 25 from (b0.2.1 _ _).trans i1.1]
  refine c_become (gMc_S gk.2.2 b0) (gMc_S i1.2.1 b0) (by omega) fun S25 b => ?_
  have x4 : st_i S25 24 4 = V 54 0 := by rw [b.2.1 _ _ (by omega), E17, st_i_pi_n _ _ _ _ _ _ (by omega), st_i_pi_n _ _ _ _ _ _ (by omega), st_i_pi_n _ _ _ _ _ _ (by omega)]; exact i2.2.2.2.1
  refine ⟨(b.1.1 _).trans ((b0.1 _).trans s.2), fun S28 e28 S30 e30 => ?_⟩
  rw [x4] at e28
  rw [show st_i S28 24 4 = V 54 0 by rw [e28, st_i_pi_n _ _ _ _ _ _ (by omega), x4], g54.1, nI_1] at e30
  have E30 : S30 = st_pi (st_pi S25 24 3 (V 54 0)) 24 4 (nI (vn V 54 0 + 1)) := by rw [e30, e28]
  refine h S30 ⟨CR_kg hk hm P R.1 I E17 b E30, MR_K R.2.1 ?_, ?_⟩
  · refine KM_tr (by rw [E17]; exact KM_pi (KM_pi (KM_pi (KM_rfl _) (by omega)) (by omega)) (by omega)) (KM_tr (BL_KM b (by omega)) (by rw [E30]; exact KM_pi (KM_pi (KM_rfl _) (by omega)) (by omega)))
  · rw [E30, st_t_pi, st_t_pi, b.1.1, b0.1]; exact R.2.2
def keV (V : VV) : VV := kgV (if kp_ V = 6 then drV V (gfr V 6 0).toNatClampNeg else V)
theorem ke_x {V : VV} (I : Iv V) (hg : kp_ V = 6 → gfr V 6 0 ≠ -1) (hm : vn V 54 0 < 512) : Iv (if kp_ V = 6 then drV V (gfr V 6 0).toNatClampNeg else V) ∧ kp_ (if kp_ V = 6 then drV V (gfr V 6 0).toNatClampNeg else V) < 6 ∧ vn (if kp_ V = 6 then drV V (gfr V 6 0).toNatClampNeg else V) 54 0 = vn V 54 0 := by
  by_cases e : kp_ V = 6
  · rw [if_pos e]
    rcases gfr_x (V := V) 6 0 with q | ⟨i, a, b, c⟩
    · exact absurd q (hg e)
    · rw [c, nI_clamp (by omega)]
      have q := (drV_56 (i := i) I).2
      exact ⟨Iv_dr I (by omega), by omega, vn_e (drV_f _ _ (by omega))⟩
  · rw [if_neg e]
    have := (kp_6 I).2
    exact ⟨I, by omega, rfl⟩
theorem Iv_ke {V : VV} (I : Iv V) (hg : kp_ V = 6 → gfr V 6 0 ≠ -1) (hm : vn V 54 0 < 512) : Iv (keV V) ∧ vn (keV V) 54 0 = vn V 54 0 + 1 := by
  obtain ⟨a, b, c⟩ := ke_x I hg hm
  have q := Iv_kg a b (by omega)
  exact ⟨q.1, by rw [← c]; exact q.2.2⟩
theorem c_keep {S : xm_S} {V W : VV} {N : Nat} {g : xm_S → Prop} (R : RR S V W N) (I : Iv V) (hg : kp_ V = 6 → gfr V 6 0 ≠ -1) (hm : vn V 54 0 < 512) (h : ∀ S', RR S' (keV V) W N → g S') : wp_X2_keep 24 S g := by
  have s := gS_24 R.1.2.2.1
  obtain ⟨k1, k6⟩ := kp_6 I
  have x := ke_x I hg hm
  unfold keV at h
  unfold wp_X2_keep
  rw [(CR_gI2 R.1).2.1, k1, nI_ltI (by omega) (by decide)]
  by_cases e : kp_ V = 6
  · rw [if_pos e] at h x
    refine ⟨s.2, fun hh => absurd hh (by omega), fun _ => c_least R I ?_⟩
    rw [e]
    rcases gfr_x (V := V) 6 0 with q | ⟨i, a, b, c⟩
    · exact absurd q (hg e)
    · rw [c, nI_clamp (by omega)] at h x
      rw [c]
      exact ⟨s.2, c_drop R I (by omega) fun S2 R2 _ => c_keep17 R2 x.1 x.2.1 (by omega) h⟩
  · rw [if_neg e] at h x
    exact ⟨s.2, fun _ => c_keep17 R I (by omega) hm h, fun hh => absurd (show kp_ V < 6 by omega) hh⟩
-- the reference's
def kg1 (V : VV) (c : Nat) : VV := fun f k => if f = 57 ∧ k = kp_ V then V 54 0 else if f = 58 ∧ k = kp_ V then 0 else if f = 59 ∧ 54 * kp_ V ≤ k ∧ k < 54 * kp_ V + c then V 50 (k - 54 * kp_ V) else V f k
theorem kg1_0 {V : VV} : uV (uV V 57 (kp_ V) (V 54 0)) 58 (kp_ V) 0 = kg1 V 0 := by
  funext f k
  unfold uV kg1
  by_cases e : f = 58 ∧ k = kp_ V
  · rw [if_pos e, if_neg (by omega), if_pos e]
  · rw [if_neg e]
    by_cases e2 : f = 57 ∧ k = kp_ V
    · rw [if_pos e2, if_pos e2]
    · rw [if_neg e2, if_neg e2, if_neg e, if_neg (by omega)]
theorem kg1_s {V : VV} {c : Nat} : uV (kg1 V c) 59 (54 * kp_ V + c) (V 50 c) = kg1 V (c + 1) := by
  funext f k
  unfold uV kg1
  by_cases e : f = 59 ∧ k = 54 * kp_ V + c
  · rw [if_pos e, if_neg (by omega), if_neg (by omega), if_pos (by omega), e.2, show 54 * kp_ V + c - 54 * kp_ V = c by omega]
  · rw [if_neg e]
    by_cases e1 : f = 57 ∧ k = kp_ V
    · rw [if_pos e1, if_pos e1]
    · rw [if_neg e1, if_neg e1]
      by_cases e2 : f = 58 ∧ k = kp_ V
      · rw [if_pos e2, if_pos e2]
      · rw [if_neg e2, if_neg e2]
        by_cases e3 : f = 59 ∧ 54 * kp_ V ≤ k ∧ k < 54 * kp_ V + c
        · rw [if_pos e3, if_pos (by omega)]
        · rw [if_neg e3, if_neg (by omega)]
theorem kg1_e {V : VV} : uV (uV (uV (kg1 V 54) 56 0 (nI (kp_ V + 1))) 55 0 (V 54 0)) 54 0 (nI (vn V 54 0 + 1)) = kgV V := by
  funext f k
  unfold uV kg1 kgV
  by_cases e54 : f = 54 ∧ k = 0
  · rw [if_pos e54, if_neg (by omega), if_neg (by omega), if_neg (by omega), if_neg (by omega), if_neg (by omega), if_pos e54]
  · rw [if_neg e54]
    by_cases e55 : f = 55 ∧ k = 0
    · rw [if_pos e55, if_neg (by omega), if_neg (by omega), if_neg (by omega), if_neg (by omega), if_pos e55]
    · rw [if_neg e55]
      by_cases e56 : f = 56 ∧ k = 0
      · rw [if_pos e56, if_neg (by omega), if_neg (by omega), if_neg (by omega), if_pos e56]
      · rw [if_neg e56]
        by_cases e1 : f = 57 ∧ k = kp_ V
        · rw [if_pos e1, if_pos e1]
        · rw [if_neg e1, if_neg e1]
          by_cases e2 : f = 58 ∧ k = kp_ V
          · rw [if_pos e2, if_pos e2]
          · rw [if_neg e2, if_neg e2]
            by_cases e3 : f = 59 ∧ 54 * kp_ V ≤ k ∧ k < 54 * kp_ V + 54
            · rw [if_pos e3, if_pos e3]
            · rw [if_neg e3, if_neg e3, if_neg e56, if_neg e55, if_neg e54]
theorem m_keep {S : xm_S} {W : VV} {g : xm_S → Prop} (M : MR S W) (I : Iv W) (hk : kp_ W < 6) (hm : vn W 54 0 < 512) (h : ∀ S', KC S S' → MR S' (kgV W) → st_i S' 1000 0 = st_i S 1000 0 → g S') : wp_X12_installs_160 1000 S g := by
  obtain ⟨k1, k6⟩ := kp_6 I
  have g54 := I.2.2.2.2.2.2.2.1
  have e56 : st_i S 1000 56 = nI (kp_ W) := (M.2.1 56 rfl).trans k1
  unfold wp_X12_installs_160
  rw [e56, nI_clamp (by omega), show st_i S 1000 54 = W 54 0 from M.2.1 54 rfl]
  refine ⟨M.1.1, _, MS_r M.1 57, _, MS_t M.1 57, vp_in_nI (show kp_ W < 7 by omega) (by decide), fun S53 e53 => ?_⟩
  have M53 := MR_a (f := 57) (k := kp_ W) (x := W 54 0) M
  rw [← e53] at M53
  rw [show st_i S53 1000 56 = nI (kp_ W) by rw [e53, st_i_pi_n _ _ _ _ _ _ (by omega), e56], nI_clamp (by omega)]
  refine ⟨_, MS_r M53.1 58, _, MS_t M53.1 58, vp_in_nI (show kp_ W < 7 by omega) (by decide), fun S60 e60 => ?_⟩
  have M60 := MR_a (f := 58) (k := kp_ W) (x := 0) M53
  rw [← e60, kg1_0] at M60
  have k60 : KC S S60 := by rw [e60, e53]; exact KC_pi (KC_pi (KC_rfl _) (by omega)) (by omega)
  have z60 : st_i S60 1000 0 = st_i S 1000 0 := by rw [e60, st_i_pi_n _ _ _ _ _ _ (by omega), e53, st_i_pi_n _ _ _ _ _ _ (by omega)]
  unfold wp_X12_installs_185
  intro Z hZ
  have H : ∀ d c S1, c + d = 54 → MR S1 (kg1 W c) → KC S S1 → st_i S1 1000 0 = st_i S 1000 0 → Z (nI c) S1 := by
    intro d
    induction d with
    | zero =>
      intro c S1 hc M1 K1 z1
      rw [show c = 54 by omega] at M1 ⊢
      have o : ∀ f, f = 54 ∨ f = 56 → kg1 W 54 f 0 = W f 0 := fun f hf => by unfold kg1; rw [if_neg (by omega), if_neg (by omega), if_neg (by omega)]
      refine hZ _ _ ?_
      unfold wp_X12_installs_185B
      refine ⟨fun _ => ⟨M1.1.1, fun S26 e26 S28 e28 S30 e30 => ?_⟩, fun e => absurd (nI_le (Nat.le_refl 54) (by decide)) e⟩
      rw [show st_i S1 1000 56 = nI (kp_ W) from (M1.2.1 56 rfl).trans ((o 56 (by omega)).trans k1), nI_1] at e26
      have M26 := MR_s (f := 56) (x := nI (kp_ W + 1)) M1
      rw [← e26] at M26
      rw [show st_i S26 1000 54 = W 54 0 from (M26.2.1 54 rfl).trans ((uV_n _ _ _ _ _ _ (by omega)).trans (o 54 (by omega)))] at e28
      have M28 := MR_s (f := 55) (x := W 54 0) M26
      rw [← e28] at M28
      rw [show st_i S28 1000 54 = nI (vn W 54 0) from (M28.2.1 54 rfl).trans ((uV_n _ _ _ _ _ _ (by omega)).trans ((uV_n _ _ _ _ _ _ (by omega)).trans ((o 54 (by omega)).trans g54.1))), nI_1] at e30
      have M30 := MR_s (f := 54) (x := nI (vn W 54 0 + 1)) M28
      rw [← e30, kg1_e] at M30
      refine h S30 (KC_tr K1 (by rw [e30, e28, e26]; exact KC_pi (KC_pi (KC_pi (KC_rfl _) (by omega)) (by omega)) (by omega))) M30 ?_
      rw [e30, st_i_pi_n _ _ _ _ _ _ (by omega), e28, st_i_pi_n _ _ _ _ _ _ (by omega), e26, st_i_pi_n _ _ _ _ _ _ (by omega)]; exact z1
    | succ d ih =>
      intro c S1 hc M1 K1 z1
      have o50 : kg1 W c 50 c = W 50 c := by unfold kg1; rw [if_neg (by omega), if_neg (by omega), if_neg (by omega)]
      have o56 : kg1 W c 56 0 = W 56 0 := by unfold kg1; rw [if_neg (by omega), if_neg (by omega), if_neg (by omega)]
      refine hZ _ _ ?_
      unfold wp_X12_installs_185B
      rw [show st_i S1 1000 56 = nI (kp_ W) from (M1.2.1 56 rfl).trans (o56.trans k1), pk_mul, nI_add, nI_clamp (show c < 2 ^ 31 by omega), nI_clamp (show 54 * kp_ W + c < 2 ^ 31 by omega)]
      refine ⟨fun e => absurd e (nI_ge (show c < 54 by omega) (by decide)), fun _ => ⟨M1.1.1, _, MS_r M1.1 50, _, MS_t M1.1 50, vp_in_nI (show c < 54 by omega) (by decide), _, MS_r M1.1 59, _, MS_t M1.1 59, vp_in_nI (show 54 * kp_ W + c < 378 by omega) (by decide), fun S43 e43 y ey => ?_⟩⟩
      rw [show st_i S1 (1001 + 50) c = W 50 c from (M1.2.2 50 _ rfl).trans o50] at e43
      have M43 := MR_a (f := 59) (k := 54 * kp_ W + c) (x := W 50 c) M1
      rw [← e43, kg1_s] at M43
      rw [ey, nI_1]
      refine ih (c + 1) S43 (by omega) M43 (KC_tr K1 (by rw [e43]; exact KC_pi (KC_rfl _) (by omega))) ?_
      rw [e43, st_i_pi_n _ _ _ _ _ _ (by omega)]; exact z1
  exact H 54 0 S60 rfl M60 k60 z60
