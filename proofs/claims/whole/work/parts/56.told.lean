-- what a mirror gives (mirror, fetch)
def gvs (V : VV) (m a : Nat) : Int32 := if V 40 (24 * m + a) = -1 then V 6 a else V 40 (24 * m + a)
theorem c_given {S : xm_S} {V : VV} {m a b : Nat} {g : Int32 → xm_S → Prop} (hm : m < 3) (g1 : gV1 S b) (g2 : gV2 S V a b) (g3 : gV3 S V a b) (h : g (gvs V m a) S) : wp_X10_givenBy b (nI m) S g := by
  obtain ⟨t1, -, -, -, -, -, -, -, -, -, -, -, -, -, -, r17, t17⟩ := g1
  unfold wp_X10_givenBy wp_X10_givenBy_23
  rw [nI_clamp (show m < 2 ^ 31 by omega)]
  refine ⟨t1, _, r17, _, t17, vp_in_nI (show m < 3 by omega) (by decide), ?_⟩
  rw [g3.1 m hm, g2.2.2.2.1]
  unfold gvs at h
  refine ⟨fun e => ⟨_, r17, _, t17, vp_in_nI (show m < 3 by omega) (by decide), ?_⟩, fun e => ?_⟩
  · rw [if_neg e] at h; rw [g3.1 m hm]; exact h
  · rw [if_pos e] at h; exact h
theorem m_gives {S : xm_S} {W : VV} {m a : Nat} {g : Int32 → xm_S → Prop} (M : MR S W) (hm : m < 3) (ha : a < 24) (h : g (gvs W m a) S) : wp_X12_gives 1000 (nI m) (nI a) S g := by
  unfold wp_X12_gives wp_X12_gives_35
  rw [pk_mul, nI_add, nI_clamp (show 24 * m + a < 2 ^ 31 by omega), nI_clamp (show a < 2 ^ 31 by omega)]
  refine ⟨M.1.1, _, MS_r M.1 40, _, MS_t M.1 40, vp_in_nI (show 24 * m + a < 72 by omega) (by decide), ?_⟩
  rw [show st_i S (1001 + 40) (24 * m + a) = W 40 (24 * m + a) from M.2.2 40 _ rfl]
  unfold gvs at h
  refine ⟨fun e => ⟨_, MS_r M.1 40, _, MS_t M.1 40, vp_in_nI (show 24 * m + a < 72 by omega) (by decide), ?_⟩, fun e => ⟨_, MS_r M.1 6, _, MS_t M.1 6, vp_in_nI (show a < 24 by omega) (by decide), ?_⟩⟩
  · rw [if_neg e] at h
    rw [show st_i S (1001 + 40) (24 * m + a) = W 40 (24 * m + a) from M.2.2 40 _ rfl]; exact h
  · rw [if_pos e] at h
    rw [show st_i S (1001 + 6) a = W 6 a from M.2.2 6 _ rfl]; exact h
theorem CR_told {S : xm_S} {V : VV} {N a m : Nat} {x : Int32} (ha : a < 24) (hm : m < 3) (u : used V a) (C : CR S V N) (I : Iv V) : CR (st_pi S (200 + 20 * a + 8) m x) (uV V 40 (24 * m + a) x) N := by
  have K : KX fA0 (E1 (200 + 20 * a + 8) m) N S (st_pi S (200 + 20 * a + 8) m x) := KX_pi (KX_rfl _ _ _ _) (E1_t _ _)
  have et : ∀ q, eT V (uV V 40 (24 * m + a) x) q := eT_v fun f k h => uV_n _ _ _ _ _ _ (by omega)
  have ev : ∀ f k, f ≠ 40 → uV V 40 (24 * m + a) x f k = V f k := fun f k h => uV_n _ _ _ _ _ _ (by omega)
  have b18 := I.2.2.1.1.2
  have b21 := I.2.2.1.2.2.2.1.2
  obtain ⟨hN, hf, c1, c2, c3, c4, c5, c6, c7, c8, c9, c10, c11, c12, c13⟩ := C
  refine ⟨by omega, hf, gS_X c1 K hN (fun k => by rfl), gX_X c2 c1 K hN (fun k => by exact E1_f (by omega)) (fun f hf9 => by exact uV_n _ _ _ _ _ _ (by omega)), gO_X c3 K hN (fun k hk => by rfl), gT_X c4 K hN (by rfl) (by exact E1_f (by omega)) (fun k => by exact E1_f (by omega)) (by exact et _), gP_X c5 K hN (fun n k hn => by rfl) (fun n k g1 g2 => by exact E1_f (by omega)) (fun k hk => ⟨by exact uV_n _ _ _ _ _ _ (by omega), by exact uV_n _ _ _ _ _ _ (by omega)⟩), ?_, gW_X c7 K hN (Nat.le_refl _) (fun n k hn => by rfl) (fun n k hn => by exact E1_f (by omega)) (by exact uV_n _ _ _ _ _ _ (by omega)) (fun j hj => ⟨by exact et _, by exact uV_n _ _ _ _ _ _ (by omega), by exact uV_n _ _ _ _ _ _ (by omega)⟩), gA_X c8 K hN (Nat.le_refl _) (fun n k hn => by rfl) (fun n k hn => by exact E1_f (by omega)) (by exact uV_n _ _ _ _ _ _ (by omega)) (fun j hj => ⟨by exact et _, by exact uV_n _ _ _ _ _ _ (by omega), by exact uV_n _ _ _ _ _ _ (by omega)⟩), gL_X c9 c1 K hN (fun n k hn => by rfl) (fun n k hn => by exact E1_f (by omega)) (fun f k hf9 => by exact uV_n _ _ _ _ _ _ (by omega)), gM_X c10 K hN (fun n k hn => by exact E1_f (by omega)) (fun f k hf9 hk9 => by exact uV_n _ _ _ _ _ _ (by omega)), gI1_X c11 K hN (fun n k hn => by rfl), gI2_X c12 c11 c1 K hN (fun n k hn => by exact E1_f (by omega)) (fun f k hf9 => by exact uV_n _ _ _ _ _ _ (by omega)), gI3_X c13 c11 K hN (fun k => by rfl) (fun n k hn => by exact E1_f (by omega)) I.2.2.2.2.2.2.2.2.2.1.2 (fun f k hf9 => by exact uV_n _ _ _ _ _ _ (by omega))⟩
  have bb := I.1.2.2.1 a ha
  refine gV_A ha I c6 K hN (Nat.le_refl _) (fun n k _ _ => rfl) (fun n k h1 h2 => E1_f (by omega)) (fun k => ev _ _ (by omega)) (fun f a' h1 h2 => ev _ _ (by omega)) (fun a' h1 h2 j h3 => uV_n _ _ _ _ _ _ (by omega)) (fun a' _ j _ => ⟨ev _ _ (by omega), ev _ _ (by omega)⟩) (fun a' _ j _ => ⟨ev _ _ (by omega), ev _ _ (by omega), ev _ _ (by omega)⟩) (fun a' _ _ j _ => ⟨et _, fun f hf => ev _ _ (by omega)⟩) (fun a' _ _ j _ => ⟨et _, ev _ _ (by omega)⟩) u fun g1 g2 g3 g4 => ⟨gV1_X g1 K (by omega) (fun k => rfl), gV2_X g2 g1 K (by omega) (fun k => E1_f (by omega)) (fun f hf => ev _ _ (by omega)), ?_, gN_X g4 K (by omega) (Nat.le_refl _) (fun n k _ => rfl) (fun n k h1 => E1_f (by omega)) (fun f hf => ev _ _ (by omega)) (fun j _ => ⟨et _, fun f hf => ev _ _ (by omega)⟩) (fun j _ => ⟨et _, ev _ _ (by omega)⟩) ⟨bb.1.2, bb.2.1.2⟩⟩
  obtain ⟨h1, h2, h3⟩ := g3
  refine ⟨fun j hj => ?_, fun j hj => ?_, fun j hj => ?_⟩
  · by_cases e : j = m
    · subst e; exact (st_i_pi_s _ _ _ _).trans (uV_s _ _ _ _).symm
    · rw [st_i_pi_n _ _ _ _ _ _ (by omega), uV_n _ _ _ _ _ _ (by omega)]; exact h1 j hj
  · rw [vn_e (ev 15 _ (by omega))] at hj
    rw [st_i_pi_n _ _ _ _ _ _ (by omega), st_i_pi_n _ _ _ _ _ _ (by omega), ev 16 _ (by omega), vn_e (ev 17 _ (by omega))]; exact h2 j hj
  · rw [vn_e (ev 44 _ (by omega))] at hj
    rw [st_i_pi_n _ _ _ _ _ _ (by omega), st_i_pi_n _ _ _ _ _ _ (by omega), st_i_pi_n _ _ _ _ _ _ (by omega), ev 45 _ (by omega), ev 46 _ (by omega), ev 47 _ (by omega)]; exact h3 j hj
theorem Iv_40 {V : VV} {k0 : Nat} {x : Int32} (I : Iv V) (u0 : used V (k0 % 24)) (hx : x = -1 ∨ ∃ n, n ≤ 999 ∧ x = nI n) : Iv (uV V 40 k0 x) := by
  have ev : ∀ f k, f ≠ 40 → uV V 40 k0 x f k = V f k := fun f k h => uV_n _ _ _ _ _ _ (by omega)
  have et : ∀ q, eTs V (uV V 40 k0 x) q := fun q => ⟨ev _ _ (by omega), fun s hs => ev _ _ (by omega)⟩
  obtain ⟨g1, g2, g3, g4, g5, g6, g7, g8⟩ := I.2.2.2.1
  have n1 : Iv1 (uV V 40 k0 x) := by
    obtain ⟨g1, g2, g3, g4⟩ := I.1
    refine ⟨fun k hk => ⟨In_e (g1 k hk).1 (ev _ _ (by omega)), In_e (g1 k hk).2 (ev _ _ (by omega))⟩, fun a ha => ?_, fun a ha => ?_, fun a ha hu => ?_⟩
    · obtain ⟨g1, g2, g3, g4, g5, g6⟩ := g2 a ha
      exact ⟨In_e g1 (ev _ _ (by omega)), In_e g2 (ev _ _ (by omega)), In_e g3 (ev _ _ (by omega)), In_e g4 (ev _ _ (by omega)), In_e g5 (ev _ _ (by omega)), In_e g6 (ev _ _ (by omega))⟩
    · obtain ⟨g1, g2, g3, g4⟩ := g3 a ha
      exact ⟨In_e g1 (ev _ _ (by omega)), In_e g2 (ev _ _ (by omega)), In_e g3 (ev _ _ (by omega)), In_e g4 (ev _ _ (by omega))⟩
    · have hu' : ¬ used V a := by unfold used at hu ⊢; rw [vn_e (ev 2 _ (by omega))] at hu; exact hu
      obtain ⟨q1, q2, q3, q4, q5, q6, q7⟩ := g4 a ha hu'
      rw [vn_e (ev 8 _ (by omega)), vn_e (ev 13 _ (by omega)), vn_e (ev 15 _ (by omega)), vn_e (ev 44 _ (by omega)), ev 7 _ (by omega), ev 42 _ (by omega)]
      refine ⟨q1, q2, q3, q4, q5, q6, fun j hj => ?_⟩
      rw [uV_n _ _ _ _ _ _ (show ¬ (40 = 40 ∧ 24 * j + a = k0) from fun hh => hu' (by rw [← hh.2, show (24 * j + a) % 24 = a by omega] at u0; exact u0))]
      exact q7 j hj
  refine ⟨n1, Iv2_e I.1 I.2.1 (fun f k h => ev f k (by omega)) fun q hq _ => et q, Iv3_e I.2.2.1 (fun f k h => ev f k (by omega)) (fun q hq _ => et q) (fun q hq => VT_e (I.2.2.1.2.2.2.2.2.2 q hq) (et q)), ⟨In_e g1 (ev _ _ (by omega)), fun k hk => ⟨vLk_e (g2 k hk).1 (ev _ _ (by omega)) (ev _ _ (by omega)), vLk_e (g2 k hk).2 (ev _ _ (by omega)) (ev _ _ (by omega))⟩, fun k hk => ⟨In_e (g3 k hk).1 (ev _ _ (by omega)), In_e (g3 k hk).2 (ev _ _ (by omega))⟩, In_e g4 (ev _ _ (by omega)), In_e g5 (ev _ _ (by omega)), In_e g6 (ev _ _ (by omega)), In_e g7 (ev _ _ (by omega)), fun k hk => ?_⟩, Iv5_e I.2.2.2.2 fun f k h => ev f k (by omega)⟩
  obtain ⟨a, b, c, d⟩ := g8 k hk
  refine ⟨?_, In_e b (ev _ _ (by omega)), In_e c (ev _ _ (by omega)), In_e d (ev _ _ (by omega))⟩
  by_cases e : k = k0
  · subst e
    rcases hx with hx | ⟨n, hn, hx⟩
    · exact .inl (by rw [uV_s]; exact hx)
    · exact .inr (In_nI (n := n) (by rw [uV_s]; exact hx) hn (by omega)).1
  · exact Im_e a (uV_n _ _ _ _ _ _ (by omega))

