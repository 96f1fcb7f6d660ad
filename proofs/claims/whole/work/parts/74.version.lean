-- version
def NWb (S S' : xm_S) (b : Nat) : Prop := ∀ n, (n < b ∨ b + 9 ≤ n) → st_t S' n = st_t S n ∧ (∀ k, st_r S' n k = st_r S n k) ∧ (∀ k, st_l S' n k = st_l S n k) ∧ ∀ k, st_i S' n k = st_i S n k
def VB (S' : xm_S) (b : Nat) (d ft lc ct : Int32) : Prop := gV1 S' b ∧ (st_i S' b 0 = d ∧ st_i S' b 1 = ft ∧ st_i S' b 2 = lc ∧ st_i S' b 3 = ct ∧ st_i S' b 4 = 0 ∧ st_i S' b 5 = 0 ∧ st_i S' b 7 = 0 ∧ st_i S' b 9 = 0 ∧ st_i S' b 12 = 0 ∧ st_i S' b 16 = 0) ∧ ∀ j, j < 3 → st_i S' (b + 8) j = -1
theorem NWb_nw {S S1 : xm_S} {b n : Nat} {ty : Nat × Nat} (h : NWb S S1 b) (e : b ≤ n ∧ n < b + 9) : NWb S (st_nw S1 n ty) b := fun m hm => by
  have hne : m ≠ n := by omega
  obtain ⟨h1, h2, h3, h4⟩ := h m hm
  exact ⟨by rw [st_t_nw, if_neg hne]; exact h1, fun k => by rw [st_r_nw, if_neg hne]; exact h2 k, fun k => by rw [st_l_nw, if_neg hne]; exact h3 k, fun k => by rw [st_i_nw, if_neg hne]; exact h4 k⟩
theorem NWb_pi {S S1 : xm_S} {b n k : Nat} {v : Int32} (h : NWb S S1 b) (e : b ≤ n ∧ n < b + 9) : NWb S (st_pi S1 n k v) b := fun m hm => by
  obtain ⟨h1, h2, h3, h4⟩ := h m hm
  exact ⟨h1, h2, h3, fun j => by rw [st_i_pi_n _ _ _ _ _ _ (by omega)]; exact h4 j⟩
theorem NWb_pr {S S1 : xm_S} {b n k : Nat} {v : Option Nat} (h : NWb S S1 b) (e : b ≤ n ∧ n < b + 9) : NWb S (st_pr S1 n k v) b := fun m hm => by
  obtain ⟨h1, h2, h3, h4⟩ := h m hm
  exact ⟨h1, fun j => by rw [st_r_pr_n _ _ _ _ _ _ (by omega)]; exact h2 j, h3, h4⟩
theorem NWb_rfl (S : xm_S) (b : Nat) : NWb S S b := fun _ _ => ⟨rfl, fun _ => rfl, fun _ => rfl, fun _ => rfl⟩
set_option maxHeartbeats 4000000 in
theorem c_newVer {S : xm_S} {b num : Nat} {ft lc ct : Int32} {g : xm_S → Prop} (hb : ∀ j, j < 9 → st_t S (b + j) = none) (hn : num < 100000) (h : ∀ S', NWb S S' b → VB S' b (nI (dgN num)) ft lc ct → g S') : ∀ S30, S30 = st_nw S b (10, 0) → wp_X10_init b (nI num) ft lc ct S30 g := by
  intro S30 e30
  have h0 := hb 0 (by decide)
  have h1 := hb 1 (by decide)
  have h2 := hb 2 (by decide)
  have h3 := hb 3 (by decide)
  have h4 := hb 4 (by decide)
  have h5 := hb 5 (by decide)
  have h6 := hb 6 (by decide)
  have h7 := hb 7 (by decide)
  have h8 := hb 8 (by decide)
  unfold wp_X10_init
  refine ⟨by rw [e30, st_t_nw, if_pos rfl], fun S2 e2 S4 e4 => ⟨b + 1, ?_, fun S8 e8 S10 e10 S12 e12 => ⟨b + 2, ?_, fun S16 e16 S18 e18 S20 e20 => ⟨b + 3, ?_, fun S24 e24 S26 e26 => ⟨b + 4, ?_, fun S30' e30' S32 e32 S34 e34 => ⟨b + 5, ?_, fun S38 e38 S40 e40 => ⟨b + 6, ?_, fun S44 e44 S46 e46 => ⟨b + 7, ?_, fun S50 e50 S52 e52 S54 e54 => ⟨b + 8, ?_, fun S58 e58 => ⟨vp_in_nI (n := 0) (show 0 < 3 by decide) (by decide), fun S61 e61 => ⟨vp_in_nI (n := 1) (show 1 < 3 by decide) (by decide), fun S64 e64 => ⟨vp_in_nI (show 2 < 3 by decide) (by decide), fun S67 e67 S69 e69 => cq_digitsOf hn ⟨?_, fun S74 e74 S76 e76 S78 e78 S80 e80 => ?_⟩⟩⟩⟩⟩⟩⟩⟩⟩⟩⟩⟩⟩
  · subst e4 e2 e30; simp [st_t_pi, st_t_pr, st_t_nw, h1]
  · subst e12 e10 e8 e4 e2 e30; simp [st_t_pi, st_t_pr, st_t_nw, h2]
  · subst e20 e18 e16 e12 e10 e8 e4 e2 e30; simp [st_t_pi, st_t_pr, st_t_nw, h3]
  · subst e26 e24 e20 e18 e16 e12 e10 e8 e4 e2 e30; simp [st_t_pi, st_t_pr, st_t_nw, h4]
  · subst e34 e32 e30' e26 e24 e20 e18 e16 e12 e10 e8 e4 e2 e30; simp [st_t_pi, st_t_pr, st_t_nw, h5]
  · subst e40 e38 e34 e32 e30' e26 e24 e20 e18 e16 e12 e10 e8 e4 e2 e30; simp [st_t_pi, st_t_pr, st_t_nw, h6]
  · subst e46 e44 e40 e38 e34 e32 e30' e26 e24 e20 e18 e16 e12 e10 e8 e4 e2 e30; simp [st_t_pi, st_t_pr, st_t_nw, h7]
  · subst e54 e52 e50 e46 e44 e40 e38 e34 e32 e30' e26 e24 e20 e18 e16 e12 e10 e8 e4 e2 e30; simp [st_t_pi, st_t_pr, st_t_nw, h8]
  · subst e69 e67 e64 e61 e58 e54 e52 e50 e46 e44 e40 e38 e34 e32 e30' e26 e24 e20 e18 e16 e12 e10 e8 e4 e2 e30; simp [st_t_pi, st_t_pr, st_t_nw]
  · have z0 : ((0 : Int32)).toNatClampNeg = 0 := rfl
    have z1 : ((1 : Int32)).toNatClampNeg = 1 := rfl
    have z2 : ((nI 2)).toNatClampNeg = 2 := rfl
    rw [z0] at e61
    rw [z1] at e64
    rw [z2] at e67
    refine h S80 ?_ ?_
    · subst e80 e78 e76 e74 e69 e67 e64 e61 e58 e54 e52 e50 e46 e44 e40 e38 e34 e32 e30' e26 e24 e20 e18 e16 e12 e10 e8 e4 e2 e30
      exact NWb_pi (NWb_pi (NWb_pi (NWb_pi (NWb_pr (NWb_pi (NWb_pi (NWb_pi (NWb_nw (NWb_pi (NWb_pr (NWb_nw (NWb_pr (NWb_nw (NWb_pr (NWb_nw (NWb_pi (NWb_pr (NWb_nw (NWb_pr (NWb_nw (NWb_pi (NWb_pr (NWb_nw (NWb_pi (NWb_pr (NWb_nw (NWb_pi (NWb_pi (NWb_nw (NWb_rfl S b) (by omega)) (by omega)) (by omega)) (by omega)) (by omega)) (by omega)) (by omega)) (by omega)) (by omega)) (by omega)) (by omega)) (by omega)) (by omega)) (by omega)) (by omega)) (by omega)) (by omega)) (by omega)) (by omega)) (by omega)) (by omega)) (by omega)) (by omega)) (by omega)) (by omega)) (by omega)) (by omega)) (by omega)) (by omega)) (by omega)
    · subst e80 e78 e76 e74 e69 e67 e64 e61 e58 e54 e52 e50 e46 e44 e40 e38 e34 e32 e30' e26 e24 e20 e18 e16 e12 e10 e8 e4 e2 e30
      refine ⟨?_, ?_, fun j hj => ?_⟩
      · unfold gV1
        simp [st_t_pi, st_t_pr, st_t_nw, st_r_pi, st_r_pr, st_r_nw]
      · simp [st_i_pi, st_i_pr, st_i_nw]
      · have : j = 0 ∨ j = 1 ∨ j = 2 := by omega
        rcases this with e | e | e <;> subst e <;> simp [st_i_pi, st_i_pr, st_i_nw]
-- the new state
def vV (V : VV) (p c : Nat) (x y z w : Int32) : VV := uV (uV (uV (uV (uV V 3 (4 * p + c) x) 4 (4 * p + c) y) 5 (4 * p + c) z) 6 (4 * p + c) w) 2 p (nI (c + 1))
theorem vV_f {V : VV} {p c : Nat} {x y z w : Int32} (f k : Nat) (h : f < 2 ∨ 6 < f ∨ f = 2 ∧ k ≠ p ∨ f ≠ 2 ∧ k ≠ 4 * p + c) : vV V p c x y z w f k = V f k := (uV_n _ _ _ _ _ _ (by omega)).trans ((uV_n _ _ _ _ _ _ (by omega)).trans ((uV_n _ _ _ _ _ _ (by omega)).trans ((uV_n _ _ _ _ _ _ (by omega)).trans (uV_n _ _ _ _ _ _ (by omega)))))
theorem vV_n {V : VV} {p c : Nat} {x y z w : Int32} : vV V p c x y z w 3 (4 * p + c) = x ∧ vV V p c x y z w 4 (4 * p + c) = y ∧ vV V p c x y z w 5 (4 * p + c) = z ∧ vV V p c x y z w 6 (4 * p + c) = w := by
  refine ⟨?_, ?_, ?_, ?_⟩
  · exact (uV_n _ _ _ _ _ _ (by omega)).trans ((uV_n _ _ _ _ _ _ (by omega)).trans ((uV_n _ _ _ _ _ _ (by omega)).trans ((uV_n _ _ _ _ _ _ (by omega)).trans (uV_s _ _ _ _))))
  · exact (uV_n _ _ _ _ _ _ (by omega)).trans ((uV_n _ _ _ _ _ _ (by omega)).trans ((uV_n _ _ _ _ _ _ (by omega)).trans (uV_s _ _ _ _)))
  · exact (uV_n _ _ _ _ _ _ (by omega)).trans ((uV_n _ _ _ _ _ _ (by omega)).trans (uV_s _ _ _ _))
  · exact (uV_n _ _ _ _ _ _ (by omega)).trans (uV_s _ _ _ _)
theorem vV_2 {V : VV} {p c : Nat} {x y z w : Int32} (hc : c < 4) : vV V p c x y z w 2 p = nI (c + 1) ∧ vn (vV V p c x y z w) 2 p = c + 1 := ⟨uV_s _ _ _ _, vn_s (n := c + 1) (by omega)⟩
theorem vV_u {V : VV} {p c : Nat} {x y z w : Int32} (hc : vn V 2 p = c) (c4 : c < 4) (a : Nat) : used (vV V p c x y z w) a ↔ used V a ∨ a = 4 * p + c := by
  unfold used
  by_cases e : a / 4 = p
  · rw [e, (vV_2 c4).2, hc]; omega
  · rw [vn_e (vV_f 2 _ (by omega))]; omega
theorem vV_k {V : VV} {p c : Nat} {x y z w : Int32} (hc : vn V 2 p = c) (c4 : c < 4) (q : Nat) : vn V 2 q ≤ vn (vV V p c x y z w) 2 q := by
  by_cases e : q = p
  · rw [e, (vV_2 c4).2, hc]; omega
  · rw [vn_e (vV_f 2 _ (by omega))]; exact Nat.le_refl _
theorem Iv_vV {V : VV} {p c : Nat} {x y z w : Int32} (I : Iv V) (hp : p < 6) (hc : vn V 2 p = c) (c4 : c < 4) (h3 : ∃ n, n ≤ 99999 ∧ x = nI n) (h4 : ∃ n, n ≤ 15 ∧ y = nI n) (h5 : ∃ n, n ≤ 3 ∧ z = nI n) (h6 : ∃ n, n ≤ 999 ∧ w = nI n) : Iv (vV V p c x y z w) := by
  have ev : ∀ f k, (f < 2 ∨ 6 < f) → vV V p c x y z w f k = V f k := fun f k h => vV_f f k (by omega)
  have et : ∀ q, eTs V (vV V p c x y z w) q := fun q => ⟨ev _ _ (by omega), fun s hs => ev _ _ (by omega)⟩
  have n2 := vV_2 (V := V) (p := p) (x := x) (y := y) (z := z) (w := w) c4
  obtain ⟨n3, n4, n5, n6⟩ := vV_n (V := V) (p := p) (c := c) (x := x) (y := y) (z := z) (w := w)
  obtain ⟨m3, l3, e3⟩ := h3
  obtain ⟨m4, l4, e4⟩ := h4
  obtain ⟨m5, l5, e5⟩ := h5
  obtain ⟨m6, l6, e6⟩ := h6
  refine ⟨?_, Iv2_e I.1 I.2.1 (fun f k h => ev f k (by omega)) (fun q _ _ => et q), Iv3_e I.2.2.1 (fun f k h => ev f k (by omega)) (fun q hq _ => et q) (fun q hq => VT_e (I.2.2.1.2.2.2.2.2.2 q hq) (et q)), ?_, Iv5_e I.2.2.2.2 fun f k h => ev f k (by omega)⟩
  · obtain ⟨g1, g2, g3, g4⟩ := I.1
    refine ⟨fun k hk => ⟨In_e (g1 k hk).1 (ev _ _ (by omega)), ?_⟩, fun b hb => ?_, fun b hb => ?_, fun b hb hu => ?_⟩
    · by_cases e : k = p
      · rw [e]; exact (In_nI (n := c + 1) n2.1 (by omega) (by omega)).1
      · exact In_e (g1 k hk).2 (vV_f _ _ (by omega))
    · obtain ⟨q1, q2, q3, q4, q5, q6⟩ := g2 b hb
      by_cases e : b = 4 * p + c
      · rw [e]
        rw [e] at q5 q6
        exact ⟨(In_nI (n := m3) (n3.trans e3) l3 (by omega)).1, (In_nI (n := m4) (n4.trans e4) l4 (by omega)).1, (In_nI (n := m5) (n5.trans e5) l5 (by omega)).1, (In_nI (n := m6) (n6.trans e6) l6 (by omega)).1, In_e q5 (ev _ _ (by omega)), In_e q6 (ev _ _ (by omega))⟩
      · exact ⟨In_e q1 (vV_f _ _ (by omega)), In_e q2 (vV_f _ _ (by omega)), In_e q3 (vV_f _ _ (by omega)), In_e q4 (vV_f _ _ (by omega)), In_e q5 (ev _ _ (by omega)), In_e q6 (ev _ _ (by omega))⟩
    · obtain ⟨q1, q2, q3, q4⟩ := g3 b hb
      exact ⟨In_e q1 (ev _ _ (by omega)), In_e q2 (ev _ _ (by omega)), In_e q3 (ev _ _ (by omega)), In_e q4 (ev _ _ (by omega))⟩
    · have hu' : ¬ used V b := fun hh => hu ((vV_u hc c4 b).mpr (.inl hh))
      obtain ⟨q1, q2, q3, q4, q5, q6, q7⟩ := g4 b hb hu'
      rw [vn_e (ev 8 _ (by omega)), vn_e (ev 13 _ (by omega)), vn_e (ev 15 _ (by omega)), vn_e (ev 44 _ (by omega)), ev 7 _ (by omega), ev 42 _ (by omega)]
      exact ⟨q1, q2, q3, q4, q5, q6, fun j hj => by rw [ev 40 _ (by omega)]; exact q7 j hj⟩
  · obtain ⟨g1, g2, g3, g4, g5, g6, g7, g8⟩ := I.2.2.2.1
    have vk : ∀ f k, (f = 27 ∨ f = 29) → vLk V f k → vLk (vV V p c x y z w) f k := fun f k hf h => by
      unfold vLk at h ⊢
      rw [ev f k (by omega), vn_e (ev f k (by omega))]
      rcases h with h | h
      · exact .inl h
      · exact .inr ⟨h.1, Nat.lt_of_lt_of_le h.2 (vV_k hc c4 _)⟩
    refine ⟨In_e g1 (ev _ _ (by omega)), fun k hk => ⟨vk _ _ (by omega) (g2 k hk).1, vk _ _ (by omega) (g2 k hk).2⟩, fun k hk => ⟨In_e (g3 k hk).1 (ev _ _ (by omega)), In_e (g3 k hk).2 (ev _ _ (by omega))⟩, In_e g4 (ev _ _ (by omega)), In_e g5 (ev _ _ (by omega)), In_e g6 (ev _ _ (by omega)), In_e g7 (ev _ _ (by omega)), fun k hk => ?_⟩
    obtain ⟨a, b, c, d⟩ := g8 k hk
    exact ⟨Im_e a (ev _ _ (by omega)), In_e b (ev _ _ (by omega)), In_e c (ev _ _ (by omega)), In_e d (ev _ _ (by omega))⟩
def ERv (b x y n k : Nat) : Bool := decide (b ≤ n ∧ n < b + 9) || (n == x && k == y)
theorem ERv_f {b x y n k : Nat} (h : (n < b ∨ b + 9 ≤ n) ∧ ¬ (n = x ∧ k = y)) : ERv b x y n k = false := by
  unfold ERv
  rw [decide_eq_false (by omega), Bool.false_or]
  exact E1_f h.2
theorem ERv_t {b x y n k : Nat} (h : (b ≤ n ∧ n < b + 9) ∨ (n = x ∧ k = y)) : ERv b x y n k = true := by
  unfold ERv
  rcases h with h | ⟨h1, h2⟩
  · rw [decide_eq_true h]; rfl
  · subst h1 h2; simp
theorem NWb_KX {ER EI : Nat → Nat → Bool} {N b : Nat} {S S' : xm_S} (h : NWb S S' b) (hn : ∀ j, j < 9 → st_t S (b + j) = none) (eR : ∀ n k, b ≤ n ∧ n < b + 9 → ER n k = true) (eI : ∀ n k, b ≤ n ∧ n < b + 9 → EI n k = true) : KX ER EI N S S' := fun m _ => by
  by_cases e : b ≤ m ∧ m < b + 9
  · have hm : st_t S m = none := by have := hn (m - b) (by omega); rw [show b + (m - b) = m by omega] at this; exact this
    refine ⟨⟨fun x hx => ?_, fun hh _ => ?_⟩, fun k hk => ?_, fun k hk => ?_⟩
    · rw [hm] at hx; cases hx
    · rcases hh with hh | hh
      · rw [eR _ _ e] at hh; cases hh
      · rw [eI _ _ e] at hh; cases hh
    · rw [eR _ _ e] at hk; cases hk
    · rw [eI _ _ e] at hk; cases hk
  · exact ⟨KX_ty (h m (by omega)).1, fun k _ => (h m (by omega)).2.1 k, fun k _ => .inr ((h m (by omega)).2.2.2 k)⟩
theorem CR_vV {S S' : xm_S} {V : VV} {N p c m : Nat} {y z w : Int32} (hp : p < 6) (hc : vn V 2 p = c) (cl4 : c < 4) (hm : m < 100000) (C : CR S V N) (I : Iv V) (K : KX (ERv (200 + 20 * (4 * p + c)) (101 + 2 * p) c) (ERv (200 + 20 * (4 * p + c)) (100 + 2 * p) 2) N S S') (hf : frs N S') (vb : VB S' (200 + 20 * (4 * p + c)) (nI (dgN m)) y z w) (x1 : st_r S' (101 + 2 * p) c = some (200 + 20 * (4 * p + c))) (x2 : st_i S' (100 + 2 * p) 2 = nI (c + 1)) : CR S' (vV V p c (nI m) y z w) N := by
  have ev : ∀ f k, (f < 2 ∨ 6 < f) → vV V p c (nI m) y z w f k = V f k := fun f k h => vV_f f k (by omega)
  have et : ∀ q, eT V (vV V p c (nI m) y z w) q := eT_v fun f k h => ev _ _ (by omega)
  have n2 := vV_2 (V := V) (p := p) (x := nI m) (y := y) (z := z) (w := w) cl4
  obtain ⟨n3, n4, n5, n6⟩ := vV_n (V := V) (p := p) (c := c) (x := nI m) (y := y) (z := z) (w := w)
  have hp' := hp
  have b18 := I.2.2.1.1.2
  have b21 := I.2.2.1.2.2.2.1.2
  obtain ⟨hN, -, c1, c2, c3, c4, c5, c6, c7, c8, c9, c10, c11, c12, c13⟩ := C
  refine ⟨by omega, hf, gS_X c1 K hN (fun k => by exact ERv_f (by omega)), gX_X c2 c1 K hN (fun k => by exact ERv_f (by omega)) (fun f hf9 => by exact ev _ _ (by omega)), gO_X c3 K hN (fun k hk => by exact ERv_f (by omega)), gT_X c4 K hN (by exact ERv_f (by omega)) (by exact ERv_f (by omega)) (fun k => by exact ERv_f (by omega)) (by exact et _), ?_, ?_, gW_X c7 K hN (Nat.le_refl _) (fun n k hn => by exact ERv_f (by omega)) (fun n k hn => by exact ERv_f (by omega)) (by exact ev _ _ (by omega)) (fun j hj => ⟨by exact et _, by exact ev _ _ (by omega), by exact ev _ _ (by omega)⟩), gA_X c8 K hN (Nat.le_refl _) (fun n k hn => by exact ERv_f (by omega)) (fun n k hn => by exact ERv_f (by omega)) (by exact ev _ _ (by omega)) (fun j hj => ⟨by exact et _, by exact ev _ _ (by omega), by exact ev _ _ (by omega)⟩), gL_X c9 c1 K hN (fun n k hn => by exact ERv_f (by omega)) (fun n k hn => by exact ERv_f (by omega)) (fun f k hf9 => by exact ev _ _ (by omega)), gM_X c10 K hN (fun n k hn => by exact ERv_f (by omega)) (fun f k hf9 hk9 => by exact ev _ _ (by omega)), gI1_X c11 K hN (fun n k hn => by exact ERv_f (by omega)), gI2_X c12 c11 c1 K hN (fun n k hn => by exact ERv_f (by omega)) (fun f k hf9 => by exact ev _ _ (by omega)), gI3_X c13 c11 K hN (fun k => by exact ERv_f (by omega)) (fun n k hn => by exact ERv_f (by omega)) I.2.2.2.2.2.2.2.2.2.1.2 (fun f k hf9 => by exact ev _ _ (by omega))⟩
  · intro q hq
    obtain ⟨h1, h2, h3, h4, h5, h6, h7⟩ := c5 q hq
    have cq := (I.1.1 q hq).2.2
    refine ⟨KX_t K (by omega) h1, ((K _ (by omega)).2.1 _ (ERv_f (by omega))).trans h2, ((K _ (by omega)).2.1 _ (ERv_f (by omega))).trans h3, KX_t K (by omega) h4, ?_, ?_, fun v hv => ?_⟩
    · rw [ev 1 _ (by omega)]; exact (KX_i K (by omega) (ERv_f (by omega)) (by omega)).trans h5
    · by_cases e : q = p
      · rw [e, n2.1]; exact x2
      · rw [vV_f 2 q (by omega)]; exact (KX_i K (by omega) (ERv_f (by omega)) (by omega)).trans h6
    · by_cases e : q = p
      · rw [e, n2.2] at hv
        by_cases e2 : v = c
        · rw [e, e2]; exact x1
        · exact ((K _ (by omega)).2.1 _ (ERv_f (by omega))).trans (h7 v (by rw [e, hc]; omega))
      · rw [vn_e (vV_f 2 q (by omega))] at hv
        exact ((K _ (by omega)).2.1 _ (ERv_f (by omega))).trans (h7 v hv)
  · intro a ha
    obtain ⟨h1, h2⟩ := c6 a ha
    rw [vV_u hc cl4]
    have bb := I.1.2.2.1 a ha
    by_cases ea : a = 4 * p + c
    · have nu : ¬ used V a := by
        unfold used
        rw [ea, show (4 * p + c) % 4 = c by omega, show (4 * p + c) / 4 = p by omega, hc]
        omega
      have q := I.1.2.2.2 a ha nu
      have h2 := h2 nu
      refine ⟨fun _ => ?_, fun hh => absurd (.inr ea) hh⟩
      rw [ea] at q h2 bb ⊢
      obtain ⟨v1, ⟨w0, w1, w2, w3, w4, w5, w7, w9, w12, w16⟩, v3⟩ := vb
      refine ⟨v1, ?_, ⟨fun j hj => ?_, fun j hj => ?_, fun j hj => ?_⟩, ?_⟩
      · unfold gV2
        rw [show vn (vV V p c (nI m) y z w) 3 (4 * p + c) = m by unfold vn; rw [n3, nI_clamp (by omega)], n4, n5, n6, ev 7 _ (by omega), ev 42 _ (by omega), ev 8 _ (by omega), ev 13 _ (by omega), ev 15 _ (by omega), ev 44 _ (by omega), bb.1.1, bb.2.1.1, bb.2.2.1.1, bb.2.2.2.1, q.1, q.2.1, q.2.2.1, q.2.2.2.1, q.2.2.2.2.1, q.2.2.2.2.2.1]
        exact ⟨w0, w1, w2, w3, w4, w5, w7, w9, w12, w16⟩
      · rw [ev 40 _ (by omega), q.2.2.2.2.2.2 j hj]; exact v3 j hj
      · rw [vn_e (ev 15 _ (by omega)), q.2.2.1] at hj; exact absurd hj (Nat.not_lt_zero _)
      · rw [vn_e (ev 44 _ (by omega)), q.2.2.2.1] at hj; exact absurd hj (Nat.not_lt_zero _)
      · unfold gN
        rw [vn_e (ev 8 _ (by omega)), vn_e (ev 13 _ (by omega)), q.1, q.2.1]
        refine ⟨fun j hj => absurd hj (Nat.not_lt_zero _), fun j hj => absurd hj (Nat.not_lt_zero _), fun j _ hj => ?_, fun j _ hj => ?_⟩
        · rw [Nat.add_assoc]; exact KX_no K (by omega) (ERv_f (by omega)) (h2 (9 + j) (by omega))
        · rw [Nat.add_assoc]; exact KX_no K (by omega) (ERv_f (by omega)) (h2 (13 + j) (by omega))
    · refine ⟨fun hu => ?_, fun hu j hj => KX_no K (by omega) (ERv_f (by omega)) (h2 (fun hh => hu (.inl hh)) j hj)⟩
      obtain ⟨g1, g2, g3, g4⟩ := h1 (hu.resolve_right ea)
      have b8 := bb.1.2
      have b13 := bb.2.1.2
      refine ⟨gV1_X g1 K (by omega) (fun k => ERv_f (by omega)), gV2_X g2 g1 K (by omega) (fun k => ERv_f (by omega)) (fun f hf => vV_f f a (by omega)), gV3_X g3 g1 K (by omega) (fun n k _ _ => ERv_f (by omega)) (fun f hf => ev _ _ (by omega)) (fun j hj => ev _ _ (by omega)) (fun j hj => ⟨ev _ _ (by omega), ev _ _ (by omega)⟩) (fun j hj => ⟨ev _ _ (by omega), ev _ _ (by omega), ev _ _ (by omega)⟩), ?_⟩
      obtain ⟨q1, q2, q3, q4⟩ := g4
      unfold gN
      rw [vn_e (ev 8 a (by omega)), vn_e (ev 13 a (by omega))]
      refine ⟨fun j hj => ?_, fun j hj => ?_, fun j g1 g2 => KX_no K (by omega) (ERv_f (by omega)) (q3 j g1 g2), fun j g1 g2 => KX_no K (by omega) (ERv_f (by omega)) (q4 j g1 g2)⟩
      · rw [ev 9 _ (by omega), ev 10 _ (by omega), ev 11 _ (by omega), ev 12 _ (by omega)]
        exact ⟨((K _ (by omega)).2.1 _ (ERv_f (by omega))).trans (q1 j hj).1, NO_X (q1 j hj).2 K (by omega) (fun n k hn => ERv_f (by omega)) (fun n k hn => ERv_f (by omega)) (fun k => ERv_f (by omega)) (fun k => ERv_f (by omega)) (Nat.le_refl _) (et _)⟩
      · rw [ev 14 _ (by omega)]
        exact ⟨((K _ (by omega)).2.1 _ (ERv_f (by omega))).trans (q2 j hj).1, NO_X (q2 j hj).2 K (by omega) (fun n k hn => ERv_f (by omega)) (fun n k hn => ERv_f (by omega)) (fun k => ERv_f (by omega)) (fun k => ERv_f (by omega)) (Nat.le_refl _) (et _)⟩
def vr_2 (x y z w : Int32) : Bool := inB x 0 (nI 99999) && (inB y 0 (nI 15) && (inB z 0 (nI 3) && inB w 0 (nI 999)))
def t_version (V : VV) (p x y z w : Int32) : Nat := if inB p 0 (nI 5) then (if vr_2 x y z w then (if V 2 p.toNatClampNeg < nI 4 then 0 else 3) else 2) else 1
def v_version (V : VV) (p x y z w : Int32) : VV := if t_version V p x y z w = 0 then vV V p.toNatClampNeg (vn V 2 p.toNatClampNeg) x y z w else V
def r_version (V : VV) (p : Int32) : Int32 := nI (vn V 2 p.toNatClampNeg)
theorem v_version_54 {V : VV} {p x y z w : Int32} : v_version V p x y z w 54 0 = V 54 0 := by
  unfold v_version
  split
  · exact vV_f _ _ (by omega)
  · rfl
theorem vr_x {V : VV} {p x y z w : Int32} (I : Iv V) (h : t_version V p x y z w = 0) : ∃ i, i < 6 ∧ p = nI i ∧ vn V 2 i < 4 ∧ (∃ n, n ≤ 99999 ∧ x = nI n) ∧ (∃ n, n ≤ 15 ∧ y = nI n) ∧ (∃ n, n ≤ 3 ∧ z = nI n) ∧ ∃ n, n ≤ 999 ∧ w = nI n := by
  unfold t_version at h
  by_cases h1 : inB p 0 (nI 5) = true
  · rw [if_pos h1] at h
    by_cases h2 : vr_2 x y z w = true
    · rw [if_pos h2] at h
      by_cases h3 : V 2 p.toNatClampNeg < nI 4
      · unfold vr_2 at h2
        rw [Bool.and_eq_true, Bool.and_eq_true, Bool.and_eq_true] at h2
        obtain ⟨i, hi, ei⟩ := inB_nI h1 (by decide)
        refine ⟨i, by omega, ei, ?_, inB_nI h2.1 (by decide), inB_nI h2.2.1 (by decide), inB_nI h2.2.2.1 (by decide), inB_nI h2.2.2.2 (by decide)⟩
        rw [ei, nI_clamp (by omega)] at h3
        have q := (I.1.1 i (by omega)).2
        have q2 := q.2
        rw [q.1, nI_ltI (by omega) (by decide)] at h3
        exact h3
      · rw [if_neg h3] at h; exact absurd h (by decide)
    · rw [if_neg h2] at h; exact absurd h (by decide)
  · rw [if_neg h1] at h; exact absurd h (by decide)
theorem Iv_version {V : VV} {p x y z w : Int32} (I : Iv V) : Iv (v_version V p x y z w) := by
  unfold v_version
  split
  next h =>
    obtain ⟨i, hi, ei, hc, h3, h4, h5, h6⟩ := vr_x I h
    rw [ei, nI_clamp (by omega)]
    exact Iv_vV I hi rfl hc h3 h4 h5 h6
  · exact I
theorem w_version {S : xm_S} {V W : VV} {N : Nat} {p x y z w : Int32} {g : Int32 → xm_S → Prop} (R : RR S V W N) (I : Iv V) (h : ∀ S' N', RR S' (v_version V p x y z w) W N' → (t_version V p x y z w = 0 → st_l S' 1200 0 = (r_version V p).toInt64) → g (nI (t_version V p x y z w)) S') : wp_L_version (some 1) p x y z w (some 1200) S g := by
  have I' := Iv_version (p := p) (x := x) (y := y) (z := z) (w := w) I
  have c1 := R.1.2.2.1
  unfold wp_L_version wp_X11_version
  refine ⟨1, rfl, c1.1, q_pack (fun a => ?_) (fun a => .inl ⟨rfl, ?_⟩)⟩
  · have T2 : vr_2 x y z w = false → g 2 S := fun q => by
      have t : t_version V p x y z w = 2 := by unfold t_version; rw [if_pos a, if_neg (by rw [q]; decide)]
      have v : v_version V p x y z w = V := by unfold v_version; rw [if_neg (by rw [t]; decide)]
      rw [t, v] at h
      exact h S N R (fun e => absurd e (by decide))
    refine q_range (fun b => q_range (fun c => q_range (fun d => q_range (fun e => ⟨c1.1, ?_⟩) (fun e => .inr (.inl ⟨rfl, T2 (by unfold vr_2; rw [e]; simp)⟩))) (fun d => .inr (.inl ⟨rfl, T2 (by unfold vr_2; rw [d]; simp)⟩))) (fun c => .inr (.inl ⟨rfl, T2 (by unfold vr_2; rw [c]; simp)⟩))) (fun b => .inr (.inl ⟨rfl, T2 (by unfold vr_2; rw [b]; simp)⟩))
    have n2 : vr_2 x y z w = true := by unfold vr_2; rw [b, c, d, e]; rfl
    obtain ⟨i, hi, ei⟩ := inB_nI a (by decide)
    obtain ⟨m, lm, em⟩ := inB_nI b (by decide)
    subst ei em
    have ci : (nI i).toNatClampNeg = i := nI_clamp (by omega)
    have T : t_version V (nI i) (nI m) y z w = if V 2 i < nI 4 then 0 else 3 := by unfold t_version; rw [if_pos a, if_pos n2, ci]
    have c4 := gS_4 c1
    have P := CR_gP R.1 i (by omega)
    have q8 := (I.1.1 i (by omega)).2
    have q82 := q8.2
    have x2 := P.2.2.2.2.2.1
    rw [ci]
    refine ⟨4, c4.1, _, c4.2, vp_in_nI (show i < 6 by omega) (by decide), _, P.2.1, P.1, ?_⟩
    rw [x2]
    refine q_room (fun h8 => ?_) (fun h8 => .inr (.inr ⟨rfl, ?_⟩))
    · have t : t_version V (nI i) (nI m) y z w = 0 := by rw [T, if_pos h8]
      have v : v_version V (nI i) (nI m) y z w = vV V i (vn V 2 i) (nI m) y z w := by unfold v_version; rw [if_pos t, ci]
      rw [t, v] at h
      rw [v] at I'
      unfold r_version at h
      rw [ci] at h
      have h8' : vn V 2 i < 4 := by rw [q8.1, nI_ltI (by omega) (by decide)] at h8; exact h8
      have nu : ¬ used V (4 * i + vn V 2 i) := by
        unfold used
        rw [show (4 * i + vn V 2 i) % 4 = vn V 2 i by omega, show (4 * i + vn V 2 i) / 4 = i by omega]
        omega
      have hno := (CR_gV R.1 (4 * i + vn V 2 i) (by omega)).2 nu
      rw [P.2.1]
      refine ⟨_, rfl, P.1, _, rfl, P.1, 200 + 20 * (4 * i + vn V 2 i), hno 0 (by decide), c_newVer (fun j hj => hno j (by omega)) (by omega) fun S32 nw vb => ?_⟩
      have ty : ∀ n x, n < 200 → st_t S n = some x → st_t S32 n = some x := fun n x hn hx => (nw n (by omega)).1.trans hx
      rw [x2, q8.1, nI_clamp (show vn V 2 i < 2 ^ 31 by omega)]
      refine ⟨_, P.2.2.1, _, ty _ _ (by omega) P.2.2.2.1, vp_in_nI h8' (by decide), fun v9 hv => by rw [← Option.some.inj hv]; exact vb.1.1, fun S40 e40 => ⟨_, rfl, by rw [e40]; exact ty _ _ (by omega) P.1, _, rfl, by rw [e40]; exact ty _ _ (by omega) P.1, fun S48 e48 => ⟨_, rfl, by rw [e48, e40]; exact ty _ _ (by omega) P.1, ?_⟩⟩⟩
      rw [show st_i S40 (100 + 2 * i) 2 = nI (vn V 2 i) by rw [e40, st_i_pr, (nw _ (by omega)).2.2.2, x2, q8.1], nI_1] at e48
      rw [show st_i S48 (100 + 2 * i) 2 = nI (vn V 2 i + 1) by rw [e48, st_i_pi_s], show nI (vn V 2 i + 1) - 1 = nI (vn V 2 i) from (pk_sub (a := vn V 2 i + 1) (b := 1) (by omega)).trans rfl]
      have K : KX (ERv (200 + 20 * (4 * i + vn V 2 i)) (101 + 2 * i) (vn V 2 i)) (ERv (200 + 20 * (4 * i + vn V 2 i)) (100 + 2 * i) 2) N S S48 := by
        rw [e48, e40]
        exact KX_pi (KX_pr (NWb_KX nw (fun j hj => hno j (by omega)) (fun n k hh => ERv_t (.inl hh)) (fun n k hh => ERv_t (.inl hh))) (ERv_t (.inr ⟨rfl, rfl⟩))) (ERv_t (.inr ⟨rfl, rfl⟩))
      have hN := R.1.1
      have R48 : RR S48 (vV V i (vn V 2 i) (nI m) y z w) W N := by
        refine ⟨CR_vV (by omega) rfl h8' (by omega) R.1 I K ?_ ?_ ?_ ?_, MR_K R.2.1 ?_, KX_t K (by omega) R.2.2⟩
        · intro n hn
          rw [e48, e40, st_t_pi, st_t_pr, (nw n (by omega)).1]
          exact R.1.2.1 n hn
        · rw [e48, e40]
          obtain ⟨v1, v2, v3⟩ := vb
          refine ⟨?_, ?_, fun j hj => ?_⟩
          · obtain ⟨t1, t2, t3, t4, t5, t6, t7, t8, t9, t10, t11, t12, t13, t14, t15, t16, t17⟩ := v1
            have r : ∀ k, st_r (st_pi (st_pr S32 (101 + 2 * i) (vn V 2 i) (some (200 + 20 * (4 * i + vn V 2 i)))) (100 + 2 * i) 2 (nI (vn V 2 i + 1))) (200 + 20 * (4 * i + vn V 2 i)) k = st_r S32 (200 + 20 * (4 * i + vn V 2 i)) k := fun k => by rw [st_r_pi, st_r_pr_n _ _ _ _ _ _ (by omega)]
            exact ⟨t1, (r _).trans t2, t3, (r _).trans t4, t5, (r _).trans t6, t7, (r _).trans t8, t9, (r _).trans t10, t11, (r _).trans t12, t13, (r _).trans t14, t15, (r _).trans t16, t17⟩
          · have r : ∀ k, st_i (st_pi (st_pr S32 (101 + 2 * i) (vn V 2 i) (some (200 + 20 * (4 * i + vn V 2 i)))) (100 + 2 * i) 2 (nI (vn V 2 i + 1))) (200 + 20 * (4 * i + vn V 2 i)) k = st_i S32 (200 + 20 * (4 * i + vn V 2 i)) k := fun k => by rw [st_i_pi_n _ _ _ _ _ _ (by omega), st_i_pr]
            rw [r, r, r, r, r, r, r, r, r, r]
            exact v2
          · rw [st_i_pi_n _ _ _ _ _ _ (by omega), st_i_pr]; exact v3 j hj
        · rw [e48, e40, st_r_pi, st_r_pr_s]
        · rw [e48, st_i_pi_s]
        · intro n h1 h2
          have q := nw n (by omega)
          rw [e48, e40]
          exact ⟨q.1, fun k => by rw [st_r_pi, st_r_pr_n _ _ _ _ _ _ (by omega)]; exact q.2.1 k, q.2.2.1, fun k => by rw [st_i_pi_n _ _ _ _ _ _ (by omega), st_i_pr]; exact q.2.2.2 k⟩
      exact w_out R48 I' fun S' R' hl => h S' N R' (fun _ => hl)
    · have t : t_version V (nI i) (nI m) y z w = 3 := by rw [T, if_neg h8]
      have v : v_version V (nI i) (nI m) y z w = V := by unfold v_version; rw [if_neg (by rw [t]; decide)]
      rw [t, v] at h
      exact h S N R (fun e => absurd e (by decide))
  · have t : t_version V p x y z w = 1 := by unfold t_version; rw [if_neg (by rw [a]; decide)]
    have v : v_version V p x y z w = V := by unfold v_version; rw [if_neg (by rw [t]; decide)]
    rw [t, v] at h
    exact h S N R (fun e => absurd e (by decide))
theorem ml_version {S : xm_S} {V W : VV} {N : Nat} {p x y z w : Int32} {g : Int32 → xm_S → Prop} (R : RR S V W N) (I : Iv V) (IW : Iv W) (h : ∀ S' b, RR S' V (v_version W p x y z w) N → st_i S' 1000 0 = nI (t_version W p x y z w) → (t_version W p x y z w = 0 → b = r_version W p) → st_l S' 1200 0 = st_l S 1200 0 → g b S') : wp_X12_version 1000 p x y z w S g := by
  have M1 := R.2.1
  have X : ∀ (t : Nat), t_version W p x y z w = t → t ≠ 0 → t < 100 → wp_X12_version_89 1000 p x y z w (nI t) (some 1000) S g := fun t et h0 ht => by
    have v : v_version W p x y z w = W := by unfold v_version; rw [if_neg (by rw [et]; exact h0)]
    rw [v, et] at h
    unfold wp_X12_version_89
    refine ⟨1000, rfl, R.2.1.1.1, m_may (t := t) R I rfl ht fun S4 R4 k4 e4 => ⟨fun e => absurd e ?_, fun _ => ?_⟩⟩
    · rw [decide_eq_false h0]; exact fun e => e rfl
    · exact h S4 _ R4 e4 (fun e => absurd e h0) ((k4 1200 (by omega)).2.2.1 0)
  have Y : wp_X12_version_47 1000 p x y z w (bI (vr_2 x y z w)) S g := by
    unfold wp_X12_version_47
    refine m_pack (bI_c' (fun a => bI_c' (fun n2 => ?_) (fun n2 => X 2 (by unfold t_version; rw [if_pos a, if_neg (by rw [n2]; decide)]) (by decide) (by decide))) (fun a => X 1 (by unfold t_version; rw [if_neg (by rw [a]; decide)]) (by decide) (by decide)))
    obtain ⟨i, hi, ei⟩ := inB_nI a (by decide)
    subst ei
    have ci : (nI i).toNatClampNeg = i := nI_clamp (by omega)
    have T : t_version W (nI i) x y z w = if W 2 i < nI 4 then 0 else 3 := by unfold t_version; rw [if_pos a, if_pos n2, ci]
    have q8 := (IW.1.1 i (by omega)).2
    have q82 := q8.2
    have lt : W 2 i < nI 4 ↔ vn W 2 i < 4 := by rw [q8.1, nI_ltI (by omega) (by decide)]
    refine ⟨M1.1.1, _, MS_r M1.1 2, _, MS_t M1.1 2, vp_in_nI (show i < 6 by omega) (by decide), ?_⟩
    rw [ci, show st_i S (1001 + 2) i = nI (vn W 2 i) from (M1.2.2 2 _ rfl).trans q8.1, nI_eq (by omega) (by decide)]
    refine ⟨fun h8 => ?_, fun h8 => X 3 (by rw [T, if_neg (fun hh => by have := lt.mp hh; omega)]) (by decide) (by decide)⟩
    have h8' : vn W 2 i < 4 := by omega
    have t : t_version W (nI i) x y z w = 0 := by rw [T, if_pos (lt.mpr h8')]
    have v : v_version W (nI i) x y z w = vV W i (vn W 2 i) x y z w := by unfold v_version; rw [if_pos t, ci]
    rw [t, v] at h
    unfold r_version at h
    rw [ci] at h
    unfold wp_X12_version_89
    refine ⟨1000, rfl, M1.1.1, m_may (t := 0) R I rfl (by decide) fun S4 R4 k4 e4 => ⟨fun _ => ?_, fun e => absurd e (by decide)⟩⟩
    have M4 := R4.2.1
    rw [ci]
    refine ⟨M4.1.1, _, MS_r M4.1 2, _, MS_t M4.1 2, vp_in_nI (show i < 6 by omega) (by decide), fun y12 e12 => ?_⟩
    rw [show st_i S4 (1001 + 2) i = nI (vn W 2 i) from (M4.2.2 2 _ rfl).trans q8.1, pk_mul, nI_add] at e12
    subst e12
    rw [nI_clamp (show 4 * i + vn W 2 i < 2 ^ 31 by omega)]
    refine ⟨_, MS_r M4.1 3, _, MS_t M4.1 3, vp_in_nI (show 4 * i + vn W 2 i < 24 by omega) (by decide), fun S19 e19 => ?_⟩
    have M19 := MR_a (f := 3) (k := 4 * i + vn W 2 i) (x := x) M4
    rw [← e19] at M19
    refine ⟨_, MS_r M19.1 4, _, MS_t M19.1 4, vp_in_nI (show 4 * i + vn W 2 i < 24 by omega) (by decide), fun S26 e26 => ?_⟩
    have M26 := MR_a (f := 4) (k := 4 * i + vn W 2 i) (x := y) M19
    rw [← e26] at M26
    refine ⟨_, MS_r M26.1 5, _, MS_t M26.1 5, vp_in_nI (show 4 * i + vn W 2 i < 24 by omega) (by decide), fun S33 e33 => ?_⟩
    have M33 := MR_a (f := 5) (k := 4 * i + vn W 2 i) (x := z) M26
    rw [← e33] at M33
    refine ⟨_, MS_r M33.1 6, _, MS_t M33.1 6, vp_in_nI (show 4 * i + vn W 2 i < 24 by omega) (by decide), fun S40 e40 => ?_⟩
    have M40 := MR_a (f := 6) (k := 4 * i + vn W 2 i) (x := w) M33
    rw [← e40] at M40
    refine ⟨_, MS_r M40.1 2, _, MS_t M40.1 2, vp_in_nI (show i < 6 by omega) (by decide), _, MS_r M40.1 2, _, MS_t M40.1 2, vp_in_nI (show i < 6 by omega) (by decide), fun S52 e52 => ?_⟩
    rw [show st_i S40 (1001 + 2) i = nI (vn W 2 i) from (M40.2.2 2 _ rfl).trans ((uV_n _ _ _ _ _ _ (by omega)).trans ((uV_n _ _ _ _ _ _ (by omega)).trans ((uV_n _ _ _ _ _ _ (by omega)).trans ((uV_n _ _ _ _ _ _ (by omega)).trans q8.1)))), nI_1] at e52
    have M52 := MR_a (f := 2) (k := i) (x := nI (vn W 2 i + 1)) M40
    rw [← e52] at M52
    have k52 : KC S4 S52 := by rw [e52, e40, e33, e26, e19]; exact KC_pi (KC_pi (KC_pi (KC_pi (KC_pi (KC_rfl _) (by omega)) (by omega)) (by omega)) (by omega)) (by omega)
    refine ⟨_, MS_r M52.1 2, _, MS_t M52.1 2, vp_in_nI (show i < 6 by omega) (by decide), ?_⟩
    refine h S52 _ (RR_m R4 I k52 M52) ?_ (fun _ => ?_) ((KC_tr k4 k52 1200 (by omega)).2.2.1 0)
    · rw [e52, st_i_pi_n _ _ _ _ _ _ (by omega), e40, st_i_pi_n _ _ _ _ _ _ (by omega), e33, st_i_pi_n _ _ _ _ _ _ (by omega), e26, st_i_pi_n _ _ _ _ _ _ (by omega), e19, st_i_pi_n _ _ _ _ _ _ (by omega)]; exact e4
    · rw [show st_i S52 (1001 + 2) i = nI (vn W 2 i + 1) by rw [e52, st_i_pi_s]]
      exact (pk_sub (a := vn W 2 i + 1) (b := 1) (by omega)).trans rfl
  have Y0 : vr_2 x y z w = false → wp_X12_version_46 1000 p x y z w S g := fun q => by
    unfold wp_X12_version_46
    rw [q] at Y
    exact Y
  unfold wp_X12_version
  refine m_in (bI_c (fun b => m_in (bI_c (fun c => m_in (bI_c (fun d => m_in (bI_c (fun e => ?_) (fun e => Y0 (by unfold vr_2; rw [e]; simp)))) (fun d => Y0 (by unfold vr_2; rw [d]; simp)))) (fun c => Y0 (by unfold vr_2; rw [c]; simp)))) (fun b => Y0 (by unfold vr_2; rw [b]; simp)))
  rw [show vr_2 x y z w = true by unfold vr_2; rw [b, c, d, e]; rfl] at Y
  exact Y
theorem lc_version {m b len kc ks N : Nat} {xs : Nat → Int32} {x4 : Int32} {S : xm_S} {V : VV} {g : Int32 → xm_S → Prop} {Z : Option Nat → Option Nat → Option Nat → Int32 → xm_S → Nat → Nat → Prop} (R : RR S V V N) (I : Iv V) (hm : vn V 54 0 ≤ m) (nx : NX m b len xs x4 kc ks g Z) (hv1 : vp_in (x4 + (1 : Int32)) len) (hv2 : vp_in (x4 + nI 2) len) (hv3 : vp_in (x4 + nI 3) len) (hv4 : vp_in (x4 + nI 4) len) (hv5 : vp_in (x4 + nI 5) len) : wp_L_law_422 b len xs (some 1) (some 1000) (some 1200) x4 S kc ks g Z := by
  obtain ⟨k1, k2, nx⟩ := nx
  unfold wp_L_law_422 wp_L_law_523
  refine ⟨hv1, hv2, hv3, hv4, hv5, by omega, by omega, w_version R I fun S1 N1 R1 h1 => ⟨hv1, hv2, hv3, hv4, hv5, 1000, rfl, R1.2.1.1.1, by omega, by omega, ml_version R1 (Iv_version I) I fun S2 b R2 e2 hb hl => ⟨1000, rfl, R2.2.1.1.1, by omega, by omega, m_thrown R2.2.1 e2 ?_⟩⟩⟩
  exact lc_cmp R2.2.2 (by unfold t_version; repeat' split
                          all_goals decide) (fun e => hl.trans (h1 e)) hb (nx _ _ _ _ _ R2 (Iv_version I) (md v_version_54 hm) (by omega) (by omega))
