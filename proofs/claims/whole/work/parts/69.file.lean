-- file
def vF (V : VV) (a c : Nat) (x y z : Int32) : VV := uV (uV (uV (uV V 45 (3 * a + c) x) 46 (3 * a + c) y) 47 (3 * a + c) z) 44 a (nI (c + 1))
theorem vF_f {V : VV} {a c : Nat} {x y z : Int32} (f k : Nat) (h1 : f ≠ 44 ∨ k ≠ a) (h2 : f ≠ 45 ∨ k ≠ 3 * a + c) (h3 : f ≠ 46 ∨ k ≠ 3 * a + c) (h4 : f ≠ 47 ∨ k ≠ 3 * a + c) : vF V a c x y z f k = V f k := (uV_n _ _ _ _ _ _ (by omega)).trans ((uV_n _ _ _ _ _ _ (by omega)).trans ((uV_n _ _ _ _ _ _ (by omega)).trans (uV_n _ _ _ _ _ _ (by omega))))
theorem vF_n {V : VV} {a c : Nat} {x y z : Int32} : vF V a c x y z 45 (3 * a + c) = x ∧ vF V a c x y z 46 (3 * a + c) = y ∧ vF V a c x y z 47 (3 * a + c) = z := by
  refine ⟨?_, ?_, ?_⟩
  · exact (uV_n _ _ _ _ _ _ (by omega)).trans ((uV_n _ _ _ _ _ _ (by omega)).trans ((uV_n _ _ _ _ _ _ (by omega)).trans (uV_s _ _ _ _)))
  · exact (uV_n _ _ _ _ _ _ (by omega)).trans ((uV_n _ _ _ _ _ _ (by omega)).trans (uV_s _ _ _ _))
  · exact (uV_n _ _ _ _ _ _ (by omega)).trans (uV_s _ _ _ _)
theorem vF_44 {V : VV} {a c : Nat} {x y z : Int32} (hc : c < 3) : vF V a c x y z 44 a = nI (c + 1) ∧ vn (vF V a c x y z) 44 a = c + 1 := ⟨uV_s _ _ _ _, vn_s (n := c + 1) (by omega)⟩
theorem Iv_vF {V : VV} {a c : Nat} {x y z : Int32} (I : Iv V) (ha : a < 24) (u : used V a) (hc : vn V 44 a = c) (c2 : c < 3) (hx : ∃ n, n ≤ 15 ∧ x = nI n) (hy : ∃ n, n ≤ 999 ∧ y = nI n) (hz : ∃ b, z = bI b) : Iv (vF V a c x y z) := by
  have ev : ∀ f k, (f < 44 ∨ 47 < f) → vF V a c x y z f k = V f k := fun f k h => vF_f f k (by omega) (by omega) (by omega) (by omega)
  have et : ∀ q, eTs V (vF V a c x y z) q := fun q => ⟨ev _ _ (by omega), fun s hs => ev _ _ (by omega)⟩
  have n44 := vF_44 (V := V) (a := a) (x := x) (y := y) (z := z) c2
  obtain ⟨n45, n46, n47⟩ := vF_n (V := V) (a := a) (c := c) (x := x) (y := y) (z := z)
  obtain ⟨m1, l1, e1⟩ := hx
  obtain ⟨m2, l2, e2⟩ := hy
  obtain ⟨bz, e3⟩ := hz
  refine ⟨?_, Iv2_e I.1 I.2.1 (fun f k h => ev f k (by omega)) (fun q hq _ => et q), Iv3_e I.2.2.1 (fun f k h => ev f k (by omega)) (fun q hq _ => et q) (fun q hq => VT_e (I.2.2.1.2.2.2.2.2.2 q hq) (et q)), ?_, Iv5_e I.2.2.2.2 fun f k h => ev f k (by omega)⟩
  · obtain ⟨g1, g2, g3, g4⟩ := I.1
    refine ⟨fun k hk => ⟨In_e (g1 k hk).1 (ev _ _ (by omega)), In_e (g1 k hk).2 (ev _ _ (by omega))⟩, fun b hb => ?_, fun b hb => ?_, fun b hb hu => ?_⟩
    · obtain ⟨q1, q2, q3, q4, q5, q6⟩ := g2 b hb
      exact ⟨In_e q1 (ev _ _ (by omega)), In_e q2 (ev _ _ (by omega)), In_e q3 (ev _ _ (by omega)), In_e q4 (ev _ _ (by omega)), In_e q5 (ev _ _ (by omega)), In_e q6 (ev _ _ (by omega))⟩
    · obtain ⟨q1, q2, q3, q4⟩ := g3 b hb
      refine ⟨In_e q1 (ev _ _ (by omega)), In_e q2 (ev _ _ (by omega)), In_e q3 (ev _ _ (by omega)), ?_⟩
      by_cases e : b = a
      · rw [e]; exact (In_nI (n := c + 1) n44.1 (by omega) (by omega)).1
      · exact In_e q4 (vF_f _ _ (by omega) (by omega) (by omega) (by omega))
    · have hu' : ¬ used V b := by unfold used at hu ⊢; rw [vn_e (ev 2 _ (by omega))] at hu; exact hu
      have hne : b ≠ a := fun e => hu' (by rw [e]; exact u)
      obtain ⟨q1, q2, q3, q4, q5, q6, q7⟩ := g4 b hb hu'
      rw [vn_e (ev 8 _ (by omega)), vn_e (ev 13 _ (by omega)), vn_e (ev 15 _ (by omega)), vn_e (vF_f 44 b (by omega) (by omega) (by omega) (by omega)), ev 7 _ (by omega), ev 42 _ (by omega)]
      exact ⟨q1, q2, q3, q4, q5, q6, fun j hj => by rw [ev 40 _ (by omega)]; exact q7 j hj⟩
  · obtain ⟨g1, g2, g3, g4, g5, g6, g7, g8⟩ := I.2.2.2.1
    refine ⟨In_e g1 (ev _ _ (by omega)), fun k hk => ⟨vLk_e (g2 k hk).1 (ev _ _ (by omega)) (ev _ _ (by omega)), vLk_e (g2 k hk).2 (ev _ _ (by omega)) (ev _ _ (by omega))⟩, fun k hk => ⟨In_e (g3 k hk).1 (ev _ _ (by omega)), In_e (g3 k hk).2 (ev _ _ (by omega))⟩, In_e g4 (ev _ _ (by omega)), In_e g5 (ev _ _ (by omega)), In_e g6 (ev _ _ (by omega)), In_e g7 (ev _ _ (by omega)), fun k hk => ?_⟩
    obtain ⟨q1, q2, q3, q4⟩ := g8 k hk
    by_cases e : k = 3 * a + c
    · rw [e]
      exact ⟨Im_e (by rw [← e]; exact q1) (ev _ _ (by omega)), (In_nI (n := m1) (n45.trans e1) l1 (by omega)).1, (In_nI (n := m2) (n46.trans e2) l2 (by omega)).1, In_bI (n47.trans e3)⟩
    · exact ⟨Im_e q1 (ev _ _ (by omega)), In_e q2 (vF_f _ _ (by omega) (by omega) (by omega) (by omega)), In_e q3 (vF_f _ _ (by omega) (by omega) (by omega) (by omega)), In_e q4 (vF_f _ _ (by omega) (by omega) (by omega) (by omega))⟩
theorem CR_vF {S : xm_S} {V : VV} {N a c : Nat} {x y z : Int32} (ha : a < 24) (u : used V a) (hc : vn V 44 a = c) (c2 : c < 3) (C : CR S V N) (I : Iv V) : CR (st_pi (st_pi (st_pi (st_pi S (200 + 20 * a + 5) c x) (200 + 20 * a + 6) c y) (200 + 20 * a + 7) c z) (200 + 20 * a) 16 (nI (c + 1))) (vF V a c x y z) N := by
  have ev : ∀ f k, (f < 44 ∨ 47 < f) → vF V a c x y z f k = V f k := fun f k h => vF_f f k (by omega) (by omega) (by omega) (by omega)
  have et : ∀ q, eT V (vF V a c x y z) q := eT_v fun f k h => ev _ _ (by omega)
  have n44 := vF_44 (V := V) (a := a) (x := x) (y := y) (z := z) c2
  obtain ⟨n45, n46, n47⟩ := vF_n (V := V) (a := a) (c := c) (x := x) (y := y) (z := z)
  have K : KX fA0 (EIv (200 + 20 * a)) N S (st_pi (st_pi (st_pi (st_pi S (200 + 20 * a + 5) c x) (200 + 20 * a + 6) c y) (200 + 20 * a + 7) c z) (200 + 20 * a) 16 (nI (c + 1))) := KX_pi (KX_pi (KX_pi (KX_pi (KX_rfl _ _ _ _) (EIv_t (by omega))) (EIv_t (by omega))) (EIv_t (by omega))) (EIv_t (by omega))
  have b18 := I.2.2.1.1.2
  have b21 := I.2.2.1.2.2.2.1.2
  obtain ⟨hN, hf, c1, c2, c3, c4, c5, c6, c7, c8, c9, c10, c11, c12, c13⟩ := C
  refine ⟨by omega, hf, gS_X c1 K hN (fun k => by rfl), gX_X c2 c1 K hN (fun k => by exact EIv_f (by omega)) (fun f hf9 => by exact ev _ _ (by omega)), gO_X c3 K hN (fun k hk => by rfl), gT_X c4 K hN (by rfl) (by exact EIv_f (by omega)) (fun k => by exact EIv_f (by omega)) (by exact et _), gP_X c5 K hN (fun n k hn => by rfl) (fun n k g1 g2 => by exact EIv_f (by omega)) (fun k hk => ⟨by exact ev _ _ (by omega), by exact ev _ _ (by omega)⟩), ?_, gW_X c7 K hN (Nat.le_refl _) (fun n k hn => by rfl) (fun n k hn => by exact EIv_f (by omega)) (by exact ev _ _ (by omega)) (fun j hj => ⟨by exact et _, by exact ev _ _ (by omega), by exact ev _ _ (by omega)⟩), gA_X c8 K hN (Nat.le_refl _) (fun n k hn => by rfl) (fun n k hn => by exact EIv_f (by omega)) (by exact ev _ _ (by omega)) (fun j hj => ⟨by exact et _, by exact ev _ _ (by omega), by exact ev _ _ (by omega)⟩), gL_X c9 c1 K hN (fun n k hn => by rfl) (fun n k hn => by exact EIv_f (by omega)) (fun f k hf9 => by exact ev _ _ (by omega)), gM_X c10 K hN (fun n k hn => by exact EIv_f (by omega)) (fun f k hf9 hk9 => by exact ev _ _ (by omega)), gI1_X c11 K hN (fun n k hn => by rfl), gI2_X c12 c11 c1 K hN (fun n k hn => by exact EIv_f (by omega)) (fun f k hf9 => by exact ev _ _ (by omega)), gI3_X c13 c11 K hN (fun k => by rfl) (fun n k hn => by exact EIv_f (by omega)) I.2.2.2.2.2.2.2.2.2.1.2 (fun f k hf9 => by exact ev _ _ (by omega))⟩
  have bb := I.1.2.2.1 a ha
  have r : ∀ n k, ¬ (n = 200 + 20 * a + 5 ∧ k = c) → ¬ (n = 200 + 20 * a + 6 ∧ k = c) → ¬ (n = 200 + 20 * a + 7 ∧ k = c) → ¬ (n = 200 + 20 * a ∧ k = 16) → st_i (st_pi (st_pi (st_pi (st_pi S (200 + 20 * a + 5) c x) (200 + 20 * a + 6) c y) (200 + 20 * a + 7) c z) (200 + 20 * a) 16 (nI (c + 1))) n k = st_i S n k := fun n k h1 h2 h3 h4 => by rw [st_i_pi_n _ _ _ _ _ _ h4, st_i_pi_n _ _ _ _ _ _ h3, st_i_pi_n _ _ _ _ _ _ h2, st_i_pi_n _ _ _ _ _ _ h1]
  refine gV_A ha I c6 K hN (Nat.le_refl _) (fun n k h1 h2 => rfl) (fun n k h1 h2 => EIv_f (by omega)) (fun k => ev _ _ (by omega)) (fun f a' h1 h2 => vF_f _ _ (by omega) (by omega) (by omega) (by omega)) (fun a' _ _ j _ => ev _ _ (by omega)) (fun a' _ j _ => ⟨ev _ _ (by omega), ev _ _ (by omega)⟩) (fun a' _ j _ => ⟨vF_f _ _ (by omega) (by omega) (by omega) (by omega), vF_f _ _ (by omega) (by omega) (by omega) (by omega), vF_f _ _ (by omega) (by omega) (by omega) (by omega)⟩) (fun a' h1 h2 j h3 => ⟨et _, fun f hf => ev _ _ (by omega)⟩) (fun a' _ _ j _ => ⟨et _, ev _ _ (by omega)⟩) u fun g1 g2 g3 g4 => ⟨gV1_X g1 K (by omega) (fun k => rfl), ?_, ?_, gN_X g4 K (by omega) (Nat.le_refl _) (fun n k _ => rfl) (fun n k h1 => EIv_f (by omega)) (fun f hf => ev _ _ (by omega)) (fun j _ => ⟨et _, fun f hf => ev _ _ (by omega)⟩) (fun j _ => ⟨et _, ev _ _ (by omega)⟩) ⟨bb.1.2, bb.2.1.2⟩⟩
  · obtain ⟨h1, h2, h3, h4, h5, h6, h7, h8, h9, h10⟩ := g2
    unfold gV2
    rw [vn_e (ev 3 a (by omega)), ev 4 _ (by omega), ev 5 _ (by omega), ev 6 _ (by omega), ev 7 _ (by omega), ev 42 _ (by omega), ev 8 _ (by omega), ev 13 _ (by omega), ev 15 _ (by omega)]
    exact ⟨(r _ _ (by omega) (by omega) (by omega) (by omega)).trans h1, (r _ _ (by omega) (by omega) (by omega) (by omega)).trans h2, (r _ _ (by omega) (by omega) (by omega) (by omega)).trans h3, (r _ _ (by omega) (by omega) (by omega) (by omega)).trans h4, (r _ _ (by omega) (by omega) (by omega) (by omega)).trans h5, (r _ _ (by omega) (by omega) (by omega) (by omega)).trans h6, (r _ _ (by omega) (by omega) (by omega) (by omega)).trans h7, (r _ _ (by omega) (by omega) (by omega) (by omega)).trans h8, (r _ _ (by omega) (by omega) (by omega) (by omega)).trans h9, (st_i_pi_s _ _ _ _).trans n44.1.symm⟩
  · obtain ⟨h1, h2, h3⟩ := g3
    refine ⟨fun j hj => ?_, fun j hj => ?_, fun j hj => ?_⟩
    · rw [ev 40 _ (by omega)]; exact (r _ _ (by omega) (by omega) (by omega) (by omega)).trans (h1 j hj)
    · rw [vn_e (ev 15 _ (by omega))] at hj
      rw [ev 16 _ (by omega), vn_e (ev 17 _ (by omega))]
      exact ⟨(r _ _ (by omega) (by omega) (by omega) (by omega)).trans (h2 j hj).1, (r _ _ (by omega) (by omega) (by omega) (by omega)).trans (h2 j hj).2⟩
    · rw [n44.2] at hj
      by_cases e : j = c
      · rw [e, n45, n46, n47]
        refine ⟨?_, ?_, ?_⟩
        · rw [st_i_pi_n _ _ _ _ _ _ (by omega), st_i_pi_n _ _ _ _ _ _ (by omega), st_i_pi_n _ _ _ _ _ _ (by omega), st_i_pi_s]
        · rw [st_i_pi_n _ _ _ _ _ _ (by omega), st_i_pi_n _ _ _ _ _ _ (by omega), st_i_pi_s]
        · rw [st_i_pi_n _ _ _ _ _ _ (by omega), st_i_pi_s]
      · rw [vF_f 45 _ (by omega) (by omega) (by omega) (by omega), vF_f 46 _ (by omega) (by omega) (by omega) (by omega), vF_f 47 _ (by omega) (by omega) (by omega) (by omega)]
        have w := h3 j (by omega)
        exact ⟨(r _ _ (by omega) (by omega) (by omega) (by omega)).trans w.1, (r _ _ (by omega) (by omega) (by omega) (by omega)).trans w.2.1, (r _ _ (by omega) (by omega) (by omega) (by omega)).trans w.2.2⟩
def hfl (V : VV) (a : Nat) (x : Int32) : Nat → Bool
  | 0 => false
  | k + 1 => hfl V a x k || decide (V 45 (3 * a + k) = x)
theorem hfl_t {V : VV} {a : Nat} {x : Int32} {i : Nat} (h : hfl V a x i = true) : ∀ d, hfl V a x (i + d) = true := by
  intro d
  induction d with
  | zero => exact h
  | succ d ih => show (hfl V a x (i + d) || _) = true; rw [ih]; rfl
theorem c_hasFile {S : xm_S} {V : VV} {a b : Nat} {x : Int32} {g : Int32 → xm_S → Prop} (I : Iv V) (ha : a < 24) (g1 : gV1 S b) (g2 : gV2 S V a b) (g3 : gV3 S V a b) (h : g (bI (hfl V a x (vn V 44 a))) S) : wp_X10_hasFileAt b x S g := by
  have q := (I.1.2.2.1 a ha).2.2.2
  have q2 := q.2
  unfold wp_X10_hasFileAt wp_X10_hasFileAt_2
  intro Z hZ
  have H : ∀ d k, k + d = vn V 44 a → hfl V a x k = false → Z x (nI k) S := by
    intro d
    induction d with
    | zero =>
      intro k hk hf
      refine hZ _ _ _ ?_
      unfold wp_X10_hasFileAt_2B
      rw [g2.2.2.2.2.2.2.2.2.2, q.1]
      rw [show k = vn V 44 a by omega] at hf ⊢
      rw [hf] at h
      exact ⟨g1.1, fun _ => h, fun e => absurd (nI_le (Nat.le_refl _) (by omega)) e⟩
    | succ d ih =>
      intro k hk hf
      have e5 : hfl V a x (k + 1) = decide (V 45 (3 * a + k) = x) := by show (hfl V a x k || _) = _; rw [hf, Bool.false_or]
      have w := (g3.2.2 k (by omega)).1
      refine hZ _ _ _ ?_
      unfold wp_X10_hasFileAt_2B
      rw [g2.2.2.2.2.2.2.2.2.2, q.1, nI_clamp (show k < 2 ^ 31 by omega)]
      refine ⟨g1.1, fun e => absurd e (nI_ge (show k < vn V 44 a by omega) (by omega)), fun _ => ⟨_, g1.2.2.2.2.2.2.2.2.2.1, _, g1.2.2.2.2.2.2.2.2.2.2.1, vp_in_nI (show k < 3 by omega) (by decide), ?_⟩⟩
      rw [w]
      refine ⟨fun e y ey => ?_, fun e => ?_⟩
      · rw [ey, nI_1]
        exact ih (k + 1) (by omega) (by rw [e5]; exact decide_eq_false e)
      · have := hfl_t (show hfl V a x (k + 1) = true by rw [e5]; exact decide_eq_true e) d
        rw [show k + 1 + d = vn V 44 a by omega] at this
        rw [this] at h
        exact h
  exact H (vn V 44 a) 0 (by omega) rfl
theorem m_hasFile {S : xm_S} {W : VV} {a : Nat} {x : Int32} {g : Int32 → xm_S → Prop} (M : MR S W) (I : Iv W) (ha : a < 24) (h : g (bI (hfl W a x (vn W 44 a))) S) : wp_X12_hasFile 1000 (nI a) x S g := by
  have q := (I.1.2.2.1 a ha).2.2.2
  have q2 := q.2
  unfold wp_X12_hasFile wp_X12_hasFile_7
  intro y14 e14 Z hZ
  rw [pk_mul] at e14
  subst e14
  have H : ∀ d k, k + d = vn W 44 a → Z (nI a) x (bI (hfl W a x k)) (nI (3 * a + k)) S := by
    intro d
    induction d with
    | zero =>
      intro k hk
      refine hZ _ _ _ _ _ ?_
      unfold wp_X12_hasFile_7B
      refine ⟨M.1.1, _, MS_r M.1 44, _, MS_t M.1 44, vp_in_nI (show a < 24 by omega) (by decide), ?_⟩
      rw [nI_clamp (show a < 2 ^ 31 by omega), show st_i S (1001 + 44) a = nI (vn W 44 a) from (M.2.2 44 _ rfl).trans q.1, pk_mul, nI_add, show k = vn W 44 a by omega]
      exact ⟨fun _ => ⟨bI_01 _, h⟩, fun e => absurd (nI_le (Nat.le_refl _) (by omega)) e⟩
    | succ d ih =>
      intro k hk
      refine hZ _ _ _ _ _ ?_
      have ih := ih (k + 1) (by omega)
      have e5 : hfl W a x (k + 1) = (hfl W a x k || decide (W 45 (3 * a + k) = x)) := rfl
      rw [e5] at ih
      unfold wp_X12_hasFile_7B wp_X12_hasFile_37 wp_X12_hasFile_42
      refine ⟨M.1.1, _, MS_r M.1 44, _, MS_t M.1 44, vp_in_nI (show a < 24 by omega) (by decide), ?_⟩
      rw [nI_clamp (show a < 2 ^ 31 by omega), show st_i S (1001 + 44) a = nI (vn W 44 a) from (M.2.2 44 _ rfl).trans q.1, pk_mul, nI_add]
      refine ⟨fun e => absurd e (nI_ge (show 3 * a + k < 3 * a + vn W 44 a by omega) (by omega)), fun _ => bI_c' (fun b y ey => ?_) (fun b => ⟨_, MS_r M.1 45, _, MS_t M.1 45, vp_in_nI (show 3 * a + k < 72 by omega) (by decide), ?_⟩)⟩
      · rw [ey, nI_1, show (1 : Int32) = bI true from rfl]
        rw [b, Bool.true_or] at ih
        exact ih
      · rw [nI_clamp (by omega), show st_i S (1001 + 45) (3 * a + k) = W 45 (3 * a + k) from M.2.2 45 _ rfl]
        rw [b, Bool.false_or] at ih
        refine ⟨fun e y ey => ?_, fun e y ey => ?_⟩
        · rw [ey, nI_1, show (0 : Int32) = bI false from rfl]
          rw [decide_eq_false e] at ih; exact ih
        · rw [ey, nI_1, show (1 : Int32) = bI true from rfl]
          rw [decide_eq_true e] at ih; exact ih
  exact H (vn W 44 a) 0 (by omega)
def fl_2 (V : VV) (a : Nat) (x y : Int32) : Bool := inB x 0 (nI 15) && (inB y 0 (nI 999) && !(hfl V a x (vn V 44 a)))
def t_file (V : VV) (p v x y : Int32) : Nat := if isV V p v then (if fl_2 V (at_ p v) x y then (if V 44 (at_ p v) < nI 3 then 0 else 3) else 2) else 1
def v_file (V : VV) (p v x y : Int32) (z : Bool) : VV := if t_file V p v x y = 0 then vF V (at_ p v) (vn V 44 (at_ p v)) x y (bI z) else V
def r_file (V : VV) (p v : Int32) : Int32 := nI (vn V 44 (at_ p v) + 1)
theorem v_file_54 {V : VV} {p v x y : Int32} {z : Bool} : v_file V p v x y z 54 0 = V 54 0 := by
  unfold v_file
  split
  · exact vF_f _ _ (by omega) (by omega) (by omega) (by omega)
  · rfl
theorem fl_x {V : VV} {p v x y : Int32} (I : Iv V) (h : t_file V p v x y = 0) : ∃ i j, i < 6 ∧ j < vn V 2 i ∧ vn V 2 i ≤ 4 ∧ p = nI i ∧ v = nI j ∧ vn V 44 (4 * i + j) < 3 ∧ (∃ n, n ≤ 15 ∧ x = nI n) ∧ ∃ n, n ≤ 999 ∧ y = nI n := by
  unfold t_file at h
  by_cases h1 : isV V p v = true
  · rw [if_pos h1] at h
    by_cases h2 : fl_2 V (at_ p v) x y = true
    · rw [if_pos h2] at h
      by_cases h3 : V 44 (at_ p v) < nI 3
      · unfold fl_2 at h2
        rw [Bool.and_eq_true, Bool.and_eq_true] at h2
        obtain ⟨i, j, hi, hj, hc, ei, ej⟩ := isV_nI I h1
        refine ⟨i, j, hi, hj, hc, ei, ej, ?_, inB_nI h2.1 (by decide), inB_nI h2.2.1 (by decide)⟩
        unfold at_ at h3
        rw [ei, ej, nI_clamp (by omega), nI_clamp (by omega)] at h3
        have q := (I.1.2.2.1 (4 * i + j) (by omega)).2.2.2
        have q2 := q.2
        rw [q.1, nI_ltI (by omega) (by decide)] at h3
        exact h3
      · rw [if_neg h3] at h; exact absurd h (by decide)
    · rw [if_neg h2] at h; exact absurd h (by decide)
  · rw [if_neg h1] at h; exact absurd h (by decide)
theorem Iv_file {V : VV} {p v x y : Int32} {z : Bool} (I : Iv V) : Iv (v_file V p v x y z) := by
  unfold v_file
  split
  next h =>
    obtain ⟨i, j, hi, hj, hc, ei, ej, c4, hx, hy⟩ := fl_x I h
    unfold at_
    rw [ei, ej, nI_clamp (by omega), nI_clamp (by omega)]
    exact Iv_vF I (by omega) (used_of hj hc) rfl c4 hx hy ⟨z, rfl⟩
  · exact I
theorem w_file {S : xm_S} {V W : VV} {N : Nat} {p v x y : Int32} {z : Bool} {g : Int32 → xm_S → Prop} (R : RR S V W N) (I : Iv V) (h : ∀ S' N', RR S' (v_file V p v x y z) W N' → (t_file V p v x y = 0 → st_l S' 1200 0 = (r_file V p v).toInt64) → g (nI (t_file V p v x y)) S') : wp_L_file (some 1) p v x y (bI z) (some 1200) S g := by
  have I' := Iv_file (p := p) (v := v) (x := x) (y := y) (z := z) I
  have c1 := R.1.2.2.1
  have T1 : isV V p v = false → g 1 S := fun q => by
    have t : t_file V p v x y = 1 := by unfold t_file; rw [if_neg (by rw [q]; decide)]
    have w : v_file V p v x y z = V := by unfold v_file; rw [if_neg (by rw [t]; decide)]
    rw [t, w] at h
    exact h S N R (fun e => absurd e (by decide))
  unfold wp_L_file wp_X11_file
  refine ⟨1, rfl, c1.1, c1.1, q_ver R.1 (fun a => ?_) (fun a => .inl ⟨rfl, T1 a⟩)⟩
  have T2 : fl_2 V (at_ p v) x y = false → g 2 S := fun q => by
    have t : t_file V p v x y = 2 := by unfold t_file; rw [if_pos a, if_neg (by rw [q]; decide)]
    have w : v_file V p v x y z = V := by unfold v_file; rw [if_neg (by rw [t]; decide)]
    rw [t, w] at h
    exact h S N R (fun e => absurd e (by decide))
  refine q_range (fun d => q_range (fun e => ⟨c1.1, ?_⟩) (fun e => .inr (.inl ⟨rfl, T2 (by unfold fl_2; rw [e]; simp)⟩))) (fun d => .inr (.inl ⟨rfl, T2 (by unfold fl_2; rw [d]; simp)⟩))
  obtain ⟨i, j, hi, hj, hc, ei, ej⟩ := isV_nI I a
  subst ei ej
  have ci : (nI i).toNatClampNeg = i := nI_clamp (by omega)
  have cj : (nI j).toNatClampNeg = j := nI_clamp (by omega)
  have ea : at_ (nI i) (nI j) = 4 * i + j := by unfold at_; rw [ci, cj]
  have d4 := gS_4 c1
  have P := CR_gP R.1 i hi
  have vj := CR_ver R.1 I hi hj
  have q8 := (I.1.2.2.1 (4 * i + j) (by omega)).2.2.2
  have q82 := q8.2
  have t1 := vj.2.1
  have x16 := vj.2.2.1.2.2.2.2.2.2.2.2.2
  rw [ea] at T2
  rw [ci, cj]
  refine ⟨4, d4.1, _, d4.2, vp_in_nI (show i < 6 by omega) (by decide), _, P.2.1, P.1, _, P.2.2.1, _, P.2.2.2.1, vp_in_nI (show j < 4 by omega) (by decide), _, vj.1, t1.1, c_hasFile I (by omega) t1 vj.2.2.1 vj.2.2.2.1 (bI_c (fun f => .inr (.inl ⟨rfl, T2 (by unfold fl_2; rw [f]; simp)⟩)) (fun f => ?_))⟩
  have n2 : fl_2 V (4 * i + j) x y = true := by unfold fl_2; rw [d, e, f]; rfl
  have T : t_file V (nI i) (nI j) x y = if V 44 (4 * i + j) < nI 3 then 0 else 3 := by unfold t_file; rw [if_pos a, ea, if_pos n2]
  rw [vj.1]
  refine ⟨_, rfl, t1.1, ?_⟩
  rw [x16]
  refine q_room (fun h8 => ⟨_, rfl, t1.1, ?_⟩) (fun h8 => .inr (.inr ⟨rfl, ?_⟩))
  · have t : t_file V (nI i) (nI j) x y = 0 := by rw [T, if_pos h8]
    have w : v_file V (nI i) (nI j) x y z = vF V (4 * i + j) (vn V 44 (4 * i + j)) x y (bI z) := by unfold v_file; rw [if_pos t, ea]
    rw [t, w] at h
    rw [w] at I'
    unfold r_file at h
    rw [ea] at h
    have h8' : vn V 44 (4 * i + j) < 3 := by rw [q8.1, nI_ltI (by omega) (by decide)] at h8; exact h8
    unfold wp_X10_addFile wp_X10_addFile_48
    rw [x16, q8.1]
    refine ⟨t1.1, fun q => absurd q (nI_ge h8' (by decide)), fun _ => ⟨_, t1.2.2.2.2.2.2.2.2.2.1, _, t1.2.2.2.2.2.2.2.2.2.2.1, vp_in_nI h8' (by decide), fun S7 e7 => ?_⟩⟩
    rw [nI_clamp (by omega)] at e7
    have x7 : st_i S7 (200 + 20 * (4 * i + j)) 16 = nI (vn V 44 (4 * i + j)) := by rw [e7, st_i_pi_n _ _ _ _ _ _ (by omega), x16, q8.1]
    refine ⟨_, by rw [e7]; exact t1.2.2.2.2.2.2.2.2.2.2.2.1, _, by rw [e7]; exact t1.2.2.2.2.2.2.2.2.2.2.2.2.1, by rw [x7]; exact vp_in_nI h8' (by decide), fun S14 e14 => ?_⟩
    rw [x7, nI_clamp (by omega)] at e14
    have x14 : st_i S14 (200 + 20 * (4 * i + j)) 16 = nI (vn V 44 (4 * i + j)) := by rw [e14, st_i_pi_n _ _ _ _ _ _ (by omega), x7]
    refine ⟨_, by rw [e14, e7]; exact t1.2.2.2.2.2.2.2.2.2.2.2.2.2.1, _, by rw [e14, e7]; exact t1.2.2.2.2.2.2.2.2.2.2.2.2.2.2.1, by rw [x14]; exact vp_in_nI h8' (by decide), bI_01 _, fun S22 e22 => ?_⟩
    rw [x14, nI_clamp (by omega)] at e22
    have x22 : st_i S22 (200 + 20 * (4 * i + j)) 16 = nI (vn V 44 (4 * i + j)) := by rw [e22, st_i_pi_n _ _ _ _ _ _ (by omega), x14]
    intro S24 e24
    rw [x22, nI_1] at e24
    refine ⟨_, rfl, by rw [e24, e22, e14, e7]; exact t1.1, ?_⟩
    rw [show st_i S24 (200 + 20 * (4 * i + j)) 16 = nI (vn V 44 (4 * i + j) + 1) by rw [e24, st_i_pi_s]]
    have R24 : RR S24 (vF V (4 * i + j) (vn V 44 (4 * i + j)) x y (bI z)) W N := by
      rw [e24, e22, e14, e7]
      exact ⟨CR_vF (by omega) (used_of hj hc) rfl h8' R.1 I, MR_K R.2.1 (KM_pi (KM_pi (KM_pi (KM_pi (KM_rfl _) (by omega)) (by omega)) (by omega)) (by omega)), R.2.2⟩
    exact w_out R24 I' fun S' R' hl => h S' N R' (fun _ => hl)
  · have t : t_file V (nI i) (nI j) x y = 3 := by rw [T, if_neg h8]
    have w : v_file V (nI i) (nI j) x y z = V := by unfold v_file; rw [if_neg (by rw [t]; decide)]
    rw [t, w] at h
    exact h S N R (fun e => absurd e (by decide))
theorem ml_file {S : xm_S} {V W : VV} {N : Nat} {p v x y : Int32} {z : Bool} {g : Int32 → xm_S → Prop} (R : RR S V W N) (I : Iv V) (IW : Iv W) (h : ∀ S' b, RR S' V (v_file W p v x y z) N → st_i S' 1000 0 = nI (t_file W p v x y) → (t_file W p v x y = 0 → b = r_file W p v) → st_l S' 1200 0 = st_l S 1200 0 → g b S') : wp_X12_file 1000 p v x y (bI z) S g := by
  have X : ∀ (t : Nat) x9, t_file W p v x y = t → t ≠ 0 → t < 100 → wp_X12_file_103 1000 x y (bI z) x9 (nI t) (some 1000) S g := fun t x9 et h0 ht => by
    have w : v_file W p v x y z = W := by unfold v_file; rw [if_neg (by rw [et]; exact h0)]
    rw [w, et] at h
    unfold wp_X12_file_103
    refine ⟨1000, rfl, R.2.1.1.1, m_may (t := t) R I rfl ht fun S4 R4 k4 e4 => ⟨fun e => absurd e ?_, fun _ => ?_⟩⟩
    · rw [decide_eq_false h0]; exact fun e => e rfl
    · exact h S4 _ R4 e4 (fun e => absurd e h0) ((k4 1200 (by omega)).2.2.1 0)
  unfold wp_X12_file
  refine ⟨R.2.1.1.1, m_ver R.2.1 IW (bI_c (fun a => ?_) (fun a => ?_))⟩
  · obtain ⟨i, j, hi, hj, hc, ei, ej⟩ := isV_nI IW a
    subst ei ej
    have ci : (nI i).toNatClampNeg = i := nI_clamp (by omega)
    have cj : (nI j).toNatClampNeg = j := nI_clamp (by omega)
    have ea : at_ (nI i) (nI j) = 4 * i + j := by unfold at_; rw [ci, cj]
    have q8 := (IW.1.2.2.1 (4 * i + j) (by omega)).2.2.2
    have q82 := q8.2
    have M1 := R.2.1
    have X2 : fl_2 W (4 * i + j) x y = false → wp_X12_file_65 1000 x y (bI z) 1 (nI (4 * i + j)) S g := fun q => by
      have t : t_file W (nI i) (nI j) x y = 2 := by unfold t_file; rw [if_pos a, ea, if_neg (by rw [q]; decide)]
      unfold wp_X12_file_65 wp_X12_file_66
      exact ⟨fun _ => ⟨fun e => absurd rfl e, fun _ => X 2 _ t (by decide) (by decide)⟩, fun e => absurd e (by decide)⟩
    unfold wp_X12_file_22
    rw [a, bI_t, pk_mul, nI_add]
    refine ⟨fun e => absurd e (by decide), fun _ => m_in (bI_c (fun d => m_in (bI_c (fun e => ⟨M1.1.1, m_hasFile M1 IW (by omega) (bI_c' (fun f => X2 (by unfold fl_2; rw [f]; simp)) (fun f => ?_))⟩) (fun e => X2 (by unfold fl_2; rw [e]; simp)))) (fun d => X2 (by unfold fl_2; rw [d]; simp)))⟩
    have n2 : fl_2 W (4 * i + j) x y = true := by unfold fl_2; rw [d, e, f]; rfl
    have T : t_file W (nI i) (nI j) x y = if W 44 (4 * i + j) < nI 3 then 0 else 3 := by unfold t_file; rw [if_pos a, ea, if_pos n2]
    unfold wp_X12_file_66
    rw [nI_clamp (show 4 * i + j < 2 ^ 31 by omega)]
    refine ⟨fun _ => ⟨fun _ => ⟨M1.1.1, _, MS_r M1.1 44, _, MS_t M1.1 44, vp_in_nI (show 4 * i + j < 24 by omega) (by decide), ?_⟩, fun e => absurd e (by decide)⟩, fun e => absurd e (by decide)⟩
    rw [show st_i S (1001 + 44) (4 * i + j) = W 44 (4 * i + j) from M1.2.2 44 _ rfl, q8.1, nI_eq (by omega) (by decide)]
    have lt : W 44 (4 * i + j) < nI 3 ↔ vn W 44 (4 * i + j) < 3 := by rw [q8.1, nI_ltI (by omega) (by decide)]
    refine ⟨fun h8 => ?_, fun h8 => X 3 _ (by rw [T, if_neg (fun hh => by have := lt.mp hh; omega)]) (by decide) (by decide)⟩
    have h8' : vn W 44 (4 * i + j) < 3 := by omega
    have t : t_file W (nI i) (nI j) x y = 0 := by rw [T, if_pos (lt.mpr h8')]
    have w : v_file W (nI i) (nI j) x y z = vF W (4 * i + j) (vn W 44 (4 * i + j)) x y (bI z) := by unfold v_file; rw [if_pos t, ea]
    rw [t, w] at h
    unfold r_file at h
    rw [ea] at h
    unfold wp_X12_file_103
    refine ⟨1000, rfl, M1.1.1, m_may (t := 0) R I rfl (by decide) fun S4 R4 k4 e4 => ⟨fun _ => ?_, fun e => absurd e (by decide)⟩⟩
    have M4 := R4.2.1
    rw [nI_clamp (show 4 * i + j < 2 ^ 31 by omega)]
    refine ⟨M4.1.1, _, MS_r M4.1 44, _, MS_t M4.1 44, vp_in_nI (show 4 * i + j < 24 by omega) (by decide), fun y12 e12 => ?_⟩
    rw [show st_i S4 (1001 + 44) (4 * i + j) = nI (vn W 44 (4 * i + j)) from (M4.2.2 44 _ rfl).trans q8.1, pk_mul, nI_add] at e12
    subst e12
    rw [nI_clamp (show 3 * (4 * i + j) + vn W 44 (4 * i + j) < 2 ^ 31 by omega)]
    refine ⟨_, MS_r M4.1 45, _, MS_t M4.1 45, vp_in_nI (show 3 * (4 * i + j) + vn W 44 (4 * i + j) < 72 by omega) (by decide), fun S19 e19 => ?_⟩
    have M19 := MR_a (f := 45) (k := 3 * (4 * i + j) + vn W 44 (4 * i + j)) (x := x) M4
    rw [← e19] at M19
    refine ⟨_, MS_r M19.1 46, _, MS_t M19.1 46, vp_in_nI (show 3 * (4 * i + j) + vn W 44 (4 * i + j) < 72 by omega) (by decide), fun S26 e26 => ?_⟩
    have M26 := MR_a (f := 46) (k := 3 * (4 * i + j) + vn W 44 (4 * i + j)) (x := y) M19
    rw [← e26] at M26
    refine ⟨_, MS_r M26.1 47, _, MS_t M26.1 47, vp_in_nI (show 3 * (4 * i + j) + vn W 44 (4 * i + j) < 72 by omega) (by decide), bI_01 _, fun S34 e34 => ?_⟩
    have M34 := MR_a (f := 47) (k := 3 * (4 * i + j) + vn W 44 (4 * i + j)) (x := bI z) M26
    rw [← e34] at M34
    refine ⟨_, MS_r M34.1 44, _, MS_t M34.1 44, vp_in_nI (show 4 * i + j < 24 by omega) (by decide), _, MS_r M34.1 44, _, MS_t M34.1 44, vp_in_nI (show 4 * i + j < 24 by omega) (by decide), fun S46 e46 => ?_⟩
    rw [show st_i S34 (1001 + 44) (4 * i + j) = nI (vn W 44 (4 * i + j)) from (M34.2.2 44 _ rfl).trans ((uV_n _ _ _ _ _ _ (by omega)).trans ((uV_n _ _ _ _ _ _ (by omega)).trans ((uV_n _ _ _ _ _ _ (by omega)).trans q8.1))), nI_1] at e46
    have M46 := MR_a (f := 44) (k := 4 * i + j) (x := nI (vn W 44 (4 * i + j) + 1)) M34
    rw [← e46] at M46
    have k46 : KC S4 S46 := by rw [e46, e34, e26, e19]; exact KC_pi (KC_pi (KC_pi (KC_pi (KC_rfl _) (by omega)) (by omega)) (by omega)) (by omega)
    refine ⟨_, MS_r M46.1 44, _, MS_t M46.1 44, vp_in_nI (show 4 * i + j < 24 by omega) (by decide), ?_⟩
    refine h S46 _ (RR_m R4 I k46 M46) ?_ (fun _ => ?_) ((KC_tr k4 k46 1200 (by omega)).2.2.1 0)
    · rw [e46, st_i_pi_n _ _ _ _ _ _ (by omega), e34, st_i_pi_n _ _ _ _ _ _ (by omega), e26, st_i_pi_n _ _ _ _ _ _ (by omega), e19, st_i_pi_n _ _ _ _ _ _ (by omega)]; exact e4
    · rw [e46, st_i_pi_s]
  · have t : t_file W p v x y = 1 := by unfold t_file; rw [if_neg (by rw [a]; decide)]
    rw [a, bI_f]
    unfold wp_X12_file_22 wp_X12_file_65 wp_X12_file_66
    exact ⟨fun _ => ⟨fun e => absurd rfl e, fun _ => X 1 _ t (by decide) (by decide)⟩, fun e => absurd rfl e⟩
theorem lc_file {m b len kc ks N : Nat} {xs : Nat → Int32} {x4 : Int32} {S : xm_S} {V : VV} {g : Int32 → xm_S → Prop} {Z : Option Nat → Option Nat → Option Nat → Int32 → xm_S → Nat → Nat → Prop} (R : RR S V V N) (I : Iv V) (hm : vn V 54 0 ≤ m) (nx : NX m b len xs x4 kc ks g Z) (hv1 : vp_in (x4 + (1 : Int32)) len) (hv2 : vp_in (x4 + nI 2) len) (hv3 : vp_in (x4 + nI 3) len) (hv4 : vp_in (x4 + nI 4) len) (hv5 : vp_in (x4 + nI 5) len) : wp_L_law_2293 b len xs (some 1) (some 1000) (some 1200) x4 S kc ks g Z := by
  obtain ⟨k1, k2, nx⟩ := nx
  unfold wp_L_law_2293
  refine ⟨hv1, hv2, hv3, hv4, hv5, b_arg _ (P := fun q => wp_L_law_2332 b len xs (some 1) (some 1000) (some 1200) x4 q (xs ((x4 + (nI 4))).toNatClampNeg) (xs ((x4 + (nI 3))).toNatClampNeg) (xs ((x4 + (nI 2))).toNatClampNeg) (xs ((x4 + (1 : Int32))).toNatClampNeg) (some 1) S kc ks g Z) ?_⟩
  unfold wp_L_law_2332
  refine ⟨by omega, by omega, w_file R I fun S1 N1 R1 h1 => ⟨hv1, hv2, hv3, hv4, hv5, b_arg _ (P := fun q => wp_L_law_2377 b len xs (some 1) (some 1000) (some 1200) x4 (nI (t_file V (xs ((x4 + (1 : Int32))).toNatClampNeg) (xs ((x4 + (nI 2))).toNatClampNeg) (xs ((x4 + (nI 3))).toNatClampNeg) (xs ((x4 + (nI 4))).toNatClampNeg))) q (xs ((x4 + (nI 4))).toNatClampNeg) (xs ((x4 + (nI 3))).toNatClampNeg) (xs ((x4 + (nI 2))).toNatClampNeg) (xs ((x4 + (1 : Int32))).toNatClampNeg) (some 1000) S1 (kc + 5) (ks + 30) g Z) ?_⟩⟩
  unfold wp_L_law_2377 wp_L_law_2410
  refine ⟨1000, rfl, R1.2.1.1.1, by omega, by omega, ml_file R1 (Iv_file I) I fun S2 r R2 e2 hb hl => ⟨1000, rfl, R2.2.1.1.1, by omega, by omega, m_thrown R2.2.1 e2 ?_⟩⟩
  exact lc_cmp R2.2.2 (by unfold t_file; repeat' split
                          all_goals decide) (fun e => hl.trans (h1 e)) hb (nx _ _ _ _ _ R2 (Iv_file I) (md v_file_54 hm) (by omega) (by omega))
