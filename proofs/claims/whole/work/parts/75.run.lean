-- generations: run, rollback
def plk (V : VV) (x : Int32) : Nat → Option Nat
  | 0 => none
  | k + 1 => if V 57 k = x then some k else plk V x k
theorem plk_n {V : VV} {x : Int32} : ∀ n, (∀ i, i < n → V 57 i ≠ x) → plk V x n = none := by
  intro n
  induction n with
  | zero => intro _; rfl
  | succ n ih => intro h; unfold plk; rw [if_neg (h n (by omega))]; exact ih fun i hi => h i (by omega)
theorem plk_s {V : VV} {x : Int32} {k : Nat} (e : V 57 k = x) : ∀ n, k < n → (∀ i, i < n → i ≠ k → V 57 i ≠ x) → plk V x n = some k := by
  intro n
  induction n with
  | zero => intro h; omega
  | succ n ih =>
    intro hk h
    unfold plk
    by_cases e2 : n = k
    · rw [e2, if_pos e]
    · rw [if_neg (h n (by omega) e2)]
      exact ih (by omega) fun i hi hne => h i (by omega) hne
theorem plk_x {V : VV} {x : Int32} {k : Nat} : ∀ n, plk V x n = some k → k < n ∧ V 57 k = x := by
  intro n
  induction n with
  | zero => intro h; cases h
  | succ n ih =>
    intro h
    unfold plk at h
    by_cases e : V 57 n = x
    · rw [if_pos e] at h
      have := Option.some.inj h
      subst this
      exact ⟨by omega, e⟩
    · rw [if_neg e] at h
      have := ih h
      exact ⟨by omega, this.2⟩
/-- numbers of those that are kept are apart -/
theorem k57_ne {V : VV} (I : Iv V) {i j : Nat} (hi : i < vn V 56 0) (hj : j < vn V 56 0) (hne : i ≠ j) : V 57 i ≠ V 57 j := by
  have G := I.2.2.2.2.2.2.2.2.2.2
  have a := (G.1 i hi).1
  have b := (G.1 j hj).1
  have a2 := a.2
  have b2 := b.2
  rw [a.1, b.1]
  intro e
  rw [nI_eq (by omega) (by omega)] at e
  rcases Nat.lt_or_ge i j with h | h
  · have := G.2 i j h hj; omega
  · have := G.2 j i (by omega) hi; omega
def kp_ (V : VV) : Nat := vn V 56 0
theorem kp_6 {V : VV} (I : Iv V) : V 56 0 = nI (kp_ V) ∧ kp_ V ≤ 6 := I.2.2.2.2.2.2.2.2.2.1
def PI3 (S : xm_S) (V : VV) (π : Nat → Nat) : Prop := (∀ i, i < 6 → π i < 6 ∧ st_r S 30 i = some (40 + 6 * π i)) ∧ (∀ i j, i < j → j < 6 → π i ≠ π j) ∧ ∀ i, i < vn V 56 0 → st_i S (40 + 6 * π i) 0 = V 57 i ∧ st_i S (40 + 6 * π i) 1 = V 58 i ∧ gMi S V (41 + 6 * π i) 59 (54 * i)
theorem PI3_ne {S : xm_S} {V : VV} {π : Nat → Nat} (h : PI3 S V π) {i j : Nat} (hi : i < 6) (hj : j < 6) (hne : i ≠ j) : π i ≠ π j := by
  rcases Nat.lt_or_ge i j with q | q
  · exact h.2.1 i j q hj
  · exact (h.2.1 j i (by omega) hi).symm
/-- the class's search for a generation -/
theorem c_keptAs {S : xm_S} {V W : VV} {N : Nat} {x : Int32} {π : Nat → Nat} {g : Option Nat → xm_S → Prop} (R : RR S V W N) (I : Iv V) (P : PI3 S V π) (h1 : ∀ k, plk V x (kp_ V) = some k → k < kp_ V → V 57 k = x → g (some (40 + 6 * π k)) S) (h0 : plk V x (kp_ V) = none → g none S) : wp_X2_keptAs 24 x S g := by
  have s := gS_24 R.1.2.2.1
  have i1 := CR_gI1 R.1
  have i2 := CR_gI2 R.1
  obtain ⟨k1, k2⟩ := kp_6 I
  unfold wp_X2_keptAs wp_X2_keptAs_2
  intro Z hZ
  have H : ∀ d k, k + d = kp_ V → (∀ i, i < k → V 57 i ≠ x) → Z x (nI k) S := by
    intro d
    induction d with
    | zero =>
      intro k hk hn
      refine hZ _ _ _ ?_
      unfold wp_X2_keptAs_2B
      rw [i2.2.1, k1, show k = kp_ V by omega]
      exact ⟨s.2, fun _ => h0 (plk_n _ fun i hi => hn i (by omega)), fun e => absurd (nI_le (Nat.le_refl _) (by omega)) e⟩
    | succ d ih =>
      intro k hk hn
      have hkk : k < vn V 56 0 := by show k < kp_ V; omega
      have p := P.1 k (by omega)
      have q := P.2.2 k hkk
      have gk := i1.2.2.2.2.2.2.2.2.2.2 (π k) p.1
      refine hZ _ _ _ ?_
      unfold wp_X2_keptAs_2B
      rw [i2.2.1, k1, nI_clamp (show k < 2 ^ 31 by omega)]
      refine ⟨s.2, fun e => absurd e (nI_ge (show k < kp_ V by omega) (by omega)), fun _ => ⟨30, i1.2.2.1, _, i1.2.2.2.1, vp_in_nI (show k < 6 by omega) (by decide), _, p.2, gk.1, ?_⟩⟩
      rw [q.1]
      refine ⟨fun e y ey => ?_, fun e => ⟨30, i1.2.2.1, _, i1.2.2.2.1, vp_in_nI (show k < 6 by omega) (by decide), ?_⟩⟩
      · rw [ey, nI_1]
        refine ih (k + 1) (by omega) fun i hi => ?_
        by_cases e2 : i = k
        · rw [e2]; exact e
        · exact hn i (by omega)
      · rw [p.2]
        exact h1 k (plk_s e _ (by omega) fun i hi hne e3 => k57_ne I (i := i) (j := k) hi hkk hne (e3.trans e.symm)) (by omega) e
  exact H (kp_ V) 0 (by omega) fun i hi => absurd hi (Nat.not_lt_zero _)
def pl_I : Option Nat → Int32
  | none => -1
  | some k => nI k
theorem m_placeKept {S : xm_S} {W : VV} {x : Int32} {g : Int32 → xm_S → Prop} (M : MR S W) (I : Iv W) (h : g (pl_I (plk W x (kp_ W))) S) : wp_X12_placeKept 1000 x S g := by
  obtain ⟨k1, k2⟩ := kp_6 I
  unfold wp_X12_placeKept wp_X12_placeKept_4
  intro Z hZ
  have H : ∀ d k, k + d = kp_ W → Z x (pl_I (plk W x k)) (nI k) S := by
    intro d
    induction d with
    | zero =>
      intro k hk
      refine hZ _ _ _ _ ?_
      unfold wp_X12_placeKept_4B
      rw [show st_i S 1000 56 = nI (kp_ W) from (M.2.1 56 rfl).trans k1, show k = kp_ W by omega]
      exact ⟨M.1.1, fun _ => h, fun e => absurd (nI_le (Nat.le_refl _) (by omega)) e⟩
    | succ d ih =>
      intro k hk
      have ih := ih (k + 1) (by omega)
      rw [show plk W x (k + 1) = if W 57 k = x then some k else plk W x k from rfl] at ih
      refine hZ _ _ _ _ ?_
      unfold wp_X12_placeKept_4B wp_X12_placeKept_27
      rw [show st_i S 1000 56 = nI (kp_ W) from (M.2.1 56 rfl).trans k1, nI_clamp (show k < 2 ^ 31 by omega)]
      refine ⟨M.1.1, fun e => absurd e (nI_ge (show k < kp_ W by omega) (by omega)), fun _ => ⟨_, MS_r M.1 57, _, MS_t M.1 57, vp_in_nI (show k < 7 by omega) (by decide), ?_⟩⟩
      rw [show st_i S (1001 + 57) k = W 57 k from M.2.2 57 _ rfl]
      refine ⟨fun e y ey => ?_, fun e y ey => ?_⟩
      · rw [ey, nI_1]; rw [if_neg e] at ih; exact ih
      · rw [ey, nI_1]; rw [if_pos e] at ih; exact ih
  exact H (kp_ W) 0 (by omega)
theorem CR_run {S : xm_S} {V : VV} {N i : Nat} {x : Int32} {π : Nat → Nat} (hi : i < 6) (P : PI3 S V π) (C : CR S V N) (I : Iv V) : CR (st_pi S (40 + 6 * π i) 1 x) (uV V 58 i x) N := by
  have p6 := (P.1 i hi).1
  have K : KX fA0 (E1 (40 + 6 * π i) 1) N S (st_pi S (40 + 6 * π i) 1 x) := KX_pi (KX_rfl _ _ _ _) (E1_t _ _)
  have et : ∀ q, eT V (uV V 58 i x) q := eT_v fun f k h => uV_n _ _ _ _ _ _ (by omega)
  have b18 := I.2.2.1.1.2
  have b21 := I.2.2.1.2.2.2.1.2
  obtain ⟨hN, hf, c1, c2, c3, c4, c5, c6, c7, c8, c9, c10, c11, c12, c13⟩ := C
  refine ⟨by omega, hf, gS_X c1 K hN (fun k => by rfl), gX_X c2 c1 K hN (fun k => by exact E1_f (by omega)) (fun f hf9 => by exact uV_n _ _ _ _ _ _ (by omega)), gO_X c3 K hN (fun k hk => by rfl), gT_X c4 K hN (by rfl) (by exact E1_f (by omega)) (fun k => by exact E1_f (by omega)) (by exact et _), gP_X c5 K hN (fun n k hn => by rfl) (fun n k g1 g2 => by exact E1_f (by omega)) (fun k hk => ⟨by exact uV_n _ _ _ _ _ _ (by omega), by exact uV_n _ _ _ _ _ _ (by omega)⟩), gV_Y I c6 K hN (Nat.le_refl _) (fun n k hn => by rfl) (fun n k hn => by exact E1_f (by omega)) (fun f k hf9 => by exact uV_n _ _ _ _ _ _ (by omega)) (fun q hq => by exact et _), gW_X c7 K hN (Nat.le_refl _) (fun n k hn => by rfl) (fun n k hn => by exact E1_f (by omega)) (by exact uV_n _ _ _ _ _ _ (by omega)) (fun j hj => ⟨by exact et _, by exact uV_n _ _ _ _ _ _ (by omega), by exact uV_n _ _ _ _ _ _ (by omega)⟩), gA_X c8 K hN (Nat.le_refl _) (fun n k hn => by rfl) (fun n k hn => by exact E1_f (by omega)) (by exact uV_n _ _ _ _ _ _ (by omega)) (fun j hj => ⟨by exact et _, by exact uV_n _ _ _ _ _ _ (by omega), by exact uV_n _ _ _ _ _ _ (by omega)⟩), gL_X c9 c1 K hN (fun n k hn => by rfl) (fun n k hn => by exact E1_f (by omega)) (fun f k hf9 => by exact uV_n _ _ _ _ _ _ (by omega)), gM_X c10 K hN (fun n k hn => by exact E1_f (by omega)) (fun f k hf9 hk9 => by exact uV_n _ _ _ _ _ _ (by omega)), gI1_X c11 K hN (fun n k hn => by rfl), gI2_X c12 c11 c1 K hN (fun n k hn => by exact E1_f (by omega)) (fun f k hf9 => by exact uV_n _ _ _ _ _ _ (by omega)), ?_⟩
  have k6 := (kp_6 I).2
  refine ⟨π, fun j hj => P.1 j hj, P.2.1, fun j hj => ?_⟩
  rw [vn_e (uV_n _ _ _ _ _ _ (by omega))] at hj
  have hj6 : j < 6 := Nat.lt_of_lt_of_le hj k6
  obtain ⟨q1, q2, q3⟩ := P.2.2 j hj
  have pj := (P.1 j hj6).1
  refine ⟨?_, ?_, ?_⟩
  · rw [st_i_pi_n _ _ _ _ _ _ (by omega), uV_n _ _ _ _ _ _ (by omega)]; exact q1
  · by_cases e : j = i
    · rw [e, st_i_pi_s, uV_s]
    · have := PI3_ne P hj6 hi e
      rw [st_i_pi_n _ _ _ _ _ _ (by omega), uV_n _ _ _ _ _ _ (by omega)]; exact q2
  · exact gMi_X q3 (c11.2.2.2.2.2.2.2.2.2.2 _ pj).2.2 K (by omega) (fun m k a b => E1_f (by omega)) (fun k hk => uV_n _ _ _ _ _ _ (by omega))
theorem Iv_58 {V : VV} {i : Nat} {y : Bool} (I : Iv V) : Iv (uV V 58 i (bI y)) := by
  have ev : ∀ f k, f ≠ 58 → uV V 58 i (bI y) f k = V f k := fun f k h => uV_n _ _ _ _ _ _ (by omega)
  have et : ∀ q, eTs V (uV V 58 i (bI y)) q := fun q => ⟨ev _ _ (by omega), fun s hs => ev _ _ (by omega)⟩
  obtain ⟨g1, g2, g3, g4, g5, g6, g7, g8⟩ := I.2.2.2.2
  refine ⟨Iv1_e I.1 fun f k h => ev f k (by omega), Iv2_e I.1 I.2.1 (fun f k h => ev f k (by omega)) fun q hq _ => et q, Iv3_e I.2.2.1 (fun f k h => ev f k (by omega)) (fun q hq _ => et q) (fun q hq => VT_e (I.2.2.1.2.2.2.2.2.2 q hq) (et q)), Iv4_e I.2.2.2.1 fun f k h => ev f k (by omega), fun k hk => ⟨Im_e (g1 k hk).1 (ev _ _ (by omega)), In_e (g1 k hk).2 (ev _ _ (by omega))⟩, fun k hk => Im_e (g2 k hk) (ev _ _ (by omega)), fun k hk => ?_, In_e g4 (ev _ _ (by omega)), Im_e g5 (ev _ _ (by omega)), In_e g6 (ev _ _ (by omega)), fun k hk => ?_, fun i j hi hj => ?_⟩
  · rw [ev 50 _ (by omega), ev 50 _ (by omega), ev 50 _ (by omega)]; exact g3 k hk
  · rw [vn_e (ev 56 _ (by omega))] at hk
    obtain ⟨a, b, c, d, f⟩ := g7 k hk
    refine ⟨In_e a (ev _ _ (by omega)), by rw [vn_e (ev 57 _ (by omega)), vn_e (ev 54 _ (by omega))]; exact b, ?_, fun j hj => Im_e (d j hj) (ev _ _ (by omega)), fun j hj => ?_⟩
    · by_cases e : k = i
      · subst e; exact In_bI (b := y) (uV_s _ _ _ _)
      · exact In_e c (uV_n _ _ _ _ _ _ (by omega))
    · rw [ev 59 _ (by omega), ev 59 _ (by omega), ev 59 _ (by omega)]
      exact f j hj
  · rw [vn_e (ev 56 _ (by omega))] at hj
    rw [vn_e (ev 57 _ (by omega)), vn_e (ev 57 _ (by omega))]
    exact g8 i j hi hj
def t_run (V : VV) (x : Int32) : Nat := match plk V x (kp_ V) with
  | none => 1
  | some _ => 0
def v_run (V : VV) (x : Int32) (y : Bool) : VV := match plk V x (kp_ V) with
  | none => V
  | some k => uV V 58 k (bI y)
def r_run (V : VV) (x : Int32) : Bool := match plk V x (kp_ V) with
  | none => false
  | some k => decide (V 58 k ≠ 0)
theorem v_run_54 {V : VV} {x : Int32} {y : Bool} : v_run V x y 54 0 = V 54 0 := by
  unfold v_run
  cases plk V x (kp_ V) with
  | none => rfl
  | some k => exact uV_n _ _ _ _ _ _ (by omega)
theorem Iv_run {V : VV} {x : Int32} {y : Bool} (I : Iv V) : Iv (v_run V x y) := by
  unfold v_run
  split
  · exact I
  · exact Iv_58 I
theorem w_run {S : xm_S} {V W : VV} {N : Nat} {x : Int32} {y : Bool} {g : Int32 → xm_S → Prop} (R : RR S V W N) (I : Iv V) (h : ∀ S' N', RR S' (v_run V x y) W N' → (t_run V x = 0 → st_l S' 1200 0 = bL (r_run V x)) → g (nI (t_run V x)) S') : wp_L_run (some 1) x (bI y) (some 1200) S g := by
  have I' := Iv_run (x := x) (y := y) I
  have c1 := R.1.2.2.1
  have s := gS_24 c1
  have i1 := CR_gI1 R.1
  obtain ⟨π, P⟩ := CR_gI3 R.1
  have P : PI3 S V π := P
  obtain ⟨k1, k2⟩ := kp_6 I
  unfold wp_L_run wp_L_run_16 wp_X11_run wp_X11_keptGeneration
  refine ⟨1, rfl, c1.1, c1.1, c1.1, 24, s.1, s.2, c_keptAs R I P (fun k e hk e57 => ⟨fun _ => ?_, fun e => absurd e (by simp)⟩) (fun e => ⟨fun hh => absurd rfl hh, fun _ => ⟨rfl, ?_⟩⟩)⟩
  · have t : t_run V x = 0 := by unfold t_run; rw [e]
    have v : v_run V x y = uV V 58 k (bI y) := by unfold v_run; rw [e]
    have r : r_run V x = decide (V 58 k ≠ 0) := by unfold r_run; rw [e]
    rw [t, v, r] at h
    rw [v] at I'
    have p := P.1 k (by omega)
    have gk := i1.2.2.2.2.2.2.2.2.2.2 (π k) p.1
    have B := In_b (I.2.2.2.2.2.2.2.2.2.2.1 k hk).2.2.1
    refine ⟨_, rfl, gk.1, _, rfl, gk.1, bI_01 _, fun S11 e11 => ?_⟩
    have R11 : RR S11 (uV V 58 k (bI y)) W N := by
      rw [e11]
      exact ⟨CR_run (by omega) P R.1 I, MR_K R.2.1 (KM_pi (KM_rfl _) (by omega)), R.2.2⟩
    rw [(P.2.2 k hk).2.1, B]
    refine ⟨bI_01 _, bI_c (fun q => ?_) (fun q => ?_)⟩
    · exact w_out R11 I' fun S' R' hl => h S' N R' (fun _ => by rw [hl, q]; rfl)
    · exact w_out R11 I' fun S' R' hl => h S' N R' (fun _ => by rw [hl, q]; rfl)
  · have t : t_run V x = 1 := by unfold t_run; rw [e]
    have v : v_run V x y = V := by unfold v_run; rw [e]
    rw [t, v] at h
    exact h S N R (fun e => absurd e (by decide))
theorem ml_run {S : xm_S} {V W : VV} {N : Nat} {x : Int32} {y : Bool} {g : Int32 → xm_S → Prop} (R : RR S V W N) (I : Iv V) (IW : Iv W) (h : ∀ S' b, RR S' V (v_run W x y) N → st_i S' 1000 0 = nI (t_run W x) → (t_run W x = 0 → b = bI (r_run W x)) → st_l S' 1200 0 = st_l S 1200 0 → g b S') : wp_X12_run 1000 x (bI y) S g := by
  obtain ⟨k1, k2⟩ := kp_6 IW
  unfold wp_X12_run wp_X12_run_17
  refine ⟨R.2.1.1.1, m_placeKept R.2.1 IW ?_⟩
  cases e : plk W x (kp_ W) with
  | none =>
    have t : t_run W x = 1 := by unfold t_run; rw [e]
    have v : v_run W x y = W := by unfold v_run; rw [e]
    rw [t, v] at h
    exact ⟨fun hh => absurd rfl hh, fun _ => ⟨1000, rfl, R.2.1.1.1, m_may (t := 1) R I rfl (by decide) fun S4 R4 k4 e4 => ⟨fun e => absurd rfl e, fun _ => h S4 _ R4 e4 (fun e => absurd e (by decide)) ((k4 1200 (by omega)).2.2.1 0)⟩⟩⟩
  | some k =>
    have hk := (plk_x _ e).1
    have t : t_run W x = 0 := by unfold t_run; rw [e]
    have v : v_run W x y = uV W 58 k (bI y) := by unfold v_run; rw [e]
    have r : r_run W x = decide (W 58 k ≠ 0) := by unfold r_run; rw [e]
    rw [t, v, r] at h
    have B := In_b (IW.2.2.2.2.2.2.2.2.2.2.1 k hk).2.2.1
    refine ⟨fun _ => ⟨1000, rfl, R.2.1.1.1, m_may (t := 0) R I rfl (by decide) fun S4 R4 k4 e4 => ⟨fun _ => ?_, fun e => absurd e (by decide)⟩⟩, fun hh => absurd hh (nI_m1 (by omega))⟩
    have M4 := R4.2.1
    rw [show pl_I (some k) = nI k from rfl, nI_clamp (by omega)]
    refine ⟨M4.1.1, _, MS_r M4.1 58, _, MS_t M4.1 58, vp_in_nI (show k < 7 by omega) (by decide), fun y12 e12 => ⟨_, MS_r M4.1 58, _, MS_t M4.1 58, vp_in_nI (show k < 7 by omega) (by decide), bI_01 _, fun S20 e20 => ?_⟩⟩
    rw [show st_i S4 (1001 + 58) k = W 58 k from M4.2.2 58 _ rfl, B] at e12
    have k20 : KC S4 S20 := by rw [e20]; exact KC_pi (KC_rfl _) (by omega)
    refine ⟨by rw [e12]; exact bI_01 _, h S20 _ (RR_m R4 I k20 (by rw [e20]; exact MR_a (f := 58) M4)) ?_ (fun _ => e12) ((KC_tr k4 k20 1200 (by omega)).2.2.1 0)⟩
    rw [e20, st_i_pi_n _ _ _ _ _ _ (by omega)]; exact e4
theorem lc_run {m b len kc ks N : Nat} {xs : Nat → Int32} {x4 : Int32} {S : xm_S} {V : VV} {g : Int32 → xm_S → Prop} {Z : Option Nat → Option Nat → Option Nat → Int32 → xm_S → Nat → Nat → Prop} (R : RR S V V N) (I : Iv V) (hm : vn V 54 0 ≤ m) (nx : NX m b len xs x4 kc ks g Z) (hv1 : vp_in (x4 + (1 : Int32)) len) (hv2 : vp_in (x4 + nI 2) len) : wp_L_law_2779 b len xs (some 1) (some 1000) (some 1200) x4 S kc ks g Z := by
  obtain ⟨k1, k2, nx⟩ := nx
  unfold wp_L_law_2779
  refine ⟨hv1, hv2, b_arg _ (P := fun q => wp_L_law_2800 b len xs (some 1) (some 1000) (some 1200) x4 q (xs ((x4 + (1 : Int32))).toNatClampNeg) (some 1) S kc ks g Z) ?_⟩
  unfold wp_L_law_2800
  refine ⟨by omega, by omega, w_run R I fun S1 N1 R1 h1 => ⟨hv1, hv2, b_arg _ (P := fun q => wp_L_law_2827 b len xs (some 1) (some 1000) (some 1200) x4 (nI (t_run V (xs ((x4 + (1 : Int32))).toNatClampNeg))) q (xs ((x4 + (1 : Int32))).toNatClampNeg) (some 1000) S1 (kc + 1) (ks + 6) g Z) ?_⟩⟩
  unfold wp_L_law_2827 wp_L_law_2861 wp_L_law_2867
  refine ⟨1000, rfl, R1.2.1.1.1, by omega, by omega, ml_run R1 (Iv_run I) I fun S2 r R2 e2 hb hl => ⟨1000, rfl, R2.2.1.1.1, by omega, by omega, m_thrown R2.2.1 e2 ?_⟩⟩
  exact lc_cmpB (C := fun v w => (lg_cmp w v = 0 → wp_L_law_2965 b len xs (some 1) (some 1000) (some 1200) x4 S2 (kc + 1) (ks + 6) g Z) ∧ (¬ lg_cmp w v = 0 → kc + 1 ≤ 601024 ∧ ks + 6 ≤ 7293034 ∧ g (0 : Int32) S2)) R2.2.2 (by unfold t_run; split <;> decide) (fun e => hl.trans (h1 e)) hb (fun _ _ q => q) (nx _ _ _ _ _ R2 (Iv_run I) (md v_run_54 hm) (by omega) (by omega))
