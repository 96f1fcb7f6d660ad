-- divert
def EId (n _k : Nat) : Bool := n == 31 || n == 32
theorem EId_f {n k : Nat} (h : n ≠ 31 ∧ n ≠ 32) : EId n k = false := by
  unfold EId
  rw [beq_eq_false_iff_ne.mpr h.1, beq_eq_false_iff_ne.mpr h.2]; rfl
def vD (V : VV) (j : Nat) (p y : Int32) : VV := uV (uV V 48 j p) 49 j y
theorem vD_f {V : VV} {j : Nat} {p y : Int32} (f k : Nat) (h1 : f ≠ 48 ∨ k ≠ j) (h2 : f ≠ 49 ∨ k ≠ j) : vD V j p y f k = V f k := (uV_n _ _ _ _ _ _ (by omega)).trans (uV_n _ _ _ _ _ _ (by omega))
theorem vD_n {V : VV} {j : Nat} {p y : Int32} : vD V j p y 48 j = p ∧ vD V j p y 49 j = y := ⟨(uV_n _ _ _ _ _ _ (by omega)).trans (uV_s _ _ _ _), uV_s _ _ _ _⟩
theorem Iv_vD {V : VV} {j : Nat} {p y : Int32} (I : Iv V) (hp : p = -1 ∨ ∃ n, n ≤ 5 ∧ p = nI n) (hy : ∃ n, n ≤ 15 ∧ y = nI n) : Iv (vD V j p y) := by
  have ev : ∀ f k, f ≠ 48 → f ≠ 49 → vD V j p y f k = V f k := fun f k h h' => vD_f f k (.inl h) (.inl h')
  have et : ∀ q, eTs V (vD V j p y) q := fun q => ⟨ev _ _ (by omega) (by omega), fun s hs => ev _ _ (by omega) (by omega)⟩
  have nn := vD_n (V := V) (j := j) (p := p) (y := y)
  obtain ⟨g1, g2, g3, g4, g5, g6, g7, g8⟩ := I.2.2.2.2
  refine ⟨Iv1_e I.1 fun f k h => ev f k (by omega) (by omega), Iv2_e I.1 I.2.1 (fun f k h => ev f k (by omega) (by omega)) fun q hq _ => et q, Iv3_e I.2.2.1 (fun f k h => ev f k (by omega) (by omega)) (fun q hq _ => et q) (fun q hq => VT_e (I.2.2.1.2.2.2.2.2.2 q hq) (et q)), Iv4_e I.2.2.2.1 fun f k h => ev f k (by omega) (by omega), fun k hk => ?_, fun k hk => Im_e (g2 k hk) (ev _ _ (by omega) (by omega)), fun k hk => ?_, In_e g4 (ev _ _ (by omega) (by omega)), Im_e g5 (ev _ _ (by omega) (by omega)), In_e g6 (ev _ _ (by omega) (by omega)), fun k hk => ?_, fun i j hi hj => ?_⟩
  · by_cases e : k = j
    · rw [e]
      obtain ⟨m, l, ey⟩ := hy
      refine ⟨?_, (In_nI (n := m) (nn.2.trans ey) l (by omega)).1⟩
      rcases hp with h | ⟨n, ln, h⟩
      · exact .inl (nn.1.trans h)
      · exact .inr (In_nI (n := n) (nn.1.trans h) ln (by omega)).1
    · exact ⟨Im_e (g1 k hk).1 (vD_f _ _ (.inr e) (.inr e)), In_e (g1 k hk).2 (vD_f _ _ (.inr e) (.inr e))⟩
  · rw [ev 50 _ (by omega) (by omega), ev 50 _ (by omega) (by omega), ev 50 _ (by omega) (by omega)]; exact g3 k hk
  · rw [vn_e (ev 56 _ (by omega) (by omega))] at hk
    obtain ⟨a, b, c, d, f⟩ := g7 k hk
    refine ⟨In_e a (ev _ _ (by omega) (by omega)), by rw [vn_e (ev 57 _ (by omega) (by omega)), vn_e (ev 54 _ (by omega) (by omega))]; exact b, In_e c (ev _ _ (by omega) (by omega)), fun j hj => Im_e (d j hj) (ev _ _ (by omega) (by omega)), fun j hj => ?_⟩
    rw [ev 59 _ (by omega) (by omega), ev 59 _ (by omega) (by omega), ev 59 _ (by omega) (by omega)]
    exact f j hj
  · rw [vn_e (ev 56 _ (by omega) (by omega))] at hj
    rw [vn_e (ev 57 _ (by omega) (by omega)), vn_e (ev 57 _ (by omega) (by omega))]
    exact g8 i j hi hj
theorem CR_vD {S : xm_S} {V : VV} {N j : Nat} {p y z : Int32} (hj : j < 16) (hz : p ≠ -1 → z = y) (C : CR S V N) (I : Iv V) : CR (st_pi (st_pi S 31 j p) 32 j z) (vD V j p y) N := by
  have ev : ∀ f k, f ≠ 48 → f ≠ 49 → vD V j p y f k = V f k := fun f k h h' => vD_f f k (.inl h) (.inl h')
  have et : ∀ q, eT V (vD V j p y) q := eT_v fun f k h => ev _ _ (by omega) (by omega)
  have nn := vD_n (V := V) (j := j) (p := p) (y := y)
  have K : KX fA0 EId N S (st_pi (st_pi S 31 j p) 32 j z) := KX_pi (KX_pi (KX_rfl _ _ _ _) rfl) rfl
  have b18 := I.2.2.1.1.2
  have b21 := I.2.2.1.2.2.2.1.2
  obtain ⟨hN, hf, c1, c2, c3, c4, c5, c6, c7, c8, c9, c10, c11, c12, c13⟩ := C
  refine ⟨by omega, hf, gS_X c1 K hN (fun k => by rfl), gX_X c2 c1 K hN (fun k => by exact EId_f (by omega)) (fun f hf9 => by exact ev _ _ (by omega) (by omega)), gO_X c3 K hN (fun k hk => by rfl), gT_X c4 K hN (by rfl) (by exact EId_f (by omega)) (fun k => by exact EId_f (by omega)) (by exact et _), gP_X c5 K hN (fun n k hn => by rfl) (fun n k g1 g2 => by exact EId_f (by omega)) (fun k hk => ⟨by exact ev _ _ (by omega) (by omega), by exact ev _ _ (by omega) (by omega)⟩), gV_Y I c6 K hN (Nat.le_refl _) (fun n k hn => by rfl) (fun n k hn => by exact EId_f (by omega)) (fun f k hf9 => by exact ev _ _ (by omega) (by omega)) (fun q hq => by exact et _), gW_X c7 K hN (Nat.le_refl _) (fun n k hn => by rfl) (fun n k hn => by exact EId_f (by omega)) (by exact ev _ _ (by omega) (by omega)) (fun j hj => ⟨by exact et _, by exact ev _ _ (by omega) (by omega), by exact ev _ _ (by omega) (by omega)⟩), gA_X c8 K hN (Nat.le_refl _) (fun n k hn => by rfl) (fun n k hn => by exact EId_f (by omega)) (by exact ev _ _ (by omega) (by omega)) (fun j hj => ⟨by exact et _, by exact ev _ _ (by omega) (by omega), by exact ev _ _ (by omega) (by omega)⟩), gL_X c9 c1 K hN (fun n k hn => by rfl) (fun n k hn => by exact EId_f (by omega)) (fun f k hf9 => by exact ev _ _ (by omega) (by omega)), gM_X c10 K hN (fun n k hn => by exact EId_f (by omega)) (fun f k hf9 hk9 => by exact ev _ _ (by omega) (by omega)), gI1_X c11 K hN (fun n k hn => by rfl), ?_, gI3_X c13 c11 K hN (fun k => by rfl) (fun n k hn => by exact EId_f (by omega)) I.2.2.2.2.2.2.2.2.2.1.2 (fun f k hf9 => by exact ev _ _ (by omega) (by omega))⟩
  obtain ⟨h1, h2, h3, h4, h5, h6, h7⟩ := c12
  have r : ∀ n k, n ≠ 31 → n ≠ 32 → st_i (st_pi (st_pi S 31 j p) 32 j z) n k = st_i S n k := fun n k h1 h2 => by rw [st_i_pi_n _ _ _ _ _ _ (by omega), st_i_pi_n _ _ _ _ _ _ (by omega)]
  unfold gI2
  rw [ev 56 _ (by omega) (by omega), ev 55 _ (by omega) (by omega), ev 54 _ (by omega) (by omega), ev 52 _ (by omega) (by omega), ev 53 _ (by omega) (by omega)]
  refine ⟨gMi_X h1 c11.2.1 K (by omega) (fun m j g1 g2 => EId_f (by omega)) (fun j _ => ev 50 _ (by omega) (by omega)), (r _ _ (by omega) (by omega)).trans h2, (r _ _ (by omega) (by omega)).trans h3, (r _ _ (by omega) (by omega)).trans h4, (r _ _ (by omega) (by omega)).trans h5, (r _ _ (by omega) (by omega)).trans h6, fun k hk => ?_⟩
  by_cases e : k = j
  · rw [e, nn.1, nn.2]
    refine ⟨?_, fun hp => ?_⟩
    · rw [st_i_pi_n _ _ _ _ _ _ (by omega), st_i_pi_s]
    · rw [st_i_pi_s]; exact hz hp
  · rw [vD_f 48 k (.inr e) (.inr e), vD_f 49 k (.inr e) (.inr e), st_i_pi_n _ _ _ _ _ _ (by omega), st_i_pi_n _ _ _ _ _ _ (by omega), st_i_pi_n _ _ _ _ _ _ (by omega), st_i_pi_n _ _ _ _ _ _ (by omega)]
    exact h7 k hk
def dvc (V : VV) : Nat → Int32
  | 0 => 0
  | k + 1 => dvc V k + (if V 48 k = -1 then 0 else 1)
def dv_1 (p : Int32) : Bool := decide (p = -1) || inB p 0 (nI 5)
def dv_2 (x y : Int32) : Bool := inB x 0 (nI 15) && (inB y 0 (nI 15) && decide (¬ x = y))
def t_divert (p x y : Int32) : Nat := if dv_1 p then (if dv_2 x y then 0 else 2) else 1
def v_divert (V : VV) (p x y : Int32) : VV := if t_divert p x y = 0 then vD V x.toNatClampNeg p y else V
def r_divert (V : VV) (p x y : Int32) : Int32 := dvc (v_divert V p x y) 16
theorem v_divert_54 {V : VV} {p x y : Int32} : v_divert V p x y 54 0 = V 54 0 := by
  unfold v_divert
  split
  · exact vD_f _ _ (by omega) (by omega)
  · rfl
theorem dv_x {p x y : Int32} (h : t_divert p x y = 0) : (p = -1 ∨ ∃ n, n ≤ 5 ∧ p = nI n) ∧ (∃ n, n ≤ 15 ∧ x = nI n) ∧ ∃ n, n ≤ 15 ∧ y = nI n := by
  unfold t_divert at h
  by_cases h1 : dv_1 p = true
  · rw [if_pos h1] at h
    by_cases h2 : dv_2 x y = true
    · unfold dv_2 at h2
      rw [Bool.and_eq_true, Bool.and_eq_true] at h2
      unfold dv_1 at h1
      rw [Bool.or_eq_true] at h1
      refine ⟨?_, inB_nI h2.1 (by decide), inB_nI h2.2.1 (by decide)⟩
      rcases h1 with h1 | h1
      · exact .inl (of_decide_eq_true h1)
      · exact .inr (inB_nI h1 (by decide))
    · rw [if_neg h2] at h; exact absurd h (by decide)
  · rw [if_neg h1] at h; exact absurd h (by decide)
theorem Iv_divert {V : VV} {p x y : Int32} (I : Iv V) : Iv (v_divert V p x y) := by
  unfold v_divert
  split
  next h =>
    obtain ⟨hp, _, hy⟩ := dv_x h
    exact Iv_vD I hp hy
  · exact I
theorem w_divert {S : xm_S} {V W : VV} {N : Nat} {p x y : Int32} {g : Int32 → xm_S → Prop} (R : RR S V W N) (I : Iv V) (h : ∀ S' N', RR S' (v_divert V p x y) W N' → (t_divert p x y = 0 → st_l S' 1200 0 = (r_divert V p x y).toInt64) → g (nI (t_divert p x y)) S') : wp_L_divert (some 1) p x y (some 1200) S g := by
  have I' := Iv_divert (p := p) (x := x) (y := y) I
  have c1 := R.1.2.2.1
  have T1 : dv_1 p = false → g 1 S := fun q => by
    have t : t_divert p x y = 1 := by unfold t_divert; rw [if_neg (by rw [q]; decide)]
    have w : v_divert V p x y = V := by unfold v_divert; rw [if_neg (by rw [t]; decide)]
    rw [t, w] at h
    exact h S N R (fun e => absurd e (by decide))
  have T2 : dv_1 p = true → dv_2 x y = false → g 2 S := fun q1 q => by
    have t : t_divert p x y = 2 := by unfold t_divert; rw [if_pos q1, if_neg (by rw [q]; decide)]
    have w : v_divert V p x y = V := by unfold v_divert; rw [if_neg (by rw [t]; decide)]
    rw [t, w] at h
    exact h S N R (fun e => absurd e (by decide))
  unfold wp_L_divert
  refine ⟨1, rfl, c1.1, ?_⟩
  have Y : dv_1 p = true → wp_X11_divert_9 1 p x y S (fun r5 S4 => ∃ n6, (some 1200 : Option Nat) = some n6 ∧ ∃ z9, st_t S4 n6 = some (103, z9) ∧ vp_in (0 : Int32) z9 ∧ ∀ S11, S11 = st_pl S4 n6 ((0 : Int32)).toNatClampNeg ((r5).toInt64) → g (0 : Int32) S11) (fun X9 S9 => (X9 = xm_eI ∧ g (1 : Int32) S9) ∨ (X9 = xm_eA ∧ g (nI 2) S9)) := fun q1 => by
    have T2 := T2 q1
    unfold wp_X11_divert_9
    refine q_range (fun a => q_range (fun b => ⟨fun c => ?_, fun c => .inr ⟨rfl, T2 (by unfold dv_2; rw [decide_eq_false (fun hh => hh c)]; simp)⟩⟩) (fun b => .inr ⟨rfl, T2 (by unfold dv_2; rw [b]; simp)⟩)) (fun a => .inr ⟨rfl, T2 (by unfold dv_2; rw [a]; simp)⟩)
    have t : t_divert p x y = 0 := by unfold t_divert; rw [if_pos q1, if_pos (by unfold dv_2; rw [a, b, decide_eq_true c]; rfl)]
    obtain ⟨j, hj, ex⟩ := inB_nI a (by decide)
    subst ex
    have w : v_divert V p (nI j) y = vD V j p y := by unfold v_divert; rw [if_pos t, nI_clamp (by omega)]
    unfold r_divert at h
    rw [t, w] at h
    rw [w] at I'
    have s := gS_24 c1
    have i1 := CR_gI1 R.1
    refine ⟨c1.1, 24, s.1, s.2, ?_⟩
    unfold wp_X2_setDiversion
    refine ⟨s.2, 31, i1.2.2.2.2.1, _, i1.2.2.2.2.2.1, vp_in_nI (show j < 16 by omega) (by decide), fun S24 e24 => ?_⟩
    rw [nI_clamp (by omega)] at e24
    have P : ∀ z, (p ≠ -1 → z = y) → wp_X2_setDiversion_22 24 z (nI j) (st_r S24 24 8) S24 (fun r10 S9 => (fun r5 S4 => ∃ n6, (some 1200 : Option Nat) = some n6 ∧ ∃ z9, st_t S4 n6 = some (103, z9) ∧ vp_in (0 : Int32) z9 ∧ ∀ S11, S11 = st_pl S4 n6 ((0 : Int32)).toNatClampNeg ((r5).toInt64) → g (0 : Int32) S11) r10 S9) := fun z hz => by
      unfold wp_X2_setDiversion_22 wp_X2_setDiversion_29
      refine ⟨32, by rw [e24, st_r_pi]; exact i1.2.2.2.2.2.2.1, _, by rw [e24, st_t_pi]; exact i1.2.2.2.2.2.2.2.1, vp_in_nI (show j < 16 by omega) (by decide), fun S16 e16 => ?_⟩
      rw [nI_clamp (by omega)] at e16
      have R16 : RR S16 (vD V j p y) W N := by
        rw [e16, e24]
        exact ⟨CR_vD (by omega) hz R.1 I, MR_K R.2.1 (KM_pi (KM_pi (KM_rfl _) (by omega)) (by omega)), R.2.2⟩
      intro Z hZ
      have d1 := R16.1.2.2.1
      have s := gS_24 d1
      have i1 := CR_gI1 R16.1
      have i2 := CR_gI2 R16.1
      have H : ∀ d k, k + d = 16 → Z (dvc (vD V j p y) k) (nI k) S16 := by
        intro d
        induction d with
        | zero =>
          intro k hk
          refine hZ _ _ _ ?_
          unfold wp_X2_setDiversion_29B
          rw [show k = 16 by omega]
          exact ⟨fun _ => w_out R16 I' fun S' R' hl => h S' N R' (fun _ => hl), fun e => absurd (nI_le (Nat.le_refl 16) (by decide)) e⟩
        | succ d ih =>
          intro k hk
          have ih := ih (k + 1) (by omega)
          rw [show dvc (vD V j p y) (k + 1) = dvc (vD V j p y) k + (if vD V j p y 48 k = -1 then 0 else 1) from rfl] at ih
          refine hZ _ _ _ ?_
          unfold wp_X2_setDiversion_29B wp_X2_setDiversion_54
          refine ⟨fun e => absurd e (nI_ge (show k < 16 by omega) (by decide)), fun _ => ⟨s.2, 31, i1.2.2.2.2.1, _, i1.2.2.2.2.2.1, vp_in_nI (show k < 16 by omega) (by decide), ?_⟩⟩
          rw [nI_clamp (by omega), (i2.2.2.2.2.2.2 k (by omega)).1]
          refine ⟨fun e y1 ey1 y3 ey3 => ?_, fun e y1 ey1 y3 ey3 => ?_⟩
          · rw [ey1, ey3, nI_1]; rw [if_neg e] at ih; exact ih
          · rw [ey1, ey3, nI_1]; rw [if_pos e] at ih; exact ih
      exact H 16 0 rfl
    exact ⟨fun e => P y (fun _ => rfl), fun e => P (-1) (fun hh => absurd e hh)⟩
  unfold wp_X11_divert
  refine ⟨fun e => Y (by unfold dv_1; rw [decide_eq_true e]; rfl), fun e => q_pack (fun a => Y (by unfold dv_1; rw [a, Bool.or_true])) (fun a => .inl ⟨rfl, T1 (by unfold dv_1; rw [a, decide_eq_false e]; rfl)⟩)⟩
theorem ml_divert {S : xm_S} {V W : VV} {N : Nat} {p x y : Int32} {g : Int32 → xm_S → Prop} (R : RR S V W N) (I : Iv V) (IW : Iv W) (h : ∀ S' b, RR S' V (v_divert W p x y) N → st_i S' 1000 0 = nI (t_divert p x y) → (t_divert p x y = 0 → b = r_divert W p x y) → st_l S' 1200 0 = st_l S 1200 0 → g b S') : wp_X12_divert 1000 p x y S g := by
  have M1 := R.2.1
  have X : ∀ (t : Nat), t_divert p x y = t → t ≠ 0 → t < 100 → wp_X12_divert_59 1000 p x y (nI t) (some 1000) S g := fun t et h0 ht => by
    have w : v_divert W p x y = W := by unfold v_divert; rw [if_neg (by rw [et]; exact h0)]
    unfold r_divert at h
    rw [w, et] at h
    unfold wp_X12_divert_59
    refine ⟨1000, rfl, R.2.1.1.1, m_may (t := t) R I rfl ht fun S4 R4 k4 e4 => ⟨fun e => absurd e ?_, fun _ => ?_⟩⟩
    · rw [decide_eq_false h0]; exact fun e => e rfl
    · exact h S4 _ R4 e4 (fun e => absurd e h0) ((k4 1200 (by omega)).2.2.1 0)
  have Y : dv_1 p = true → wp_X12_divert_49 1000 p x y (bI (dv_2 x y)) (some 1000) S g := fun q1 => by
    unfold wp_X12_divert_49
    refine bI_c (fun b => ?_) (fun b => X 2 (by unfold t_divert; rw [if_pos q1, if_neg (by rw [b]; decide)]) (by decide) (by decide))
    have t : t_divert p x y = 0 := by unfold t_divert; rw [if_pos q1, if_pos b]
    obtain ⟨_, ⟨j, hj, ex⟩, _⟩ := dv_x t
    subst ex
    have w : v_divert W p (nI j) y = vD W j p y := by unfold v_divert; rw [if_pos t, nI_clamp (by omega)]
    unfold r_divert at h
    rw [t, w] at h
    unfold wp_X12_divert_59
    refine ⟨1000, rfl, M1.1.1, m_may (t := 0) R I rfl (by decide) fun S4 R4 k4 e4 => ⟨fun _ => ?_, fun e => absurd e (by decide)⟩⟩
    have M4 := R4.2.1
    rw [nI_clamp (by omega)]
    refine ⟨M4.1.1, _, MS_r M4.1 48, _, MS_t M4.1 48, vp_in_nI (show j < 16 by omega) (by decide), fun S22 e22 => ?_⟩
    have M22 := MR_a (f := 48) (k := j) (x := p) M4
    rw [← e22] at M22
    refine ⟨_, MS_r M22.1 49, _, MS_t M22.1 49, vp_in_nI (show j < 16 by omega) (by decide), fun S29 e29 => ?_⟩
    have M29 := MR_a (f := 49) (k := j) (x := y) M22
    rw [← e29] at M29
    have M29 : MR S29 (vD W j p y) := M29
    have k29 : KC S4 S29 := by rw [e29, e22]; exact KC_pi (KC_pi (KC_rfl _) (by omega)) (by omega)
    have z29 : st_i S29 1000 0 = 0 := by rw [e29, st_i_pi_n _ _ _ _ _ _ (by omega), e22, st_i_pi_n _ _ _ _ _ _ (by omega)]; exact e4
    unfold wp_X12_divert_87
    intro Z hZ
    have H : ∀ d k, k + d = 16 → Z (dvc (vD W j p y) k) (nI k) S29 := by
      intro d
      induction d with
      | zero =>
        intro k hk
        refine hZ _ _ _ ?_
        unfold wp_X12_divert_87B
        rw [show k = 16 by omega]
        exact ⟨fun _ => h S29 _ (RR_m R4 I k29 M29) z29 (fun _ => rfl) ((KC_tr k4 k29 1200 (by omega)).2.2.1 0), fun e => absurd (nI_le (Nat.le_refl 16) (by decide)) e⟩
      | succ d ih =>
        intro k hk
        have ih := ih (k + 1) (by omega)
        rw [show dvc (vD W j p y) (k + 1) = dvc (vD W j p y) k + (if vD W j p y 48 k = -1 then 0 else 1) from rfl] at ih
        refine hZ _ _ _ ?_
        unfold wp_X12_divert_87B wp_X12_divert_112
        refine ⟨fun e => absurd e (nI_ge (show k < 16 by omega) (by decide)), fun _ => ⟨M29.1.1, _, MS_r M29.1 48, _, MS_t M29.1 48, vp_in_nI (show k < 16 by omega) (by decide), ?_⟩⟩
        rw [nI_clamp (by omega), show st_i S29 (1001 + 48) k = vD W j p y 48 k from M29.2.2 48 _ rfl]
        refine ⟨fun e y1 ey1 y3 ey3 => ?_, fun e y1 ey1 y3 ey3 => ?_⟩
        · rw [ey1, ey3, nI_1]; rw [if_neg e] at ih; exact ih
        · rw [ey1, ey3, nI_1]; rw [if_pos e] at ih; exact ih
    exact H 16 0 rfl
  have Y2 : wp_X12_divert_30 1000 p x y (bI (dv_2 x y)) S g := by
    unfold wp_X12_divert_30
    refine ⟨fun e => Y (by unfold dv_1; rw [decide_eq_true e]; rfl), fun e => m_pack (bI_c' (fun a => Y (by unfold dv_1; rw [a, Bool.or_true])) (fun a => X 1 (by unfold t_divert dv_1; rw [a, decide_eq_false e]; rfl) (by decide) (by decide)))⟩
  have Y0 : dv_2 x y = false → wp_X12_divert_29 1000 p x y S g := fun q => by
    unfold wp_X12_divert_29
    rw [q] at Y2
    exact Y2
  unfold wp_X12_divert
  refine m_in (bI_c (fun a => m_in (bI_c (fun b => ⟨fun c => Y0 (by unfold dv_2; rw [decide_eq_false (fun hh => hh c)]; simp), fun c => ?_⟩) (fun b => Y0 (by unfold dv_2; rw [b]; simp)))) (fun a => Y0 (by unfold dv_2; rw [a]; simp)))
  rw [show dv_2 x y = true by unfold dv_2; rw [a, b, decide_eq_true c]; rfl] at Y2
  exact Y2
theorem lc_divert {m b len kc ks N : Nat} {xs : Nat → Int32} {x4 : Int32} {S : xm_S} {V : VV} {g : Int32 → xm_S → Prop} {Z : Option Nat → Option Nat → Option Nat → Int32 → xm_S → Nat → Nat → Prop} (R : RR S V V N) (I : Iv V) (hm : vn V 54 0 ≤ m) (nx : NX m b len xs x4 kc ks g Z) (hv1 : vp_in (x4 + (1 : Int32)) len) (hv2 : vp_in (x4 + nI 2) len) (hv3 : vp_in (x4 + nI 3) len) : wp_L_law_2413 b len xs (some 1) (some 1000) (some 1200) x4 S kc ks g Z := by
  obtain ⟨k1, k2, nx⟩ := nx
  unfold wp_L_law_2413 wp_L_law_2490
  refine ⟨hv1, hv2, hv3, by omega, by omega, w_divert R I fun S1 N1 R1 h1 => ⟨hv1, hv2, hv3, 1000, rfl, R1.2.1.1.1, by omega, by omega, ml_divert R1 (Iv_divert I) I fun S2 b R2 e2 hb hl => ⟨1000, rfl, R2.2.1.1.1, by omega, by omega, m_thrown R2.2.1 e2 ?_⟩⟩⟩
  exact lc_cmp R2.2.2 (by unfold t_divert; repeat' split
                          all_goals decide) (fun e => hl.trans (h1 e)) hb (nx _ _ _ _ _ R2 (Iv_divert I) (md v_divert_54 hm) (by omega) (by omega))
