-- lock
theorem CR_lk {S : xm_S} {V : VV} {N l k : Nat} {x : Int32} (hl : l < 3) (hk : k < 6) (C : CR S V N) (I : Iv V) : CR (st_pi S (8 + l) k x) (uV V 29 (6 * l + k) x) N := by
  have K : KX fA0 (E1 (8 + l) k) N S (st_pi S (8 + l) k x) := KX_pi (KX_rfl _ _ _ _) (E1_t _ _)
  have et : ∀ q, eT V (uV V 29 (6 * l + k) x) q := eT_v fun f k h => uV_n _ _ _ _ _ _ (by omega)
  have b18 := I.2.2.1.1.2
  have b21 := I.2.2.1.2.2.2.1.2
  obtain ⟨hN, hf, c1, c2, c3, c4, c5, c6, c7, c8, c9, c10, c11, c12, c13⟩ := C
  refine ⟨by omega, hf, gS_X c1 K hN (fun k => by rfl), gX_X c2 c1 K hN (fun k => by exact E1_f (by omega)) (fun f hf9 => by exact uV_n _ _ _ _ _ _ (by omega)), gO_X c3 K hN (fun k hk => by rfl), gT_X c4 K hN (by rfl) (by exact E1_f (by omega)) (fun k => by exact E1_f (by omega)) (by exact et _), gP_X c5 K hN (fun n k hn => by rfl) (fun n k g1 g2 => by exact E1_f (by omega)) (fun k hk => ⟨by exact uV_n _ _ _ _ _ _ (by omega), by exact uV_n _ _ _ _ _ _ (by omega)⟩), gV_Y I c6 K hN (Nat.le_refl _) (fun n k hn => by rfl) (fun n k hn => by exact E1_f (by omega)) (fun f k hf9 => by exact uV_n _ _ _ _ _ _ (by omega)) (fun q hq => by exact et _), gW_X c7 K hN (Nat.le_refl _) (fun n k hn => by rfl) (fun n k hn => by exact E1_f (by omega)) (by exact uV_n _ _ _ _ _ _ (by omega)) (fun j hj => ⟨by exact et _, by exact uV_n _ _ _ _ _ _ (by omega), by exact uV_n _ _ _ _ _ _ (by omega)⟩), gA_X c8 K hN (Nat.le_refl _) (fun n k hn => by rfl) (fun n k hn => by exact E1_f (by omega)) (by exact uV_n _ _ _ _ _ _ (by omega)) (fun j hj => ⟨by exact et _, by exact uV_n _ _ _ _ _ _ (by omega), by exact uV_n _ _ _ _ _ _ (by omega)⟩), ?_, gM_X c10 K hN (fun n k hn => by exact E1_f (by omega)) (fun f k hf9 hk9 => by exact uV_n _ _ _ _ _ _ (by omega)), gI1_X c11 K hN (fun n k hn => by rfl), gI2_X c12 c11 c1 K hN (fun n k hn => by exact E1_f (by omega)) (fun f k hf9 => by exact uV_n _ _ _ _ _ _ (by omega)), gI3_X c13 c11 K hN (fun k => by rfl) (fun n k hn => by exact E1_f (by omega)) I.2.2.2.2.2.2.2.2.2.1.2 (fun f k hf9 => by exact uV_n _ _ _ _ _ _ (by omega))⟩
  intro l' hl'
  obtain ⟨h1, h2, h3, h4, h5, h6⟩ := c9 l' hl'
  refine ⟨h1, h2, h3, h4, ?_, fun p hp => ⟨?_, ?_⟩⟩
  · rw [st_i_pi_n _ _ _ _ _ _ (by omega), uV_n _ _ _ _ _ _ (by omega)]; exact h5
  · by_cases e : l' = l ∧ p = k
    · rw [e.1, e.2, st_i_pi_s, uV_s]
    · rw [st_i_pi_n _ _ _ _ _ _ (by omega), uV_n _ _ _ _ _ _ (by omega)]; exact (h6 p hp).1
  · rw [st_i_pi_n _ _ _ _ _ _ (by omega), uV_n _ _ _ _ _ _ (by omega)]; exact (h6 p hp).2
theorem Iv_lk {V : VV} {k0 : Nat} (I : Iv V) (h0 : k0 < 18) : Iv (uV V 29 k0 (V 27 k0)) := by
  have ev : ∀ f k, f ≠ 29 → uV V 29 k0 (V 27 k0) f k = V f k := fun f k h => uV_n _ _ _ _ _ _ (by omega)
  have et : ∀ q, eTs V (uV V 29 k0 (V 27 k0)) q := fun q => ⟨ev _ _ (by omega), fun s hs => ev _ _ (by omega)⟩
  obtain ⟨g1, g2, g3, g4, g5, g6, g7, g8⟩ := I.2.2.2.1
  refine ⟨Iv1_e I.1 fun f k h => ev f k (by omega), Iv2_e I.1 I.2.1 (fun f k h => ev f k (by omega)) fun q hq _ => et q, Iv3_e I.2.2.1 (fun f k h => ev f k (by omega)) (fun q hq _ => et q) (fun q hq => VT_e (I.2.2.1.2.2.2.2.2.2 q hq) (et q)), ⟨In_e g1 (ev _ _ (by omega)), fun k hk => ⟨vLk_e (g2 k hk).1 (ev _ _ (by omega)) (ev _ _ (by omega)), ?_⟩, fun k hk => ⟨In_e (g3 k hk).1 (ev _ _ (by omega)), In_e (g3 k hk).2 (ev _ _ (by omega))⟩, In_e g4 (ev _ _ (by omega)), In_e g5 (ev _ _ (by omega)), In_e g6 (ev _ _ (by omega)), In_e g7 (ev _ _ (by omega)), fun k hk => ?_⟩, Iv5_e I.2.2.2.2 fun f k h => ev f k (by omega)⟩
  · by_cases e : k = k0
    · subst e
      have q := (g2 k hk).1
      unfold vLk at q ⊢
      rw [uV_s, vn_e (ev 2 _ (by omega)), show vn (uV V 29 k (V 27 k)) 29 k = vn V 27 k by unfold vn; rw [uV_s]]
      exact q
    · exact vLk_e (g2 k hk).2 (uV_n _ _ _ _ _ _ (by omega)) (ev _ _ (by omega))
  · obtain ⟨a, b, c, d⟩ := g8 k hk
    exact ⟨Im_e a (ev _ _ (by omega)), In_e b (ev _ _ (by omega)), In_e c (ev _ _ (by omega)), In_e d (ev _ _ (by omega))⟩
def lkV (V : VV) (l : Nat) : Nat → VV
  | 0 => V
  | k + 1 => uV (lkV V l k) 29 (6 * l + k) (V 27 (6 * l + k))
def lkc (V : VV) (l : Nat) : Nat → Int32
  | 0 => 0
  | k + 1 => lkc V l k + (if V 27 (6 * l + k) = -1 then 0 else 1)
theorem lkV_f {V : VV} {l : Nat} : ∀ k f j, f ≠ 29 → lkV V l k f j = V f j := by
  intro k
  induction k with
  | zero => intro f j h; rfl
  | succ k ih => intro f j h; exact (uV_n _ _ _ _ _ _ (by omega)).trans (ih f j h)
theorem Iv_lkV {V : VV} {l : Nat} (I : Iv V) (hl : l < 3) : ∀ k, k ≤ 6 → Iv (lkV V l k) := by
  intro k
  induction k with
  | zero => intro _; exact I
  | succ k ih =>
    intro hk
    have := Iv_lk (k0 := 6 * l + k) (ih (by omega)) (by omega)
    rw [lkV_f k 27 _ (by decide)] at this
    exact this
def t_lock (V : VV) (l : Int32) : Nat := if inB l 0 (nI 2) then (if V 28 l.toNatClampNeg = 0 then 2 else 0) else 1
def v_lock (V : VV) (l : Int32) : VV := if t_lock V l = 0 then lkV V l.toNatClampNeg 6 else V
def r_lock (V : VV) (l : Int32) : Int32 := lkc V l.toNatClampNeg 6
theorem v_lock_54 {V : VV} {l : Int32} : v_lock V l 54 0 = V 54 0 := by
  unfold v_lock
  split
  · exact lkV_f _ _ _ (by decide)
  · rfl
theorem lk_x {V : VV} {l : Int32} (h : t_lock V l = 0) : inB l 0 (nI 2) = true ∧ V 28 l.toNatClampNeg ≠ 0 := by
  unfold t_lock at h
  by_cases h1 : inB l 0 (nI 2) = true
  · rw [if_pos h1] at h
    by_cases h2 : V 28 l.toNatClampNeg = 0
    · rw [if_pos h2] at h; exact absurd h (by decide)
    · exact ⟨h1, h2⟩
  · rw [if_neg h1] at h; exact absurd h (by decide)
theorem Iv_lock {V : VV} {l : Int32} (I : Iv V) : Iv (v_lock V l) := by
  unfold v_lock
  split
  next h =>
    obtain ⟨j, hj, e⟩ := inB_nI (lk_x h).1 (by decide)
    rw [e, nI_clamp (by omega)]
    exact Iv_lkV I (by omega) 6 (Nat.le_refl _)
  · exact I
theorem w_lock {S : xm_S} {V W : VV} {N : Nat} {l : Int32} {g : Int32 → xm_S → Prop} (R : RR S V W N) (I : Iv V) (h : ∀ S' N', RR S' (v_lock V l) W N' → (t_lock V l = 0 → st_l S' 1200 0 = (r_lock V l).toInt64) → g (nI (t_lock V l)) S') : wp_L_lock (some 1) l (some 1200) S g := by
  have I' := Iv_lock (l := l) I
  have c1 := R.1.2.2.1
  unfold wp_L_lock wp_X11_lock
  refine ⟨1, rfl, c1.1, q_plat (fun a => ?_) (fun a => .inl ⟨rfl, ?_⟩)⟩
  · obtain ⟨j, hj, e⟩ := inB_nI a (by decide)
    subst e
    have cj : (nI j).toNatClampNeg = j := nI_clamp (by omega)
    have L := CR_gL R.1 j (by omega)
    have T : t_lock V (nI j) = if V 28 j = 0 then 2 else 0 := by unfold t_lock; rw [if_pos a, cj]
    refine ⟨c1.1, 15, c1.2.2.2.2.2.2.2.2.2.2.2.2.1, _, c1.2.2.2.2.2.2.2.2.2.2.2.2.2.1, vp_in_nI (show j < 3 by omega) (by decide), ?_⟩
    rw [cj, L.2.2.2.2.1]
    refine ⟨fun b => ?_, fun b => .inr ⟨rfl, ?_⟩⟩
    · have t : t_lock V (nI j) = 0 := by rw [T, if_neg b]
      have w : v_lock V (nI j) = lkV V j 6 := by unfold v_lock; rw [if_pos t, cj]
      unfold r_lock at h
      rw [t, w, cj] at h
      rw [w] at I'
      unfold wp_X11_lock_27
      intro Z hZ
      have H : ∀ d k S1, k + d = 6 → RR S1 (lkV V j k) W N → Z (nI j) (lkc V j k) (nI k) S1 := by
        intro d
        induction d with
        | zero =>
          intro k S1 hk R1
          refine hZ _ _ _ _ ?_
          unfold wp_X11_lock_27B
          rw [show k = 6 by omega] at R1 ⊢
          exact ⟨fun _ => w_out R1 I' fun S' R' hl => h S' N R' (fun _ => hl), fun e => absurd (nI_le (Nat.le_refl 6) (by decide)) e⟩
        | succ d ih =>
          intro k S1 hk R1
          have I1 := Iv_lkV I (l := j) (by omega) k (by omega)
          have d1 := R1.1.2.2.1
          have s := gS_7 d1
          have L1 := CR_gL R1.1 j (by omega)
          have e12 : st_i S1 (12 + j) k = V 27 (6 * j + k) := (L1.2.2.2.2.2 k (by omega)).2.trans (lkV_f _ _ _ (by decide))
          refine hZ _ _ _ _ ?_
          unfold wp_X11_lock_27B
          rw [cj, nI_clamp (show k < 2 ^ 31 by omega)]
          refine ⟨fun e => absurd e (nI_ge (show k < 6 by omega) (by decide)), fun _ => ⟨d1.1, 7, s.1, _, s.2.1, vp_in_nI (show j < 3 by omega) (by decide), 11, s.2.2.1, _, s.2.2.2, vp_in_nI (show j < 3 by omega) (by decide), 12 + j, L1.2.2.1, _, L1.2.2.2.1, vp_in_nI (show k < 6 by omega) (by decide), 8 + j, L1.1, _, L1.2.1, vp_in_nI (show k < 6 by omega) (by decide), fun S26 e26 => ?_⟩⟩
          rw [e12] at e26
          have R26 : RR S26 (lkV V j (k + 1)) W N := by
            rw [e26]
            exact ⟨CR_lk (by omega) (by omega) R1.1 I1, MR_K R1.2.1 (KM_pi (KM_rfl _) (by omega)), R1.2.2⟩
          have d2 := R26.1.2.2.1
          have s2 := gS_7 d2
          have L2 := CR_gL R26.1 j (by omega)
          refine ⟨7, s2.1, _, s2.2.1, vp_in_nI (show j < 3 by omega) (by decide), 8 + j, L2.1, _, L2.2.1, vp_in_nI (show k < 6 by omega) (by decide), ?_⟩
          rw [show st_i S26 (8 + j) k = V 27 (6 * j + k) by rw [e26, st_i_pi_s]]
          have ih := ih (k + 1) S26 (by omega) R26
          rw [show lkc V j (k + 1) = lkc V j k + (if V 27 (6 * j + k) = -1 then 0 else 1) from rfl] at ih
          unfold wp_X11_lock_67
          refine ⟨fun e y1 ey1 y3 ey3 => ?_, fun e y1 ey1 y3 ey3 => ?_⟩
          · rw [ey1, ey3, nI_1]; rw [if_neg e] at ih; exact ih
          · rw [ey1, ey3, nI_1]; rw [if_pos e] at ih; exact ih
      exact H 6 0 S rfl R
    · have t : t_lock V (nI j) = 2 := by rw [T, if_pos b]
      have w : v_lock V (nI j) = V := by unfold v_lock; rw [if_neg (by rw [t]; decide)]
      rw [t, w] at h
      exact h S N R (fun e => absurd e (by decide))
  · have t : t_lock V l = 1 := by unfold t_lock; rw [if_neg (by rw [a]; decide)]
    have w : v_lock V l = V := by unfold v_lock; rw [if_neg (by rw [t]; decide)]
    rw [t, w] at h
    exact h S N R (fun e => absurd e (by decide))
theorem ml_lock {S : xm_S} {V W : VV} {N : Nat} {l : Int32} {g : Int32 → xm_S → Prop} (R : RR S V W N) (I : Iv V) (IW : Iv W) (h : ∀ S' b, RR S' V (v_lock W l) N → st_i S' 1000 0 = nI (t_lock W l) → (t_lock W l = 0 → b = r_lock W l) → st_l S' 1200 0 = st_l S 1200 0 → g b S') : wp_X12_lock 1000 l S g := by
  have M1 := R.2.1
  have X : ∀ (t : Nat), t_lock W l = t → t ≠ 0 → t < 100 → wp_X12_lock_28 1000 l (nI t) (some 1000) S g := fun t et h0 ht => by
    have w : v_lock W l = W := by unfold v_lock; rw [if_neg (by rw [et]; exact h0)]
    rw [w, et] at h
    unfold wp_X12_lock_28
    refine ⟨1000, rfl, R.2.1.1.1, m_may (t := t) R I rfl ht fun S4 R4 k4 e4 => ⟨fun e => absurd e ?_, fun _ => ?_⟩⟩
    · rw [decide_eq_false h0]; exact fun e => e rfl
    · exact h S4 _ R4 e4 (fun e => absurd e h0) ((k4 1200 (by omega)).2.2.1 0)
  unfold wp_X12_lock
  refine m_plat (bI_c' (fun a => ?_) (fun a => X 1 (by unfold t_lock; rw [if_neg (by rw [a]; decide)]) (by decide) (by decide)))
  obtain ⟨j, hj, e⟩ := inB_nI a (by decide)
  subst e
  have cj : (nI j).toNatClampNeg = j := nI_clamp (by omega)
  have T : t_lock W (nI j) = if W 28 j = 0 then 2 else 0 := by unfold t_lock; rw [if_pos a, cj]
  refine ⟨M1.1.1, _, MS_r M1.1 28, _, MS_t M1.1 28, vp_in_nI (show j < 3 by omega) (by decide), ?_⟩
  rw [cj, show st_i S (1001 + 28) j = W 28 j from M1.2.2 28 _ rfl]
  refine ⟨fun b => X 2 (by rw [T, if_pos b]) (by decide) (by decide), fun b => ?_⟩
  have t : t_lock W (nI j) = 0 := by rw [T, if_neg b]
  have w : v_lock W (nI j) = lkV W j 6 := by unfold v_lock; rw [if_pos t, cj]
  unfold r_lock at h
  rw [t, w, cj] at h
  unfold wp_X12_lock_28
  refine ⟨1000, rfl, M1.1.1, m_may (t := 0) R I rfl (by decide) fun S4 R4 k4 e4 => ⟨fun _ y28 e28 => ?_, fun e => absurd e (by decide)⟩⟩
  rw [pk_mul] at e28
  subst e28
  unfold wp_X12_lock_44
  intro Z hZ
  have H : ∀ d k S1, k + d = 6 → MR S1 (lkV W j k) → KC S4 S1 → st_i S1 1000 0 = 0 → Z (nI j) (lkc W j k) (nI (6 * j + k)) S1 := by
    intro d
    induction d with
    | zero =>
      intro k S1 hk M K1 z1
      refine hZ _ _ _ _ ?_
      unfold wp_X12_lock_44B
      rw [show k = 6 by omega] at M ⊢
      rw [pk_mul, nI_add]
      exact ⟨fun _ => h S1 _ (RR_m R4 I K1 M) z1 (fun _ => rfl) ((KC_tr k4 K1 1200 (by omega)).2.2.1 0), fun e => absurd (nI_le (Nat.le_refl _) (by omega)) e⟩
    | succ d ih =>
      intro k S1 hk M K1 z1
      refine hZ _ _ _ _ ?_
      unfold wp_X12_lock_44B
      rw [pk_mul, nI_add, nI_clamp (show 6 * j + k < 2 ^ 31 by omega)]
      refine ⟨fun e => absurd e (nI_ge (show 6 * j + k < 6 * j + 6 by omega) (by omega)), fun _ => ⟨M.1.1, _, MS_r M.1 27, _, MS_t M.1 27, vp_in_nI (show 6 * j + k < 18 by omega) (by decide), _, MS_r M.1 29, _, MS_t M.1 29, vp_in_nI (show 6 * j + k < 18 by omega) (by decide), fun S16 e16 => ?_⟩⟩
      rw [show st_i S1 (1001 + 27) (6 * j + k) = W 27 (6 * j + k) from (M.2.2 27 _ rfl).trans (lkV_f _ _ _ (by decide))] at e16
      have M16 := MR_a (f := 29) (k := 6 * j + k) (x := W 27 (6 * j + k)) M
      rw [← e16] at M16
      refine ⟨_, MS_r M16.1 29, _, MS_t M16.1 29, vp_in_nI (show 6 * j + k < 18 by omega) (by decide), ?_⟩
      rw [show st_i S16 (1001 + 29) (6 * j + k) = W 27 (6 * j + k) by rw [e16, st_i_pi_s]]
      have ih := ih (k + 1) S16 (by omega) M16 (KC_tr K1 (by rw [e16]; exact KC_pi (KC_rfl _) (by omega))) (by rw [e16, st_i_pi_n _ _ _ _ _ _ (by omega)]; exact z1)
      rw [show lkc W j (k + 1) = lkc W j k + (if W 27 (6 * j + k) = -1 then 0 else 1) from rfl] at ih
      unfold wp_X12_lock_87
      refine ⟨fun e y1 ey1 y3 ey3 => ?_, fun e y1 ey1 y3 ey3 => ?_⟩
      · rw [ey1, ey3, nI_1]; rw [if_neg e] at ih; exact ih
      · rw [ey1, ey3, nI_1]; rw [if_pos e] at ih; exact ih
  exact H 6 0 S4 rfl R4.2.1 (KC_rfl _) e4
theorem lc_lock {m b len kc ks N : Nat} {xs : Nat → Int32} {x4 : Int32} {S : xm_S} {V : VV} {g : Int32 → xm_S → Prop} {Z : Option Nat → Option Nat → Option Nat → Int32 → xm_S → Nat → Nat → Prop} (R : RR S V V N) (I : Iv V) (hm : vn V 54 0 ≤ m) (nx : NX m b len xs x4 kc ks g Z) (hv1 : vp_in (x4 + (1 : Int32)) len) : wp_L_law_1440 b len xs (some 1) (some 1000) (some 1200) x4 S kc ks g Z := by
  obtain ⟨k1, k2, nx⟩ := nx
  unfold wp_L_law_1440 wp_L_law_1493
  refine ⟨hv1, by omega, by omega, w_lock R I fun S1 N1 R1 h1 => ⟨hv1, 1000, rfl, R1.2.1.1.1, by omega, by omega, ml_lock R1 (Iv_lock I) I fun S2 b R2 e2 hb hl => ⟨1000, rfl, R2.2.1.1.1, by omega, by omega, m_thrown R2.2.1 e2 ?_⟩⟩⟩
  exact lc_cmp R2.2.2 (by unfold t_lock; repeat' split
                          all_goals decide) (fun e => hl.trans (h1 e)) hb (nx _ _ _ _ _ R2 (Iv_lock I) (md v_lock_54 hm) (by omega) (by omega))
-- advised
def adh (V : VV) (l : Nat) (s : Int32) (k : Nat) : Bool := decide (V 29 (6 * l + vn V 22 k) ≠ -1) && (decide (¬ V 23 k < s) && inc V (148 + k) (vn V 22 k) (vn V 29 (6 * l + vn V 22 k)))
def adb (V : VV) (l : Nat) (s : Int32) : Nat → Int32
  | 0 => 0
  | k + 1 => if adh V l s k then adb V l s k ||| ((1 : Int32) <<< (nI (vn V 22 k) &&& 31)) else adb V l s k
def t_advised (l s : Int32) : Nat := if inB l 0 (nI 2) then (if inB s 1 (nI 9) then 0 else 2) else 1
def r_advised (V : VV) (l s : Int32) : Int32 := adb V l.toNatClampNeg s (vn V 21 0)
/-- what an advisory's package has locked -/
theorem ad_lk {V : VV} {l k : Nat} (I : Iv V) (hl : l < 3) (hk : k < 6) : vn V 22 k < 6 ∧ (V 29 (6 * l + vn V 22 k) ≠ -1 → V 29 (6 * l + vn V 22 k) = nI (vn V 29 (6 * l + vn V 22 k)) ∧ vn V 29 (6 * l + vn V 22 k) < vn V 2 (vn V 22 k) ∧ vn V 2 (vn V 22 k) ≤ 4) := by
  have g := (I.2.2.1.2.2.2.2.1 k hk).1
  have g2 := g.2
  refine ⟨by omega, fun h => ?_⟩
  rcases (I.2.2.2.1.2.1 (6 * l + vn V 22 k) (by omega)).2 with q | q
  · exact absurd q h
  · have c := (I.1.1 (vn V 22 k) (by omega)).2.2
    rw [show (6 * l + vn V 22 k) % 6 = vn V 22 k by omega] at q
    exact ⟨q.1, q.2, c⟩
theorem w_advised {S : xm_S} {V W : VV} {N : Nat} {l s : Int32} {g : Int32 → xm_S → Prop} (R : RR S V W N) (I : Iv V) (h : ∀ S' N', RR S' V W N' → (t_advised l s = 0 → st_l S' 1200 0 = (r_advised V l s).toInt64) → g (nI (t_advised l s)) S') : wp_L_advised (some 1) l s (some 1200) S g := by
  have c1 := R.1.2.2.1
  unfold wp_L_advised wp_X11_advised
  refine ⟨1, rfl, c1.1, q_plat (fun a => q_range (fun b => ?_) (fun b => .inr ⟨rfl, ?_⟩)) (fun a => .inl ⟨rfl, ?_⟩)⟩
  · have t : t_advised l s = 0 := by unfold t_advised; rw [if_pos a, if_pos b]
    obtain ⟨j, hj, e⟩ := inB_nI a (by decide)
    subst e
    have cj : (nI j).toNatClampNeg = j := nI_clamp (by omega)
    unfold r_advised at h
    rw [t, cj] at h
    have n21 := I.2.2.1.2.2.2.1
    have n212 := n21.2
    have x6 : st_i S 1 6 = nI (vn V 21 0) := R.1.2.2.2.1.2.2.1.trans n21.1
    have A := R.1.2.2.2.2.2.2.2.2.2.1
    have L := CR_gL R.1 j (by omega)
    have s7 := gS_7 c1
    have c4 := gS_4 c1
    unfold wp_X11_advised_16
    intro Z hZ
    have H : ∀ d k, k + d = vn V 21 0 → Z (nI j) s (adb V j s k) (nI k) S := by
      intro d
      induction d with
      | zero =>
        intro k hk
        refine hZ _ _ _ _ _ ?_
        unfold wp_X11_advised_16B
        rw [x6, show k = vn V 21 0 by omega]
        exact ⟨c1.1, fun _ => w_out R I fun S' R' hl => h S' N R' (fun _ => hl), fun e => absurd (nI_le (Nat.le_refl _) (by omega)) e⟩
      | succ d ih =>
        intro k hk
        have ih := ih (k + 1) (by omega)
        have ih' : ∀ b, adh V j s k = b → Z (nI j) s (if b then adb V j s k ||| ((1 : Int32) <<< (nI (vn V 22 k) &&& 31)) else adb V j s k) (nI (k + 1)) S := fun b eb => by rw [← eb]; exact ih
        obtain ⟨o, p1, p2, p3, p4, p5, p6, r, p7, li, p8, p9⟩ := A k (by omega)
        have g22 := (I.2.2.1.2.2.2.2.1 k (by omega)).1
        obtain ⟨q1, q2⟩ := ad_lk I (l := j) (by omega) (show k < 6 by omega)
        have P := CR_gP R.1 (vn V 22 k) q1
        have sc := (I.1.1 (vn V 22 k) q1).1
        have e29 : st_i S (8 + j) (vn V 22 k) = V 29 (6 * j + vn V 22 k) := (L.2.2.2.2.2 _ q1).1
        have p5' : st_i S o 0 = nI (vn V 22 k) := p5.trans g22.1
        refine hZ _ _ _ _ _ ?_
        unfold wp_X11_advised_16B wp_X11_advised_86
        rw [x6, cj, nI_clamp (show k < 2 ^ 31 by omega)]
        refine ⟨c1.1, fun e => absurd e (nI_ge (show k < vn V 21 0 by omega) (by omega)), fun _ => ⟨6, c1.2.2.2.2.2.2.1, _, c1.2.2.2.2.2.2.2.1, vp_in_nI (show k < 6 by omega) (by decide), 7, s7.1, _, s7.2.1, vp_in_nI (show j < 3 by omega) (by decide), o, p1, p4, 8 + j, L.1, _, L.2.1, by rw [p5']; exact vp_in_nI q1 (by decide), fun y22 e22 => ?_⟩⟩
        rw [p5', nI_clamp (by omega), e29] at e22
        rw [p1]
        refine ⟨o, rfl, p4, ?_⟩
        rw [p6]
        refine ⟨fun e y ey => ?_, fun e => ⟨o, rfl, p4, o, rfl, p4, ?_⟩⟩
        · rw [ey, nI_1]
          have := ih' false (by unfold adh; rw [decide_eq_false (p := ¬ _) (fun hh => hh e)]; simp)
          exact this
        · rw [p7, p5']
          unfold wp_X11_isIncluded wp_X11_isIncluded_39 wp_X11_isIncluded_40
          have no : adh V j s k = false → ∀ y1, y1 = nI k + 1 → Z (nI j) s (adb V j s k) y1 S := fun q y1 e1 => by
            rw [e1, nI_1]
            exact ih' false q
          refine ⟨fun e3 => ⟨.inl rfl, fun _ => no (by unfold adh; rw [decide_eq_false (p := ¬ _) (fun hh => hh (e22.symm.trans e3))]; simp), fun e => absurd rfl e⟩, fun e3 => ?_⟩
          rw [e22] at e3
          obtain ⟨k1, k2, k3⟩ := q2 e3
          have vk := CR_ver R.1 I (i := vn V 22 k) (j := vn V 29 (6 * j + vn V 22 k)) q1 k2
          have nn := (I.1.2.1 (4 * vn V 22 k + vn V 29 (6 * j + vn V 22 k)) (by omega)).1.2
          rw [e22, k1, nI_clamp (show vn V 22 k < 2 ^ 31 by omega), nI_clamp (show vn V 29 (6 * j + vn V 22 k) < 2 ^ 31 by omega)]
          refine ⟨c1.1, 4, c4.1, _, c4.2, vp_in_nI q1 (by decide), _, P.2.1, P.1, _, P.2.2.1, _, P.2.2.2.1, vp_in_nI (show vn V 29 (6 * j + vn V 22 k) < 4 by omega) (by decide), _, vk.1, vk.2.1.1, 4, c4.1, _, c4.2, vp_in_nI q1 (by decide), _, P.2.1, P.1, r, rfl, p9.2.2.1, ?_⟩
          rw [vk.2.2.1.1, P.2.2.2.2.1, sc.1]
          refine cq_includes p9 (tOf_ok p8) sc.2 (by omega) ?_
          have E : hf (vn V 1 (vn V 22 k)) (vn V 3 (4 * vn V 22 k + vn V 29 (6 * j + vn V 22 k))) false false li = inc V (148 + k) (vn V 22 k) (vn V 29 (6 * j + vn V 22 k)) := by unfold inc; rw [itm_of p8]
          rw [E]
          have F : adh V j s k = inc V (148 + k) (vn V 22 k) (vn V 29 (6 * j + vn V 22 k)) := by unfold adh; rw [decide_eq_true e3, decide_eq_true e]; simp
          refine bI_c (fun b => ⟨.inr rfl, fun e => absurd e (by decide), fun _ => ⟨o, rfl, p4, fun y38 e38 y ey => ?_⟩⟩) (fun b => ⟨.inl rfl, fun _ => no (by rw [F, b]), fun e => absurd rfl e⟩)
          rw [ey, e38, nI_1, p5']
          exact ih' true (by rw [F, b])
    exact H (vn V 21 0) 0 (by omega)
  · have t : t_advised l s = 2 := by unfold t_advised; rw [if_pos a, if_neg (by rw [b]; decide)]
    rw [t] at h
    exact h S N R (fun e => absurd e (by decide))
  · have t : t_advised l s = 1 := by unfold t_advised; rw [if_neg (by rw [a]; decide)]
    rw [t] at h
    exact h S N R (fun e => absurd e (by decide))
theorem ml_advised {S : xm_S} {V W : VV} {N : Nat} {l s : Int32} {g : Int32 → xm_S → Prop} (R : RR S V W N) (I : Iv V) (IW : Iv W) (h : ∀ S' b, RR S' V W N → st_i S' 1000 0 = nI (t_advised l s) → (t_advised l s = 0 → b = r_advised W l s) → st_l S' 1200 0 = st_l S 1200 0 → g b S') : wp_X12_advised 1000 l s S g := by
  have M1 := R.2.1
  have X : ∀ (t : Nat), t_advised l s = t → t ≠ 0 → t < 100 → wp_X12_advised_27 1000 l s (nI t) (some 1000) S g := fun t et h0 ht => by
    rw [et] at h
    unfold wp_X12_advised_27
    refine ⟨1000, rfl, R.2.1.1.1, m_may (t := t) R I rfl ht fun S4 R4 k4 e4 => ⟨fun e => absurd e ?_, fun _ => ?_⟩⟩
    · rw [decide_eq_false h0]; exact fun e => e rfl
    · exact h S4 _ R4 e4 (fun e => absurd e h0) ((k4 1200 (by omega)).2.2.1 0)
  unfold wp_X12_advised
  refine m_plat (bI_c' (fun a => m_in (bI_c (fun b => ?_) (fun b => X 2 (by unfold t_advised; rw [if_pos a, if_neg (by rw [b]; decide)]) (by decide) (by decide)))) (fun a => X 1 (by unfold t_advised; rw [if_neg (by rw [a]; decide)]) (by decide) (by decide)))
  have t : t_advised l s = 0 := by unfold t_advised; rw [if_pos a, if_pos b]
  obtain ⟨j, hj, e⟩ := inB_nI a (by decide)
  subst e
  have cj : (nI j).toNatClampNeg = j := nI_clamp (by omega)
  unfold r_advised at h
  rw [t, cj] at h
  have n21 := IW.2.2.1.2.2.2.1
  have n212 := n21.2
  unfold wp_X12_advised_27
  refine ⟨1000, rfl, M1.1.1, m_may (t := 0) R I rfl (by decide) fun S4 R4 k4 e4 => ⟨fun _ => ?_, fun e => absurd e (by decide)⟩⟩
  unfold wp_X12_advised_40
  intro Z hZ
  have H : ∀ d k S1, k + d = vn W 21 0 → MR S1 W → KC S4 S1 → st_i S1 1000 0 = 0 → Z (nI j) s (adb W j s k) (nI k) S1 := by
    intro d
    induction d with
    | zero =>
      intro k S1 hk M K1 z1
      refine hZ _ _ _ _ _ ?_
      unfold wp_X12_advised_40B
      rw [show st_i S1 1000 21 = nI (vn W 21 0) from (M.2.1 21 rfl).trans n21.1, show k = vn W 21 0 by omega]
      exact ⟨M.1.1, fun _ => h S1 _ (RR_m R4 I K1 M) z1 (fun _ => rfl) ((KC_tr k4 K1 1200 (by omega)).2.2.1 0), fun e => absurd (nI_le (Nat.le_refl _) (by omega)) e⟩
    | succ d ih =>
      intro k S1 hk M K1 z1
      have ih := ih (k + 1)
      have ih' : ∀ b, adh W j s k = b → ∀ S2, MR S2 W → KC S4 S2 → st_i S2 1000 0 = 0 → Z (nI j) s (if b then adb W j s k ||| ((1 : Int32) <<< (nI (vn W 22 k) &&& 31)) else adb W j s k) (nI (k + 1)) S2 := fun b eb S2 a b c => by rw [← eb]; exact ih S2 (by omega) a b c
      have g22 := (IW.2.2.1.2.2.2.2.1 k (by omega)).1
      obtain ⟨q1, q2⟩ := ad_lk IW (l := j) (by omega) (show k < 6 by omega)
      have sc := (IW.1.1 (vn W 22 k) q1).1
      refine hZ _ _ _ _ _ ?_
      unfold wp_X12_advised_40B
      rw [show st_i S1 1000 21 = nI (vn W 21 0) from (M.2.1 21 rfl).trans n21.1, nI_clamp (show k < 2 ^ 31 by omega)]
      refine ⟨M.1.1, fun e => absurd e (nI_ge (show k < vn W 21 0 by omega) (by omega)), fun _ => ⟨_, MS_r M.1 22, _, MS_t M.1 22, vp_in_nI (show k < 6 by omega) (by decide), fun y11 e11 => ?_⟩⟩
      rw [show st_i S1 (1001 + 22) k = nI (vn W 22 k) from (M.2.2 22 _ rfl).trans g22.1] at e11
      subst e11
      rw [pk_mul, nI_add]
      refine ⟨_, MS_r M.1 29, _, MS_t M.1 29, vp_in_nI (show 6 * j + vn W 22 k < 18 by omega) (by decide), fun y18 e18 => ?_⟩
      rw [nI_clamp (by omega), show st_i S1 (1001 + 29) (6 * j + vn W 22 k) = W 29 (6 * j + vn W 22 k) from M.2.2 29 _ rfl] at e18
      have no : adh W j s k = false → ∀ S2, MR S2 W → KC S4 S2 → st_i S2 1000 0 = 0 → wp_X12_advised_125 1000 (nI j) s (adb W j s k) (nI k) (nI (vn W 22 k)) S2 g Z := fun q S2 a b c => by
        unfold wp_X12_advised_125 wp_X12_advised_126 wp_X12_advised_142
        refine ⟨fun _ y1 e1 y3 e3 => ?_, fun e => absurd rfl e⟩
        rw [e1, e3, nI_1, Int32.or_zero]
        exact ih' false q S2 a b c
      refine ⟨fun e3 => no (by unfold adh; rw [decide_eq_false (p := ¬ _) (fun hh => hh (e18.symm.trans e3))]; simp) S1 M K1 z1, fun e3 => ⟨_, MS_r M.1 23, _, MS_t M.1 23, vp_in_nI (show k < 6 by omega) (by decide), ?_⟩⟩
      rw [show st_i S1 (1001 + 23) k = W 23 k from M.2.2 23 _ rfl]
      refine ⟨fun e => no (by unfold adh; rw [decide_eq_false (p := ¬ _ < _) (fun hh => hh e)]; simp) S1 M K1 z1, fun e => ?_⟩
      rw [e18] at e3
      obtain ⟨k1, k2, k3⟩ := q2 e3
      have nn := (IW.1.2.1 (4 * vn W 22 k + vn W 29 (6 * j + vn W 22 k)) (by omega)).1
      have nn2 := nn.2
      rw [e18, k1, pk_mul, nI_add, nI_add, nI_clamp (show vn W 22 k < 2 ^ 31 by omega), nI_clamp (show 4 * vn W 22 k + vn W 29 (6 * j + vn W 22 k) < 2 ^ 31 by omega)]
      refine ⟨_, MS_r M.1 1, _, MS_t M.1 1, vp_in_nI (show vn W 22 k < 6 by omega) (by decide), _, MS_r M.1 3, _, MS_t M.1 3, vp_in_nI (show 4 * vn W 22 k + vn W 29 (6 * j + vn W 22 k) < 24 by omega) (by decide), ?_⟩
      rw [show st_i S1 (1001 + 1) (vn W 22 k) = nI (vn W 1 (vn W 22 k)) from (M.2.2 1 _ rfl).trans sc.1, show st_i S1 (1001 + 3) (4 * vn W 22 k + vn W 29 (6 * j + vn W 22 k)) = nI (vn W 3 (4 * vn W 22 k + vn W 29 (6 * j + vn W 22 k))) from (M.2.2 3 _ rfl).trans nn.1]
      obtain ⟨hT, li, p8⟩ := IW.2.2.1.2.2.2.2.2.1 k (by omega)
      refine pm_isRangeOf (MX_of M (by omega) hT) sc.2 (by omega) p8 fun S2 F2 => ?_
      have E : hf (vn W 1 (vn W 22 k)) (vn W 3 (4 * vn W 22 k + vn W 29 (6 * j + vn W 22 k))) false false li = inc W (148 + k) (vn W 22 k) (vn W 29 (6 * j + vn W 22 k)) := by unfold inc; rw [itm_of p8]
      rw [E]
      have F : adh W j s k = inc W (148 + k) (vn W 22 k) (vn W 29 (6 * j + vn W 22 k)) := by unfold adh; rw [decide_eq_true e3, decide_eq_true e]; simp
      have M2 := MR_B M F2
      have K2 := KC_tr K1 (KC_B F2)
      have z2 : st_i S2 1000 0 = 0 := (F2.2.2.2 1000 0 rfl).trans z1
      refine bI_c (fun b => ?_) (fun b => no (by rw [F, b]) S2 M2 K2 z2)
      unfold wp_X12_advised_126 wp_X12_advised_142
      refine ⟨fun e => absurd e (by decide), fun _ y1 e1 y3 e3 => ?_⟩
      rw [e1, e3, nI_1]
      exact ih' true (by rw [F, b]) S2 M2 K2 z2
  exact H (vn W 21 0) 0 S4 (by omega) R4.2.1 (KC_rfl _) e4
theorem lc_advised {m b len kc ks N : Nat} {xs : Nat → Int32} {x4 : Int32} {S : xm_S} {V : VV} {g : Int32 → xm_S → Prop} {Z : Option Nat → Option Nat → Option Nat → Int32 → xm_S → Nat → Nat → Prop} (R : RR S V V N) (I : Iv V) (hm : vn V 54 0 ≤ m) (nx : NX m b len xs x4 kc ks g Z) (hv1 : vp_in (x4 + (1 : Int32)) len) (hv2 : vp_in (x4 + nI 2) len) : wp_L_law_1695 b len xs (some 1) (some 1000) (some 1200) x4 S kc ks g Z := by
  obtain ⟨k1, k2, nx⟩ := nx
  unfold wp_L_law_1695 wp_L_law_1760
  refine ⟨hv1, hv2, by omega, by omega, w_advised R I fun S1 N1 R1 h1 => ⟨hv1, hv2, 1000, rfl, R1.2.1.1.1, by omega, by omega, ml_advised R1 I I fun S2 b R2 e2 hb hl => ⟨1000, rfl, R2.2.1.1.1, by omega, by omega, m_thrown R2.2.1 e2 ?_⟩⟩⟩
  exact lc_cmp R2.2.2 (by unfold t_advised; repeat' split
                          all_goals decide) (fun e => hl.trans (h1 e)) hb (nx _ _ _ _ _ R2 I (md rfl hm) (by omega) (by omega))
