theorem NW_KXn {ER EI : Nat → Nat → Bool} {N nm : Nat} {S S' : xm_S} (h : NW S S' nm) (e : N ≤ nm ∧ 1200 ≤ nm) : KX ER EI N S S' := fun m hm => ⟨KX_ty (h m (by omega)).1, fun k _ => (h m (by omega)).2.1 k, fun k _ => .inr ((h m (by omega)).2.2.2 k)⟩
-- wish
def v1Wish (V : VV) (w : Nat) (x y : Int32) : VV := uV (uV V 19 w x) 20 w y
def vWish (V : VV) (w : Nat) (x y : Int32) : VV := uV (kpV (v1Wish V w x y) (144 + w)) 18 0 (nI (w + 1))
theorem v1Wish_f {V : VV} {w : Nat} {x y : Int32} (f k : Nat) (h : f ≠ 19 ∨ k ≠ w) (h2 : f ≠ 20 ∨ k ≠ w) : v1Wish V w x y f k = V f k := (uV_n _ _ _ _ _ _ (by omega)).trans (uV_n _ _ _ _ _ _ (by omega))
theorem vWish_f {V : VV} {w : Nat} {x y : Int32} (f k : Nat) (h1 : f ≠ 24) (h2 : f ≠ 25) (h3 : f ≠ 18) (h4 : f ≠ 19 ∨ k ≠ w) (h5 : f ≠ 20 ∨ k ≠ w) : vWish V w x y f k = V f k := (uV_n _ _ _ _ _ _ (by omega)).trans ((kp_ev f k h1 h2).trans (v1Wish_f f k h4 h5))
theorem vWish_c {V : VV} {w : Nat} {x y : Int32} (hc : w < 4) : vWish V w x y 18 0 = nI (w + 1) ∧ vn (vWish V w x y) 18 0 = w + 1 := ⟨uV_s _ _ _ _, vn_s (n := w + 1) (by omega)⟩
theorem vWish_n {V : VV} {w : Nat} {x y : Int32} : vWish V w x y 19 w = x ∧ vWish V w x y 20 w = y := ⟨(uV_n _ _ _ _ _ _ (by omega)).trans ((kp_ev 19 _ (by decide) (by decide)).trans ((uV_n _ _ _ _ _ _ (by omega)).trans (uV_s _ _ _ _))), (uV_n _ _ _ _ _ _ (by omega)).trans ((kp_ev 20 _ (by decide) (by decide)).trans (uV_s _ _ _ _))⟩
theorem vWish_KP {V : VV} {w : Nat} {x y : Int32} (hw : w < 4) : KP V (vWish V w x y) (144 + w) := fun f k h => (uV_n _ _ _ _ _ _ (by omega)).trans (kp_cong (by omega) (fun f k h => v1Wish_f f k (by omega) (by omega)) f k h)
theorem Iv_vWish {V : VV} {w : Nat} {x y : Int32} (I : Iv V) (hw : vn V 18 0 = w) (wc : w < 4) (ok : okT V = true) (hx : ∃ n, n ≤ 5 ∧ x = nI n) (hy : ∃ n, n ≤ 15 ∧ y = nI n) : Iv (vWish V w x y) := by
  have hA := I.2.2.1.2.2.2.2.2.2
  have h40 := (hA 154 (by decide)).2.1.1
  have kp : KP V (vWish V w x y) (144 + w) := vWish_KP wc
  have ev : ∀ f k, f ≠ 24 → f ≠ 25 → f ≠ 18 → f ≠ 19 → f ≠ 20 → vWish V w x y f k = V f k := fun f k h1 h2 h3 h4 h5 => vWish_f f k h1 h2 h3 (.inl h4) (.inl h5)
  have eo : ∀ q, q < 154 → q ≠ 144 + w → eTs V (vWish V w x y) q := fun q hq hne => KP_o kp h40 hq hne
  have nc := vWish_c (V := V) (w := w) (x := x) (y := y) wc
  have nn := vWish_n (V := V) (w := w) (x := x) (y := y)
  obtain ⟨m1, l1, e1⟩ := hx
  obtain ⟨m2, l2, e2⟩ := hy
  refine ⟨Iv1_e I.1 fun f k h => ev f k (by omega) (by omega) (by omega) (by omega) (by omega), Iv2_e I.1 I.2.1 (fun f k h => ev f k (by omega) (by omega) (by omega) (by omega) (by omega)) (fun q hq _ => eo q (by omega) (by omega)), ?_, Iv4_e I.2.2.2.1 fun f k h => ev f k (by omega) (by omega) (by omega) (by omega) (by omega), Iv5_e I.2.2.2.2 fun f k h => ev f k (by omega) (by omega) (by omega) (by omega) (by omega)⟩
  obtain ⟨g1, g2, g3, g4, g5, g6, g7⟩ := I.2.2.1
  have b1 := g1.2
  have b4 := g4.2
  refine ⟨(In_nI (n := w + 1) nc.1 (by omega) (by omega)).1, fun k hk => ?_, fun k hk => ?_, In_e g4 (ev _ _ (by omega) (by omega) (by omega) (by omega) (by omega)), fun k hk => ?_, fun k hk => ?_, KP_all kp hA (by omega)⟩
  · by_cases e : k = w
    · rw [e]
      exact ⟨(In_nI (n := m1) (nn.1.trans e1) l1 (by omega)).1, (In_nI (n := m2) (nn.2.trans e2) l2 (by omega)).1⟩
    · exact ⟨In_e (g2 k hk).1 (vWish_f _ _ (by omega) (by omega) (by omega) (.inr e) (.inr e)), In_e (g2 k hk).2 (vWish_f _ _ (by omega) (by omega) (by omega) (.inr e) (.inr e))⟩
  · rw [nc.2] at hk
    by_cases e : k = w
    · rw [e]; exact KP_R kp (hA 154 (by decide)) (by omega) ok
    · exact VR_e (g3 k (by omega)) (eo _ (by omega) (by omega))
  · exact ⟨In_e (g5 k hk).1 (ev _ _ (by omega) (by omega) (by omega) (by omega) (by omega)), In_e (g5 k hk).2 (ev _ _ (by omega) (by omega) (by omega) (by omega) (by omega))⟩
  · rw [vn_e (ev 21 _ (by omega) (by omega) (by omega) (by omega) (by omega))] at hk
    exact VR_e (g6 k hk) (eo _ (by omega) (by omega))
theorem CR_vWish {S S' : xm_S} {V : VV} {N w r : Nat} {l : List xit} {x y : Int32} (hw : vn V 18 0 = w) (wc : w < 4) (C : CR S V N) (I : Iv V) (K : KX (ERn 5 w 999) (EIn 1 3 999) N S S') (hf : frs (N + 1) S') (hl : tOf (tT V 154) (tL V 154) l) (ro : RO S r l N) (nb : NB S' N x (some r) y (nI 7) (-1)) (x1 : st_r S' 5 w = some N) (x2 : st_i S' 1 3 = nI (w + 1)) (x3 : st_i S' 2 1 = 0) : CR S' (vWish V w x y) (N + 1) := by
  have hA := I.2.2.1.2.2.2.2.2.2
  have h40 := (hA 154 (by decide)).2.1.1
  have kp : KP V (vWish V w x y) (144 + w) := vWish_KP wc
  have ev : ∀ f k, f ≠ 24 → f ≠ 25 → f ≠ 18 → f ≠ 19 → f ≠ 20 → vWish V w x y f k = V f k := fun f k h1 h2 h3 h4 h5 => vWish_f f k h1 h2 h3 (.inl h4) (.inl h5)
  have eo : ∀ q, q < 154 → q ≠ 144 + w → eT V (vWish V w x y) q := fun q hq hne => eTs_T (hA q (by omega)) (KP_o kp h40 hq hne)
  have nc := vWish_c (V := V) (w := w) (x := x) (y := y) wc
  have nn := vWish_n (V := V) (w := w) (x := x) (y := y)
  have b18 := I.2.2.1.1.2
  have b21 := I.2.2.1.2.2.2.1.2
  obtain ⟨hN, -, c1, c2, c3, c4, c5, c6, c7, c8, c9, c10, c11, c12, c13⟩ := C
  refine ⟨by omega, hf, gS_X c1 K hN (fun k => by exact ERn_f (by omega)), ?_, gO_X c3 K hN (fun k hk => by exact ERn_f (by omega)), ?_, gP_X c5 K hN (fun n k hn => by exact ERn_f (by omega)) (fun n k g1 g2 => by exact EIn_f (by omega)) (fun k hk => ⟨by exact ev _ _ (by omega) (by omega) (by omega) (by omega) (by omega), by exact ev _ _ (by omega) (by omega) (by omega) (by omega) (by omega)⟩), gV_Y I c6 K hN (by omega) (fun n k hn => by exact ERn_f (by omega)) (fun n k hn => by exact EIn_f (by omega)) (fun f k hf9 => by exact ev _ _ (by omega) (by omega) (by omega) (by omega) (by omega)) (fun q hq => by exact eo _ (by omega) (by omega)), ?_, gA_X c8 K hN (by omega) (fun n k hn => by exact ERn_f (by omega)) (fun n k hn => by exact EIn_f (by omega)) (by exact ev _ _ (by omega) (by omega) (by omega) (by omega) (by omega)) (fun j hj => ⟨by exact eo _ (by omega) (by omega), by exact ev _ _ (by omega) (by omega) (by omega) (by omega) (by omega), by exact ev _ _ (by omega) (by omega) (by omega) (by omega) (by omega)⟩), gL_X c9 c1 K hN (fun n k hn => by exact ERn_f (by omega)) (fun n k hn => by exact EIn_f (by omega)) (fun f k hf9 => by exact ev _ _ (by omega) (by omega) (by omega) (by omega) (by omega)), gM_X c10 K hN (fun n k hn => by exact EIn_f (by omega)) (fun f k hf9 hk9 => by exact ev _ _ (by omega) (by omega) (by omega) (by omega) (by omega)), gI1_X c11 K hN (fun n k hn => by exact ERn_f (by omega)), gI2_X c12 c11 c1 K hN (fun n k hn => by exact EIn_f (by omega)) (fun f k hf9 => by exact ev _ _ (by omega) (by omega) (by omega) (by omega) (by omega)), gI3_X c13 c11 K hN (fun k => by exact ERn_f (by omega)) (fun n k hn => by exact EIn_f (by omega)) I.2.2.2.2.2.2.2.2.2.1.2 (fun f k hf9 => by exact ev _ _ (by omega) (by omega) (by omega) (by omega) (by omega))⟩
  · have xr : ∀ k, k ≠ 3 → st_i S' 1 k = st_i S 1 k := fun k hk => KX_i K (by omega) (EIn_f (by omega)) (fun hh => by rw [c1.1] at hh; exact absurd hh.2 (by decide))
    obtain ⟨h1, h2, h3, h4, h5, h6, h7⟩ := c2
    exact ⟨x2.trans nc.1.symm, (xr 4 (by omega)).trans (h2.trans (ev 26 _ (by omega) (by omega) (by omega) (by omega) (by omega)).symm), (xr 6 (by omega)).trans (h3.trans (ev 21 _ (by omega) (by omega) (by omega) (by omega) (by omega)).symm), (xr 11 (by omega)).trans (h4.trans (ev 36 _ (by omega) (by omega) (by omega) (by omega) (by omega)).symm), (xr 12 (by omega)).trans (h5.trans (ev 37 _ (by omega) (by omega) (by omega) (by omega) (by omega)).symm), (xr 13 (by omega)).trans (h6.trans (ev 38 _ (by omega) (by omega) (by omega) (by omega) (by omega)).symm), (xr 14 (by omega)).trans (h7.trans (ev 39 _ (by omega) (by omega) (by omega) (by omega) (by omega)).symm)⟩
  · obtain ⟨t1, t2, t3, t4, t5, t6⟩ := c4
    unfold gT
    rw [tT_0 (KP_0 kp), KP_0 kp]
    exact ⟨KX_t K (by omega) t1, ((K _ (by omega)).2.1 _ (ERn_f (by omega))).trans t2, KX_t K (by omega) t3, TX_0, x3, fun s hs => absurd hs (Nat.not_lt_zero s)⟩
  · obtain ⟨w0, q1, q2⟩ := c7
    refine ⟨fun j => if j = w then N else w0 j, fun j hj => ?_, fun i j hij hj => ?_⟩
    · rw [nc.2] at hj
      dsimp only
      by_cases e : j = w
      · rw [if_pos e, e, nn.1, nn.2]
        refine ⟨x1, hN, by omega, nb.1, nb.2.1, nb.2.2.2.1, nb.2.2.2.2.1, nb.2.2.2.2.2, r, nb.2.2.1, l, ?_, RO_X ro K (fun n k hn => ERn_f (by omega)) (fun n k hn => EIn_f (by omega)) (by omega)⟩
        rw [KP_T kp (by omega), KP_L kp (by omega)]
        exact hl
      · rw [if_neg e, vWish_f 19 _ (by omega) (by omega) (by omega) (.inr e) (.inr e), vWish_f 20 _ (by omega) (by omega) (by omega) (.inr e) (.inr e)]
        obtain ⟨p1, p2, p3, p4⟩ := q1 j (by omega)
        exact ⟨((K _ (by omega)).2.1 _ (ERn_f (by omega))).trans p1, p2, by omega, NO_X p4 K (by omega) (fun n k hn => ERn_f (by omega)) (fun n k hn => EIn_f (by omega)) (fun k => ERn_f (by omega)) (fun k => EIn_f (by omega)) (by omega) (eo _ (by omega) (by omega))⟩
    · rw [nc.2] at hj
      have hi := (q1 i (by omega)).2.2.1
      dsimp only
      by_cases e : j = w
      · rw [if_pos e, if_neg (by omega)]; omega
      · rw [if_neg e, if_neg (by omega)]; exact q2 i j hij (by omega)
def t_wish (V : VV) (p y : Int32) : Nat := if inB p 0 (nI 5) then (if inB y 0 (nI 15) && okT V then (if V 18 0 < nI 4 then 0 else 3) else 2) else 1
def v_wish (V : VV) (p y : Int32) : VV := if t_wish V p y = 0 then vWish V (vn V 18 0) p y else V
def r_wish (V : VV) : Int32 := nI (vn V 18 0 + 1)
theorem v_wish_54 {V : VV} {p y : Int32} : v_wish V p y 54 0 = V 54 0 := by
  unfold v_wish
  split
  · exact vWish_f _ _ (by omega) (by omega) (by omega) (by omega) (by omega)
  · rfl
theorem x_wish {V : VV} {p y : Int32} (I : Iv V) (h : t_wish V p y = 0) : vn V 18 0 < 4 ∧ okT V = true ∧ (∃ n, n ≤ 5 ∧ p = nI n) ∧ ∃ n, n ≤ 15 ∧ y = nI n := by
  unfold t_wish at h
  by_cases h1 : inB p 0 (nI 5) = true
  · rw [if_pos h1] at h
    by_cases h2 : (inB y 0 (nI 15) && okT V) = true
    · rw [if_pos h2] at h
      by_cases h3 : V 18 0 < nI 4
      · rw [Bool.and_eq_true] at h2
        have q := I.2.2.1.1
        have q2 := q.2
        rw [q.1, nI_ltI (by omega) (by decide)] at h3
        obtain ⟨n, ln, en⟩ := inB_nI h2.1 (by decide)
        exact ⟨h3, h2.2, inB_nI h1 (by decide), n, ln, en⟩
      · rw [if_neg h3] at h; exact absurd h (by decide)
    · rw [if_neg h2] at h; exact absurd h (by decide)
  · rw [if_neg h1] at h; exact absurd h (by decide)
theorem Iv_wish {V : VV} {p y : Int32} (I : Iv V) : Iv (v_wish V p y) := by
  unfold v_wish
  split
  next h =>
    obtain ⟨wc, ok, hx, hy⟩ := x_wish I h
    exact Iv_vWish I rfl wc ok hx hy
  · exact I
theorem w_wish {S : xm_S} {V W : VV} {N : Nat} {p y : Int32} {g : Int32 → xm_S → Prop} (R : RR S V W N) (I : Iv V) (h : ∀ S' N', RR S' (v_wish V p y) W N' → (t_wish V p y = 0 → st_l S' 1200 0 = (r_wish V).toInt64) → g (nI (t_wish V p y)) S') : wp_L_wish (some 1) p y (some 1200) S g := by
  have I' := Iv_wish (p := p) (y := y) I
  have c1 := R.1.2.2.1
  have T1 : inB p 0 (nI 5) = false → g 1 S := fun q => by
    have t : t_wish V p y = 1 := by unfold t_wish; rw [if_neg (by rw [q]; decide)]
    have w : v_wish V p y = V := by unfold v_wish; rw [if_neg (by rw [t]; decide)]
    rw [t, w] at h
    exact h S N R (fun e => absurd e (by decide))
  unfold wp_L_wish wp_X11_wish
  refine ⟨1, rfl, c1.1, q_pack (fun a => ?_) (fun a => .inl ⟨rfl, T1 a⟩)⟩
  have T2 : (inB y 0 (nI 15) && okT V) = false → ∀ S' N', RR S' V W N' → g 2 S' := fun q S' N' R' => by
    have t : t_wish V p y = 2 := by unfold t_wish; rw [if_pos a, if_neg (by rw [q]; decide)]
    have w : v_wish V p y = V := by unfold v_wish; rw [if_neg (by rw [t]; decide)]
    rw [t, w] at h
    exact h S' N' R' (fun e => absurd e (by decide))
  refine q_range (fun c => ⟨c1.1, q_tape R I (fun ok l hl S1 N1 R1 hN ro G => ?_) (fun ok S1 N1 R1 => .inr (.inl ⟨rfl, T2 (by rw [ok, Bool.and_false]) S1 N1 R1⟩))⟩) (fun c => .inr (.inl ⟨rfl, T2 (by rw [c, Bool.false_and]) S N R⟩))
  have T : t_wish V p y = if V 18 0 < nI 4 then 0 else 3 := by unfold t_wish; rw [if_pos a, if_pos (by rw [c, ok]; rfl)]
  have d1 := R1.1.2.2.1
  have q8 := I.2.2.1.1
  have q82 := q8.2
  have x1 : st_i S1 1 3 = nI (vn V 18 0) := R1.1.2.2.2.1.1.trans q8.1
  refine ⟨d1.1, ?_⟩
  rw [x1]
  have lt : nI (vn V 18 0) < nI 4 ↔ vn V 18 0 < 4 := nI_ltI (by omega) (by decide)
  rw [q8.1] at T
  refine q_room (fun h8 => ?_) (fun h8 => .inr (.inr ⟨rfl, ?_⟩))
  · have t : t_wish V p y = 0 := by rw [T, if_pos h8]
    have w : v_wish V p y = vWish V (vn V 18 0) p y := by unfold v_wish; rw [if_pos t]
    rw [t, w] at h
    rw [w] at I'
    unfold r_wish at h
    have h8' := lt.mp h8
    have hN1 := R1.1.1
    have hno : st_t S1 N1 = none := R1.1.2.1 N1 (Nat.le_refl _)
    refine ⟨d1.1, N1, hno, c_newNeed fun S16 nw nb => ?_⟩
    have ty : ∀ n x, n ≠ N1 → st_t S1 n = some x → st_t S16 n = some x := fun n x hn hx => (nw n hn).1.trans hx
    refine ⟨5, d1.2.2.2.2.1, _, ty _ _ (by omega) d1.2.2.2.2.2.1, by rw [x1]; exact vp_in_nI h8' (by decide), fun v9 hv => by rw [← Option.some.inj hv]; exact nb.1, fun S24 e24 => ⟨by rw [e24]; exact ty _ _ (by omega) d1.1, fun S27 e27 => ?_⟩⟩
    rw [x1, nI_clamp (show vn V 18 0 < 2 ^ 31 by omega)] at e24
    rw [show st_i S24 1 3 = nI (vn V 18 0) by rw [e24, st_i_pr, (nw 1 (by omega)).2.2.2, x1], nI_1] at e27
    have K : KX (ERn 5 (vn V 18 0) 999) (EIn 1 3 999) N1 S1 S27 := by
      rw [e27, e24]
      exact KX_pi (KX_pr (NW_KXn nw (by omega)) (ERn_t (.inl ⟨rfl, rfl⟩))) (EIn_t (.inl ⟨rfl, rfl⟩))
    have M27 : KM S1 S27 := by rw [e27, e24]; exact KM_pi (KM_pr (NW_KM nw (by omega)) (by omega)) (by omega)
    have tp := R1.1.2.2.2.2.2.1
    refine ⟨2, ((K 1 (by omega)).2.1 _ (ERn_f (by omega))).trans d1.2.1, KX_t K (by omega) tp.1, ?_⟩
    unfold wp_X8_clear
    refine ⟨KX_t K (by omega) tp.1, fun S32 e32 => ?_⟩
    have K2 := KX_pi (n := 2) (k := 1) (v := 0) K (EIn_t (.inr (.inl ⟨rfl, rfl⟩)))
    rw [← e32] at K2
    have R32 : RR S32 (vWish V (vn V 18 0) p y) W (N1 + 1) := by
      refine ⟨CR_vWish rfl h8' R1.1 I K2 ?_ hl (RO_X ro (KX_rfl fA0 fA0 N1 S1) (fun _ _ _ => rfl) (fun _ _ _ => rfl) (Nat.le_refl _)) ?_ ?_ ?_ ?_, MR_K R1.2.1 (KM_tr M27 (by rw [e32]; exact KM_pi (KM_rfl _) (by omega))), KX_t K2 (by omega) R1.2.2⟩
      · intro n hn
        rw [e32, e27, e24, st_t_pi, st_t_pi, st_t_pr, (nw n (by omega)).1]
        exact R1.1.2.1 n (by omega)
      · rw [e32, e27, e24]
        refine ⟨nb.1, ?_, ?_, ?_, ?_, ?_⟩
        · rw [st_i_pi_n _ _ _ _ _ _ (by omega), st_i_pi_n _ _ _ _ _ _ (by omega), st_i_pr]; exact nb.2.1
        · rw [st_r_pi, st_r_pi, st_r_pr_n _ _ _ _ _ _ (by omega)]; exact nb.2.2.1
        · rw [st_i_pi_n _ _ _ _ _ _ (by omega), st_i_pi_n _ _ _ _ _ _ (by omega), st_i_pr]; exact nb.2.2.2.1
        · rw [st_i_pi_n _ _ _ _ _ _ (by omega), st_i_pi_n _ _ _ _ _ _ (by omega), st_i_pr]; exact nb.2.2.2.2.1
        · rw [st_i_pi_n _ _ _ _ _ _ (by omega), st_i_pi_n _ _ _ _ _ _ (by omega), st_i_pr]; exact nb.2.2.2.2.2
      · rw [e32, e27, e24, st_r_pi, st_r_pi, st_r_pr_s]
      · rw [e32, st_i_pi_n _ _ _ _ _ _ (by omega), e27, st_i_pi_s]
      · rw [e32, st_i_pi_s]
    refine ⟨KX_t K2 (by omega) d1.1, ?_⟩
    rw [show st_i S32 1 3 = nI (vn V 18 0 + 1) by rw [e32, st_i_pi_n _ _ _ _ _ _ (by omega), e27, st_i_pi_s]]
    exact w_out R32 I' fun S' R' hl => h S' (N1 + 1) R' (fun _ => hl)
  · have t : t_wish V p y = 3 := by rw [T, if_neg h8]
    have w : v_wish V p y = V := by unfold v_wish; rw [if_neg (by rw [t]; decide)]
    rw [t, w] at h
    exact h S1 N1 R1 (fun e => absurd e (by decide))
theorem ml_wish {S : xm_S} {V W : VV} {N : Nat} {p y : Int32} {g : Int32 → xm_S → Prop} (R : RR S V W N) (I : Iv V) (IW : Iv W) (h : ∀ S' b, RR S' V (v_wish W p y) N → st_i S' 1000 0 = nI (t_wish W p y) → (t_wish W p y = 0 → b = r_wish W) → st_l S' 1200 0 = st_l S 1200 0 → g b S') : wp_X12_wish 1000 p y S g := by
  have hT := IW.2.2.1.2.2.2.2.2.2 154 (by decide)
  have X : ∀ S1 (t : Nat), RR S1 V W N → KC S S1 → t_wish W p y = t → t ≠ 0 → t < 100 → wp_X12_wish_48 1000 p y (nI t) (some 1000) S1 g := fun S1 t R1 K1 et h0 ht => by
    have w : v_wish W p y = W := by unfold v_wish; rw [if_neg (by rw [et]; exact h0)]
    rw [w, et] at h
    unfold wp_X12_wish_48
    refine ⟨1000, rfl, R1.2.1.1.1, m_may (t := t) R1 I rfl ht fun S4 R4 k4 e4 => ⟨fun e => absurd e ?_, fun _ => ?_⟩⟩
    · rw [decide_eq_false h0]; exact fun e => e rfl
    · exact h S4 _ R4 e4 (fun e => absurd e h0) ((KC_tr K1 k4 1200 (by omega)).2.2.1 0)
  unfold wp_X12_wish wp_X12_wish_31
  refine m_pack (bI_c' (fun a => ?_) (fun a => X S 1 R (KC_rfl _) (by unfold t_wish; rw [if_neg (by rw [a]; decide)]) (by decide) (by decide)))
  have X2 : (inB y 0 (nI 15) && okT W) = false → t_wish W p y = 2 := fun q => by unfold t_wish; rw [if_pos a, if_neg (by rw [q]; decide)]
  refine m_in (bI_c (fun c => ⟨R.2.1.1.1, m_typed R I IW fun S1 R1 K1 => bI_c' (fun ok => ?_) (fun ok => X S1 2 R1 K1 (X2 (by rw [ok, Bool.and_false])) (by decide) (by decide))⟩) (fun c => X S 2 R (KC_rfl _) (X2 (by rw [c, Bool.false_and])) (by decide) (by decide)))
  have T : t_wish W p y = if W 18 0 < nI 4 then 0 else 3 := by unfold t_wish; rw [if_pos a, if_pos (by rw [c, ok]; rfl)]
  have M1 := R1.2.1
  have q8 := IW.2.2.1.1
  have q82 := q8.2
  rw [q8.1] at T
  have lt : nI (vn W 18 0) < nI 4 ↔ vn W 18 0 < 4 := nI_ltI (by omega) (by decide)
  rw [show st_i S1 1000 18 = nI (vn W 18 0) from (M1.2.1 18 rfl).trans q8.1, nI_eq (by omega) (by decide)]
  refine ⟨M1.1.1, fun h8 => ?_, fun h8 => X S1 3 R1 K1 (by rw [T, if_neg (fun hh => by have := lt.mp hh; omega)]) (by decide) (by decide)⟩
  have h8' : vn W 18 0 < 4 := by omega
  have t : t_wish W p y = 0 := by rw [T, if_pos (lt.mpr h8')]
  have w : v_wish W p y = vWish W (vn W 18 0) p y := by unfold v_wish; rw [if_pos t]
  rw [t, w] at h
  unfold r_wish at h
  unfold wp_X12_wish_48
  refine ⟨1000, rfl, M1.1.1, m_may (t := 0) R1 I rfl (by decide) fun S4 R4 k4 e4 => ⟨fun _ => ?_, fun e => absurd e (by decide)⟩⟩
  have M4 := R4.2.1
  have z4 : st_i S4 1000 18 = nI (vn W 18 0) := (M4.2.1 18 rfl).trans q8.1
  rw [z4]
  refine ⟨M4.1.1, _, MS_r M4.1 19, _, MS_t M4.1 19, vp_in_nI h8' (by decide), fun S12 e12 => ?_⟩
  rw [nI_clamp (by omega)] at e12
  have M12 := MR_a (f := 19) (k := vn W 18 0) (x := p) M4
  rw [← e12] at M12
  have z12 : st_i S12 1000 18 = nI (vn W 18 0) := by rw [e12, st_i_pi_n _ _ _ _ _ _ (by omega), z4]
  rw [z12]
  refine ⟨_, MS_r M12.1 20, _, MS_t M12.1 20, vp_in_nI h8' (by decide), fun S19 e19 => ?_⟩
  rw [nI_clamp (by omega)] at e19
  have M19 := MR_a (f := 20) (k := vn W 18 0) (x := y) M12
  rw [← e19] at M19
  have M19 : MR S19 (v1Wish W (vn W 18 0) p y) := M19
  have z19 : st_i S19 1000 18 = nI (vn W 18 0) := by rw [e19, st_i_pi_n _ _ _ _ _ _ (by omega), z12]
  have k19 : KC S4 S19 := by rw [e19, e12]; exact KC_pi (KC_pi (KC_rfl _) (by omega)) (by omega)
  rw [z19, nI_add]
  refine m_keeps M19 (VT_e hT ⟨v1Wish_f _ _ (by omega) (by omega), fun s hs => v1Wish_f _ _ (by omega) (by omega)⟩) (by omega) fun S21 k21 M21 t21 => ?_
  refine ⟨M21.1.1, fun S24 e24 => ?_⟩
  rw [show st_i S21 1000 18 = nI (vn W 18 0) from (M21.2.1 18 rfl).trans ((kp_ev 18 _ (by decide) (by decide)).trans ((v1Wish_f 18 _ (by omega) (by omega)).trans q8.1)), nI_1] at e24
  have M24 := MR_s (f := 18) (x := nI (vn W 18 0 + 1)) M21
  rw [← e24] at M24
  have k24 : KC S4 S24 := KC_tr (KC_tr k19 k21) (by rw [e24]; exact KC_pi (KC_rfl _) (by omega))
  refine h S24 _ (RR_m R4 I k24 M24) ?_ (fun _ => ?_) ((KC_tr (KC_tr K1 k4) k24 1200 (by omega)).2.2.1 0)
  · rw [e24, st_i_pi_n _ _ _ _ _ _ (by omega), t21, e19, st_i_pi_n _ _ _ _ _ _ (by omega), e12, st_i_pi_n _ _ _ _ _ _ (by omega)]; exact e4
  · rw [e24, st_i_pi_s]
theorem lc_wish {m b len kc ks N : Nat} {xs : Nat → Int32} {x4 : Int32} {S : xm_S} {V : VV} {g : Int32 → xm_S → Prop} {Z : Option Nat → Option Nat → Option Nat → Int32 → xm_S → Nat → Nat → Prop} (R : RR S V V N) (I : Iv V) (hm : vn V 54 0 ≤ m) (nx : NX m b len xs x4 kc ks g Z) (hv1 : vp_in (x4 + (1 : Int32)) len) (hv2 : vp_in (x4 + nI 2) len) : wp_L_law_1055 b len xs (some 1) (some 1000) (some 1200) x4 S kc ks g Z := by
  obtain ⟨k1, k2, nx⟩ := nx
  unfold wp_L_law_1055 wp_L_law_1120
  refine ⟨hv1, hv2, by omega, by omega, w_wish R I fun S1 N1 R1 h1 => ⟨hv1, hv2, 1000, rfl, R1.2.1.1.1, by omega, by omega, ml_wish R1 (Iv_wish I) I fun S2 b R2 e2 hb hl => ⟨1000, rfl, R2.2.1.1.1, by omega, by omega, m_thrown R2.2.1 e2 ?_⟩⟩⟩
  exact lc_cmp R2.2.2 (by unfold t_wish; repeat' split
                          all_goals decide) (fun e => hl.trans (h1 e)) hb (nx _ _ _ _ _ R2 (Iv_wish I) (md v_wish_54 hm) (by omega) (by omega))
