-- solve
theorem CR_pr {S : xm_S} {V : VV} {N l k : Nat} {x : Int32} (hl : l < 3) (hk : k < 6) (C : CR S V N) (I : Iv V) : CR (st_pi S (12 + l) k x) (uV V 27 (6 * l + k) x) N := by
  have K : KX fA0 (E1 (12 + l) k) N S (st_pi S (12 + l) k x) := KX_pi (KX_rfl _ _ _ _) (E1_t _ _)
  have et : ∀ q, eT V (uV V 27 (6 * l + k) x) q := eT_v fun f k h => uV_n _ _ _ _ _ _ (by omega)
  have b18 := I.2.2.1.1.2
  have b21 := I.2.2.1.2.2.2.1.2
  obtain ⟨hN, hf, c1, c2, c3, c4, c5, c6, c7, c8, c9, c10, c11, c12, c13⟩ := C
  refine ⟨by omega, hf, gS_X c1 K hN (fun k => by rfl), gX_X c2 c1 K hN (fun k => by exact E1_f (by omega)) (fun f hf9 => by exact uV_n _ _ _ _ _ _ (by omega)), gO_X c3 K hN (fun k hk => by rfl), gT_X c4 K hN (by rfl) (by exact E1_f (by omega)) (fun k => by exact E1_f (by omega)) (by exact et _), gP_X c5 K hN (fun n k hn => by rfl) (fun n k g1 g2 => by exact E1_f (by omega)) (fun k hk => ⟨by exact uV_n _ _ _ _ _ _ (by omega), by exact uV_n _ _ _ _ _ _ (by omega)⟩), gV_Y I c6 K hN (Nat.le_refl _) (fun n k hn => by rfl) (fun n k hn => by exact E1_f (by omega)) (fun f k hf9 => by exact uV_n _ _ _ _ _ _ (by omega)) (fun q hq => by exact et _), gW_X c7 K hN (Nat.le_refl _) (fun n k hn => by rfl) (fun n k hn => by exact E1_f (by omega)) (by exact uV_n _ _ _ _ _ _ (by omega)) (fun j hj => ⟨by exact et _, by exact uV_n _ _ _ _ _ _ (by omega), by exact uV_n _ _ _ _ _ _ (by omega)⟩), gA_X c8 K hN (Nat.le_refl _) (fun n k hn => by rfl) (fun n k hn => by exact E1_f (by omega)) (by exact uV_n _ _ _ _ _ _ (by omega)) (fun j hj => ⟨by exact et _, by exact uV_n _ _ _ _ _ _ (by omega), by exact uV_n _ _ _ _ _ _ (by omega)⟩), ?_, gM_X c10 K hN (fun n k hn => by exact E1_f (by omega)) (fun f k hf9 hk9 => by exact uV_n _ _ _ _ _ _ (by omega)), gI1_X c11 K hN (fun n k hn => by rfl), gI2_X c12 c11 c1 K hN (fun n k hn => by exact E1_f (by omega)) (fun f k hf9 => by exact uV_n _ _ _ _ _ _ (by omega)), gI3_X c13 c11 K hN (fun k => by rfl) (fun n k hn => by exact E1_f (by omega)) I.2.2.2.2.2.2.2.2.2.1.2 (fun f k hf9 => by exact uV_n _ _ _ _ _ _ (by omega))⟩
  intro l' hl'
  obtain ⟨h1, h2, h3, h4, h5, h6⟩ := c9 l' hl'
  refine ⟨h1, h2, h3, h4, ?_, fun p hp => ⟨?_, ?_⟩⟩
  · rw [st_i_pi_n _ _ _ _ _ _ (by omega), uV_n _ _ _ _ _ _ (by omega)]; exact h5
  · rw [st_i_pi_n _ _ _ _ _ _ (by omega), uV_n _ _ _ _ _ _ (by omega)]; exact (h6 p hp).1
  · by_cases e : l' = l ∧ p = k
    · rw [e.1, e.2, st_i_pi_s, uV_s]
    · rw [st_i_pi_n _ _ _ _ _ _ (by omega), uV_n _ _ _ _ _ _ (by omega)]; exact (h6 p hp).2
theorem CR_ip {S : xm_S} {V : VV} {N l : Nat} {x : Int32} (C : CR S V N) (I : Iv V) : CR (st_pi S 15 l x) (uV V 28 l x) N := by
  have K : KX fA0 (E1 15 l) N S (st_pi S 15 l x) := KX_pi (KX_rfl _ _ _ _) (E1_t _ _)
  have et : ∀ q, eT V (uV V 28 l x) q := eT_v fun f k h => uV_n _ _ _ _ _ _ (by omega)
  have b18 := I.2.2.1.1.2
  have b21 := I.2.2.1.2.2.2.1.2
  obtain ⟨hN, hf, c1, c2, c3, c4, c5, c6, c7, c8, c9, c10, c11, c12, c13⟩ := C
  refine ⟨by omega, hf, gS_X c1 K hN (fun k => by rfl), gX_X c2 c1 K hN (fun k => by exact E1_f (by omega)) (fun f hf9 => by exact uV_n _ _ _ _ _ _ (by omega)), gO_X c3 K hN (fun k hk => by rfl), gT_X c4 K hN (by rfl) (by exact E1_f (by omega)) (fun k => by exact E1_f (by omega)) (by exact et _), gP_X c5 K hN (fun n k hn => by rfl) (fun n k g1 g2 => by exact E1_f (by omega)) (fun k hk => ⟨by exact uV_n _ _ _ _ _ _ (by omega), by exact uV_n _ _ _ _ _ _ (by omega)⟩), gV_Y I c6 K hN (Nat.le_refl _) (fun n k hn => by rfl) (fun n k hn => by exact E1_f (by omega)) (fun f k hf9 => by exact uV_n _ _ _ _ _ _ (by omega)) (fun q hq => by exact et _), gW_X c7 K hN (Nat.le_refl _) (fun n k hn => by rfl) (fun n k hn => by exact E1_f (by omega)) (by exact uV_n _ _ _ _ _ _ (by omega)) (fun j hj => ⟨by exact et _, by exact uV_n _ _ _ _ _ _ (by omega), by exact uV_n _ _ _ _ _ _ (by omega)⟩), gA_X c8 K hN (Nat.le_refl _) (fun n k hn => by rfl) (fun n k hn => by exact E1_f (by omega)) (by exact uV_n _ _ _ _ _ _ (by omega)) (fun j hj => ⟨by exact et _, by exact uV_n _ _ _ _ _ _ (by omega), by exact uV_n _ _ _ _ _ _ (by omega)⟩), ?_, gM_X c10 K hN (fun n k hn => by exact E1_f (by omega)) (fun f k hf9 hk9 => by exact uV_n _ _ _ _ _ _ (by omega)), gI1_X c11 K hN (fun n k hn => by rfl), gI2_X c12 c11 c1 K hN (fun n k hn => by exact E1_f (by omega)) (fun f k hf9 => by exact uV_n _ _ _ _ _ _ (by omega)), gI3_X c13 c11 K hN (fun k => by rfl) (fun n k hn => by exact E1_f (by omega)) I.2.2.2.2.2.2.2.2.2.1.2 (fun f k hf9 => by exact uV_n _ _ _ _ _ _ (by omega))⟩
  intro l' hl'
  obtain ⟨h1, h2, h3, h4, h5, h6⟩ := c9 l' hl'
  refine ⟨h1, h2, h3, h4, ?_, fun p hp => ⟨?_, ?_⟩⟩
  · by_cases e : l' = l
    · rw [e, st_i_pi_s, uV_s]
    · rw [st_i_pi_n _ _ _ _ _ _ (by omega), uV_n _ _ _ _ _ _ (by omega)]; exact h5
  · rw [st_i_pi_n _ _ _ _ _ _ (by omega), uV_n _ _ _ _ _ _ (by omega)]; exact (h6 p hp).1
  · rw [st_i_pi_n _ _ _ _ _ _ (by omega), uV_n _ _ _ _ _ _ (by omega)]; exact (h6 p hp).2
theorem Iv_28 {V : VV} {l : Nat} {b : Bool} (I : Iv V) : Iv (uV V 28 l (bI b)) := by
  have ev : ∀ f k, f ≠ 28 → uV V 28 l (bI b) f k = V f k := fun f k h => uV_n _ _ _ _ _ _ (by omega)
  have et : ∀ q, eTs V (uV V 28 l (bI b)) q := fun q => ⟨ev _ _ (by omega), fun s hs => ev _ _ (by omega)⟩
  obtain ⟨g1, g2, g3, g4, g5, g6, g7, g8⟩ := I.2.2.2.1
  refine ⟨Iv1_e I.1 fun f k h => ev f k (by omega), Iv2_e I.1 I.2.1 (fun f k h => ev f k (by omega)) fun q hq _ => et q, Iv3_e I.2.2.1 (fun f k h => ev f k (by omega)) (fun q hq _ => et q) (fun q hq => VT_e (I.2.2.1.2.2.2.2.2.2 q hq) (et q)), ⟨In_e g1 (ev _ _ (by omega)), fun k hk => ⟨vLk_e (g2 k hk).1 (ev _ _ (by omega)) (ev _ _ (by omega)), vLk_e (g2 k hk).2 (ev _ _ (by omega)) (ev _ _ (by omega))⟩, fun k hk => ⟨?_, In_e (g3 k hk).2 (ev _ _ (by omega))⟩, In_e g4 (ev _ _ (by omega)), In_e g5 (ev _ _ (by omega)), In_e g6 (ev _ _ (by omega)), In_e g7 (ev _ _ (by omega)), fun k hk => ?_⟩, Iv5_e I.2.2.2.2 fun f k h => ev f k (by omega)⟩
  · by_cases e : k = l
    · rw [e]; exact In_bI (b := b) (uV_s _ _ _ _)
    · exact In_e (g3 k hk).1 (uV_n _ _ _ _ _ _ (by omega))
  · obtain ⟨a, b, c, d⟩ := g8 k hk
    exact ⟨Im_e a (ev _ _ (by omega)), In_e b (ev _ _ (by omega)), In_e c (ev _ _ (by omega)), In_e d (ev _ _ (by omega))⟩
theorem Iv_27 {V : VV} {k0 : Nat} {x : Int32} (I : Iv V) (hx : x = -1 ∨ ∃ n, x = nI n ∧ n < vn V 2 (k0 % 6)) : Iv (uV V 27 k0 x) := by
  have ev : ∀ f k, f ≠ 27 → uV V 27 k0 x f k = V f k := fun f k h => uV_n _ _ _ _ _ _ (by omega)
  have et : ∀ q, eTs V (uV V 27 k0 x) q := fun q => ⟨ev _ _ (by omega), fun s hs => ev _ _ (by omega)⟩
  obtain ⟨g1, g2, g3, g4, g5, g6, g7, g8⟩ := I.2.2.2.1
  refine ⟨Iv1_e I.1 fun f k h => ev f k (by omega), Iv2_e I.1 I.2.1 (fun f k h => ev f k (by omega)) fun q hq _ => et q, Iv3_e I.2.2.1 (fun f k h => ev f k (by omega)) (fun q hq _ => et q) (fun q hq => VT_e (I.2.2.1.2.2.2.2.2.2 q hq) (et q)), ⟨In_e g1 (ev _ _ (by omega)), fun k hk => ⟨?_, vLk_e (g2 k hk).2 (ev _ _ (by omega)) (ev _ _ (by omega))⟩, fun k hk => ⟨In_e (g3 k hk).1 (ev _ _ (by omega)), In_e (g3 k hk).2 (ev _ _ (by omega))⟩, In_e g4 (ev _ _ (by omega)), In_e g5 (ev _ _ (by omega)), In_e g6 (ev _ _ (by omega)), In_e g7 (ev _ _ (by omega)), fun k hk => ?_⟩, Iv5_e I.2.2.2.2 fun f k h => ev f k (by omega)⟩
  · by_cases e : k = k0
    · subst e
      rcases hx with hx | ⟨n, hx, hn⟩
      · exact .inl ((uV_s _ _ _ _).trans hx)
      · have c4 := (I.1.1 (k % 6) (by omega)).2.2
        have vx : vn (uV V 27 k x) 27 k = n := by unfold vn; rw [uV_s, hx, nI_clamp (by omega)]
        refine .inr ⟨?_, ?_⟩
        · rw [vx, uV_s]; exact hx
        · rw [vx, vn_e (ev 2 _ (by omega))]; exact hn
    · exact vLk_e (g2 k hk).1 (uV_n _ _ _ _ _ _ (by omega)) (ev _ _ (by omega))
  · obtain ⟨a, b, c, d⟩ := g8 k hk
    exact ⟨Im_e a (ev _ _ (by omega)), In_e b (ev _ _ (by omega)), In_e c (ev _ _ (by omega)), In_e d (ev _ _ (by omega))⟩
def prx (st : SS) (p : Nat) : Int32 := if st.1 = 0 then -1 else cv (st.2.2.2 p)
def prV (V : VV) (l : Nat) (st : SS) : Nat → VV
  | 0 => uV V 28 l (bI (decide (st.1 ≠ 0)))
  | p + 1 => uV (prV V l st p) 27 (6 * l + p) (prx st p)
theorem prV_f {V : VV} {l : Nat} {st : SS} : ∀ p f k, f ≠ 27 → f ≠ 28 → prV V l st p f k = V f k := by
  intro p
  induction p with
  | zero => intro f k _ h; exact uV_n _ _ _ _ _ _ (by omega)
  | succ p ih => intro f k h h2; exact (uV_n _ _ _ _ _ _ (by omega)).trans (ih f k h h2)
theorem prV_28 {V : VV} {l : Nat} {st : SS} : ∀ p, prV V l st p 28 l = bI (decide (st.1 ≠ 0)) := by
  intro p
  induction p with
  | zero => exact uV_s _ _ _ _
  | succ p ih => exact (uV_n _ _ _ _ _ _ (by omega)).trans ih
theorem Iv_pr {V : VV} {l : Nat} {st : SS} (I : Iv V) (o : st.1 ≠ 0 → okc V st.2.2.2) : ∀ p, p ≤ 6 → Iv (prV V l st p) := by
  intro p
  induction p with
  | zero => intro _; exact Iv_28 I
  | succ p ih =>
    intro hp
    refine Iv_27 (ih (by omega)) ?_
    unfold prx
    by_cases e : st.1 = 0
    · rw [if_pos e]; exact .inl rfl
    · rw [if_neg e]
      have ok := o e p (by omega)
      unfold cv
      by_cases e2 : st.2.2.2 p = 0
      · rw [if_pos e2]; exact .inl rfl
      · rw [if_neg e2]
        refine .inr ⟨_, rfl, ?_⟩
        rw [vn_e (prV_f p 2 _ (by decide) (by decide)), show (6 * l + p) % 6 = p by omega]
        omega
def t_solve (l b : Int32) : Nat := if inB l 0 (nI 2) && dv_1 b then 0 else 1
noncomputable def so (V : VV) (l b : Int32) : SS := skF V l.toNatClampNeg (ulB b) (nI 15) 2
noncomputable def v_solve (V : VV) (l b : Int32) : VV := if t_solve l b = 0 then prV V l.toNatClampNeg (so V l b) 6 else V
noncomputable def r_solve (V : VV) (l b : Int32) : Int32 := if (so V l b).1 = 0 then -1 else nI (so V l b).2.1
theorem v_solve_54 {V : VV} {l b : Int32} : v_solve V l b 54 0 = V 54 0 := by
  unfold v_solve
  split
  · exact prV_f _ _ _ (by decide) (by decide)
  · rfl
theorem Iv_solve {V : VV} {l b : Int32} (I : Iv V) : Iv (v_solve V l b) := by
  unfold v_solve
  split
  · exact Iv_pr I (sk_b I).2.2.2 6 (Nat.le_refl _)
  · exact I
theorem w_solve {S : xm_S} {V W : VV} {N : Nat} {l b : Int32} {g : Int32 → xm_S → Prop} (R : RR S V W N) (I : Iv V) (h : ∀ S' N', RR S' (v_solve V l b) W N' → (t_solve l b = 0 → st_l S' 1200 0 = (r_solve V l b).toInt64) → g (nI (t_solve l b)) S') : wp_L_solve (some 1) l b (some 1200) S g := by
  have I' := Iv_solve (l := l) (b := b) I
  have c1 := R.1.2.2.1
  have X : t_solve l b = 1 → g 1 S := fun t => by
    have w : v_solve V l b = V := by unfold v_solve; rw [t]; rfl
    rw [t, w] at h
    exact h S N R (fun e => absurd e (by decide))
  -- the solver at work
  have G : ∀ j x, l = nI j → j < 3 → inB l 0 (nI 2) = true → dv_1 b = true → (∀ p, p < 6 → bt x p = ulB b p) → wp_X11_solve_27 1 l x l (some 1) S (fun r5 S4 => ∃ n6, some 1200 = some n6 ∧ ∃ z9, st_t S4 n6 = some (103, z9) ∧ vp_in (0 : Int32) z9 ∧ ∀ S11, S11 = st_pl S4 n6 ((0 : Int32)).toNatClampNeg ((r5).toInt64) → g (0 : Int32) S11) (fun X9 S9 => (X9 = xm_eI ∧ g (1 : Int32) S9)) := fun j x el hj a d hu => by
    have t : t_solve l b = 0 := by unfold t_solve; rw [a, d]; rfl
    have cj : l.toNatClampNeg = j := by rw [el, nI_clamp (by omega)]
    have w : v_solve V l b = prV V j (so V l b) 6 := by unfold v_solve; rw [if_pos t, cj]
    rw [t, w] at h
    rw [w] at I'
    have es : so V l b = skF V j (bt x) (nI (2 ^ vn V 18 0 - 1)) 2 := by
      unfold so
      rw [cj]
      exact (skF_c I (al_e I) hu).symm
    have sb := sk_b (pl := j) (goal := 2) (ul := bt x) (ask := nI (2 ^ vn V 18 0 - 1)) I
    subst el
    unfold wp_X11_solve_27
    refine ⟨1, rfl, c1.1, c_prep R I hj fun S4 R4 F4 T4 => ⟨R4.1.2.2.1.1, q_all R4.1 I ?_⟩⟩
    have d1 := R4.1.2.2.1
    refine ⟨16, (gS_16 d1).1, (gS_16 d1).2, c_seek (goal := 2) R4.1 I hj (by decide) T4 fun S5 F5 K5 => ?_⟩
    have R5 := SF_RR (SF_k F5) R4 I
    rw [← es] at K5 sb ⊢
    unfold r_solve at h
    generalize so V (nI j) b = st at K5 sb h I' w ⊢
    have e1 := R5.1.2.2.1
    have s15 : st_r S4 1 9 = some 15 := d1.2.2.2.2.2.2.2.2.2.2.2.2.1
    have t15 : st_t S5 15 = some (101, 3) := e1.2.2.2.2.2.2.2.2.2.2.2.2.2.1
    have Y : wp_X11_solve_55 1 (nI j) (bI (decide (st.1 ≠ 0))) (nI j) (st_r S4 1 9) S5 (fun r5 S4 => ∃ n6, some 1200 = some n6 ∧ ∃ z9, st_t S4 n6 = some (103, z9) ∧ vp_in (0 : Int32) z9 ∧ ∀ S11, S11 = st_pl S4 n6 ((0 : Int32)).toNatClampNeg ((r5).toInt64) → g (0 : Int32) S11) (fun X9 S9 => (X9 = xm_eI ∧ g (1 : Int32) S9)) := by
      unfold wp_X11_solve_55
      refine ⟨15, s15, _, t15, vp_in_nI hj (by decide), bI_01 _, fun S44 e44 => ?_⟩
      rw [nI_clamp (show j < 2 ^ 31 by omega)] at e44
      have R44 : RR S44 (prV V j st 0) W N := by
        rw [e44]
        exact ⟨CR_ip R5.1 I, MR_K R5.2.1 (KM_pi (KM_rfl _) (by omega)), R5.2.2⟩
      have k44 : SRe S44 st := SRe_k K5 fun n k hn => by rw [e44, st_i_pi_n _ _ _ _ _ _ (by omega)]
      unfold wp_X11_solve_58
      intro Z hZ
      have H : ∀ d p S1, p + d = 6 → RR S1 (prV V j st p) W N → SRe S1 st → Z (nI j) (nI p) S1 := by
        intro d
        induction d with
        | zero =>
          intro p S1 hp R1 K1
          rw [show p = 6 by omega] at R1 ⊢
          have f1 := R1.1.2.2.1
          have L := CR_gL R1.1 j hj
          refine hZ _ _ _ ?_
          unfold wp_X11_solve_58B wp_X11_solve_120
          rw [nI_clamp (show j < 2 ^ 31 by omega)]
          refine ⟨fun _ => ⟨f1.1, 15, f1.2.2.2.2.2.2.2.2.2.2.2.2.1, _, f1.2.2.2.2.2.2.2.2.2.2.2.2.2.1, vp_in_nI hj (by decide), ?_⟩, fun e => absurd (nI_le (Nat.le_refl 6) (by decide)) e⟩
          rw [L.2.2.2.2.1, prV_28]
          refine bI_c (fun b1 => ⟨16, (gS_16 f1).1, (gS_16 f1).2, ?_⟩) (fun b0 => ?_)
          · have nz := of_decide_eq_true b1
            rw [(K1.2.1 nz).1]
            rw [if_neg nz] at h
            exact w_out R1 I' fun S' R' hl => h S' N R' fun _ => hl
          · have z : st.1 = 0 := Classical.byContradiction fun hh => of_decide_eq_false b0 hh
            rw [if_pos z] at h
            exact w_out R1 I' fun S' R' hl => h S' N R' fun _ => hl
        | succ d ih =>
          intro p S1 hp R1 K1
          have I1 := Iv_pr (l := j) (st := st) I sb.2.2.2 p (by omega)
          have f1 := R1.1.2.2.1
          have o1 := R1.1.2.2.2.2.1
          have s7 := gS_7 f1
          have L := CR_gL R1.1 j hj
          refine hZ _ _ _ ?_
          unfold wp_X11_solve_58B
          rw [nI_clamp (show j < 2 ^ 31 by omega), nI_clamp (show p < 2 ^ 31 by omega)]
          -- the cell
          have M : ∀ y, y = prx st p → wp_X11_solve_93 1 (nI j) (nI p) y (nI p) (st_r S1 11 j) S1 (fun r5 S4 => ∃ n6, some 1200 = some n6 ∧ ∃ z9, st_t S4 n6 = some (103, z9) ∧ vp_in (0 : Int32) z9 ∧ ∀ S11, S11 = st_pl S4 n6 ((0 : Int32)).toNatClampNeg ((r5).toInt64) → g (0 : Int32) S11) (fun X9 S9 => (X9 = xm_eI ∧ g (1 : Int32) S9)) Z := fun y ey => by
            unfold wp_X11_solve_93
            rw [L.2.2.1, nI_clamp (show p < 2 ^ 31 by omega)]
            refine ⟨12 + j, rfl, _, L.2.2.2.1, vp_in_nI (show p < 6 by omega) (by decide), fun S6 e6 y8 e8 => ?_⟩
            rw [ey] at e6
            rw [e8, nI_1]
            exact ih (p + 1) S6 (by omega) (by rw [e6]; exact ⟨CR_pr hj (by omega) R1.1 I1, MR_K R1.2.1 (KM_pi (KM_rfl _) (by omega)), R1.2.2⟩) (SRe_k K1 fun n k hn => by rw [e6, st_i_pi_n _ _ _ _ _ _ (by omega)])
          unfold prx at M
          refine ⟨fun e => absurd e (nI_ge (show p < 6 by omega) (by decide)), fun _ => ⟨f1.1, 11, s7.2.2.1, _, s7.2.2.2, vp_in_nI hj (by decide), 15, f1.2.2.2.2.2.2.2.2.2.2.2.2.1, _, f1.2.2.2.2.2.2.2.2.2.2.2.2.2.1, vp_in_nI hj (by decide), ?_⟩⟩
          rw [L.2.2.2.2.1, prV_28]
          refine bI_c (fun b1 => ⟨16, (gS_16 f1).1, (gS_16 f1).2, 21, o1.2.2.2.2.2.2.2.2.1, _, o1.2.2.2.2.2.2.2.2.2, vp_in_nI (show p < 6 by omega) (by decide), M _ ?_⟩) (fun b0 => M _ ?_)
          · have nz := of_decide_eq_true b1
            rw [if_neg nz]
            exact (K1.2.1 nz).2.2 p (by omega)
          · have z : st.1 = 0 := Classical.byContradiction fun hh => of_decide_eq_false b0 hh
            rw [if_pos z]
      exact H 6 0 S44 rfl R44 k44
    rw [nI_l0 (by omega)]
    refine ⟨fun z => ?_, fun nz => ?_⟩
    · rw [decide_eq_false (fun hh => hh z)] at Y; exact Y
    · rw [decide_eq_true nz] at Y; exact Y
  unfold wp_L_solve wp_X11_solve wp_X11_solve_13
  refine ⟨1, rfl, c1.1, q_plat (fun a => ⟨fun e => ⟨fun ne => absurd e ne, fun _ => ?_⟩, fun ne => q_pack (fun a2 => ⟨fun _ => ?_, fun e => absurd e ne⟩) (fun a2 => ⟨rfl, X ?_⟩)⟩) (fun a => ⟨rfl, X ?_⟩)⟩
  · obtain ⟨j, hj, el⟩ := inB_nI a (by decide)
    exact G j 0 el (by omega) a (by unfold dv_1; rw [decide_eq_true e]; rfl) (by rw [e]; exact ul_0)
  · obtain ⟨j, hj, el⟩ := inB_nI a (by decide)
    obtain ⟨q, hq, eb⟩ := inB_nI a2 (by decide)
    exact G j _ el (by omega) a (by unfold dv_1; rw [a2, Bool.or_true]) (by rw [eb]; exact ul_1 (by omega))
  · unfold t_solve dv_1
    rw [a2, decide_eq_false ne, Bool.false_or, Bool.and_false]; rfl
  · unfold t_solve
    rw [a, Bool.false_and]; rfl
theorem ml_solve {S : xm_S} {V W : VV} {N : Nat} {l b : Int32} {g : Int32 → xm_S → Prop} (R : RR S V W N) (I : Iv V) (IW : Iv W) (h : ∀ S' r, RR S' V (v_solve W l b) N → st_i S' 1000 0 = nI (t_solve l b) → (t_solve l b = 0 → r = r_solve W l b) → st_l S' 1200 0 = st_l S 1200 0 → g r S') : wp_X12_solve 1000 l b S g := by
  have X : t_solve l b = 1 → wp_X12_solve_24 1000 l b (some 1000) S g := fun t => by
    have w : v_solve W l b = W := by unfold v_solve; rw [t]; rfl
    rw [t, w] at h
    unfold wp_X12_solve_24 wp_X12_solve_25
    refine ⟨1000, rfl, R.2.1.1.1, m_may (t := 1) R I rfl (by decide) fun S4 R4 k4 e4 => ⟨fun e => absurd rfl e, fun _ => ?_⟩⟩
    exact h S4 0 R4 e4 (fun e => absurd e (by decide)) ((k4 1200 (by omega)).2.2.1 0)
  have G : inB l 0 (nI 2) = true → dv_1 b = true → wp_X12_solve_20 1000 l b (some 1000) S g := fun a d => by
    obtain ⟨j, hj, el⟩ := inB_nI a (by decide)
    have hj3 : j < 3 := by omega
    have t : t_solve l b = 0 := by unfold t_solve; rw [a, d]; rfl
    have cj : l.toNatClampNeg = j := by rw [el, nI_clamp (by omega)]
    have w : v_solve W l b = prV W j (so W l b) 6 := by unfold v_solve; rw [if_pos t, cj]
    have b2 : b ≠ -2 := by
      unfold dv_1 at d
      rw [Bool.or_eq_true, decide_eq_true_eq] at d
      rcases d with d | d
      · rw [d]; decide
      · obtain ⟨q, hq, eb⟩ := inB_nI d (by decide)
        rw [eb]
        intro e
        have := congrArg Int32.toInt e
        rw [nI_toInt (by omega)] at this
        have e2 : (-2 : Int32).toInt = -2 := by decide
        rw [e2] at this
        omega
    rw [t, w] at h
    unfold r_solve at h
    have sb := sk_b (pl := j) (goal := 2) (ul := ulB b) (ask := nI 15) IW
    have es : so W l b = skF W j (ulB b) (nI 15) 2 := by unfold so; rw [cj]
    rw [es] at h
    subst el
    unfold wp_X12_solve_20 wp_X12_solve_25
    refine ⟨1000, rfl, R.2.1.1.1, m_may (t := 0) R I rfl (by decide) fun S4 R4 k4 e4 => ⟨fun _ => ⟨R4.2.1.1.1, m_solves R4.2.1 IW hj3 b2 fun S5 F5 k5 => ?_⟩, fun e => absurd e (by decide)⟩⟩
    generalize skF W j (ulB b) (nI 15) 2 = st at h sb k5 ⊢
    have M5 := MF_MR F5 R4.2.1
    have K5 : KC S4 S5 := MF_KC F5
    have z5 : st_i S5 1000 0 = 0 := (MF_0 F5).trans e4
    have Y : ∀ r31, r31 = (if st.1 = 0 then -1 else nI (10 * st.2.1 + st.2.2.1)) → wp_X12_solve_55 1000 (nI j) r31 (bI (decide (st.1 ≠ 0))) (nI j) (st_r S5 1000 28) S5 g := fun r31 er => by
      unfold wp_X12_solve_55
      rw [nI_clamp (show j < 2 ^ 31 by omega)]
      refine ⟨_, MS_r M5.1 28, _, MS_t M5.1 28, vp_in_nI hj3 (by decide), bI_01 _, fun S22 e22 => ?_⟩
      have M22 : MR S22 (prV W j st 0) := by rw [e22]; exact MR_a (f := 28) M5
      unfold wp_X12_solve_59
      intro Z hZ
      have H : ∀ d p S1, p + d = 6 → KC S4 S1 → MR S1 (prV W j st p) → st_i S1 1000 0 = 0 → (st.1 ≠ 0 → ∀ i, i < 6 → st_i S1 1036 i = cv (st.2.2.2 i)) → Z (nI j) r31 (nI p) S1 := by
        intro d
        induction d with
        | zero =>
          intro p S1 hp K1 M1 z1 b1
          rw [show p = 6 by omega] at M1 ⊢
          refine hZ _ _ _ _ ?_
          unfold wp_X12_solve_59B wp_X12_solve_113
          have out : ∀ x, x = (if st.1 = 0 then -1 else nI st.2.1) → g x S1 := fun x ex => h S1 x (RR_m R4 I K1 M1) z1 (fun _ => ex) ((KC_tr k4 K1 1200 (by omega)).2.2.1 0)
          refine ⟨fun _ => ⟨fun ne => out _ ?_, fun e => out _ ?_⟩, fun e => absurd (nI_le (Nat.le_refl 6) (by decide)) e⟩
          · have nz : st.1 ≠ 0 := fun z => by rw [if_pos z] at er; exact ne er
            rw [if_neg nz] at er ⊢
            rw [er, pk_div (by omega) (by decide) (by decide), show (10 * st.2.1 + st.2.2.1) / 10 = st.2.1 by omega]
          · have z : st.1 = 0 := Classical.byContradiction fun nz => by
              rw [if_neg nz] at er
              rw [er] at e
              exact nI_m1 (by omega) e
            rw [if_pos z]
        | succ d ih =>
          intro p S1 hp K1 M1 z1 b1
          refine hZ _ _ _ _ ?_
          unfold wp_X12_solve_59B
          rw [nI_clamp (show p < 2 ^ 31 by omega), pk_mul, nI_add]
          have T : ∀ y, y = prx st p → wp_X12_solve_93 1000 (nI j) r31 (nI p) y (nI (6 * j + p)) (st_r S1 1000 27) S1 g Z := fun y ey => by
            unfold wp_X12_solve_93
            rw [nI_clamp (show 6 * j + p < 2 ^ 31 by omega)]
            refine ⟨_, MS_r M1.1 27, _, MS_t M1.1 27, vp_in_nI (show 6 * j + p < 18 by omega) (by decide), fun S6 e6 y8 e8 => ?_⟩
            rw [ey] at e6
            rw [e8, nI_1]
            refine ih (p + 1) S6 (by omega) (KC_tr K1 (by rw [e6]; exact KC_pi (KC_rfl _) (by omega))) (by rw [e6]; exact MR_a (f := 27) M1) (by rw [e6, st_i_pi_n _ _ _ _ _ _ (by omega)]; exact z1) fun nz i hi => ?_
            rw [e6, st_i_pi_n _ _ _ _ _ _ (by omega)]; exact b1 nz i hi
          unfold prx at T
          refine ⟨fun e => absurd e (nI_ge (show p < 6 by omega) (by decide)), fun _ => ⟨M1.1.1, fun ne => ⟨_, MS_r M1.1 35, _, MS_t M1.1 35, vp_in_nI (show p < 6 by omega) (by decide), T _ ?_⟩, fun e => T _ ?_⟩⟩
          · have nz : st.1 ≠ 0 := fun z => by rw [if_pos z] at er; exact ne er
            rw [if_neg nz]
            exact b1 nz p (by omega)
          · have z : st.1 = 0 := Classical.byContradiction fun nz => by
              rw [if_neg nz] at er
              rw [er] at e
              exact nI_m1 (by omega) e
            rw [if_pos z]
      refine H 6 0 S22 rfl (KC_tr K5 (by rw [e22]; exact KC_pi (KC_rfl _) (by omega))) M22 (by rw [e22, st_i_pi_n _ _ _ _ _ _ (by omega)]; exact z5) fun nz i hi => ?_
      rw [e22, st_i_pi_n _ _ _ _ _ _ (by omega)]; exact k5 nz i hi
    refine ⟨M5.1.1, fun e => ?_, fun ne => ?_⟩
    · have z : st.1 = 0 := Classical.byContradiction fun nz => by
        rw [if_neg nz] at e
        exact nI_m1 (by omega) e
      have q := Y _ rfl
      rw [decide_eq_false (fun hh => hh z)] at q
      exact q
    · have nz : st.1 ≠ 0 := fun z => by rw [if_pos z] at ne; exact ne rfl
      have q := Y _ rfl
      rw [decide_eq_true nz] at q
      exact q
  unfold wp_X12_solve
  refine m_plat (bI_c (fun a => ⟨fun e => G a (by unfold dv_1; rw [decide_eq_true e]; rfl), fun ne => m_pack (bI_c (fun a2 => G a (by unfold dv_1; rw [a2, Bool.or_true])) (fun a2 => X ?_))⟩) (fun a => X ?_))
  · unfold t_solve dv_1
    rw [a2, decide_eq_false ne, Bool.false_or, Bool.and_false]; rfl
  · unfold t_solve
    rw [a, Bool.false_and]; rfl
theorem lc_solve {m b len kc ks N : Nat} {xs : Nat → Int32} {x4 : Int32} {S : xm_S} {V : VV} {g : Int32 → xm_S → Prop} {Z : Option Nat → Option Nat → Option Nat → Int32 → xm_S → Nat → Nat → Prop} (R : RR S V V N) (I : Iv V) (hm : vn V 54 0 ≤ m) (nx : NX m b len xs x4 kc ks g Z) (hv1 : vp_in (x4 + (1 : Int32)) len) (hv2 : vp_in (x4 + nI 2) len) : wp_L_law_1192 b len xs (some 1) (some 1000) (some 1200) x4 S kc ks g Z := by
  obtain ⟨k1, k2, nx⟩ := nx
  unfold wp_L_law_1192 wp_L_law_1257
  refine ⟨hv1, hv2, by omega, by omega, w_solve R I fun S1 N1 R1 h1 => ⟨hv1, hv2, 1000, rfl, R1.2.1.1.1, by omega, by omega, ml_solve R1 (Iv_solve I) I fun S2 b R2 e2 hb hl => ⟨1000, rfl, R2.2.1.1.1, by omega, by omega, m_thrown R2.2.1 e2 ?_⟩⟩⟩
  exact lc_cmp R2.2.2 (by unfold t_solve; repeat' split
                          all_goals decide) (fun e => hl.trans (h1 e)) hb (nx _ _ _ _ _ R2 (Iv_solve I) (md v_solve_54 hm) (by omega) (by omega))
