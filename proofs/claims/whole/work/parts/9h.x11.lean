-- the abstract state at the beginning
def VZ (a b c d f k : Nat) : Int32 := if f = 27 ∨ f = 29 then (if k < a then -1 else 0) else if f = 40 then (if k < b then -1 else 0) else if f = 48 then (if k < c then -1 else 0) else if f = 50 then (if k < d then -1 else 0) else if f = 26 then nI 15 else if f = 37 ∨ f = 38 then 1 else if f = 55 then -1 else 0
def V0 : VV := VZ 18 72 16 54
theorem V0_27 {k : Nat} (h : k < 18) : V0 27 k = -1 := by unfold V0 VZ; rw [if_pos (by decide), if_pos h]
theorem V0_29 {k : Nat} (h : k < 18) : V0 29 k = -1 := by unfold V0 VZ; rw [if_pos (by decide), if_pos h]
theorem V0_40 {k : Nat} (h : k < 72) : V0 40 k = -1 := by unfold V0 VZ; rw [if_neg (by decide), if_pos rfl, if_pos h]
theorem V0_48 {k : Nat} (h : k < 16) : V0 48 k = -1 := by unfold V0 VZ; rw [if_neg (by decide), if_neg (by decide), if_pos rfl, if_pos h]
theorem V0_50 {k : Nat} (h : k < 54) : V0 50 k = -1 := by unfold V0 VZ; rw [if_neg (by decide), if_neg (by decide), if_neg (by decide), if_pos rfl, if_pos h]
theorem In_z {V : VV} {f k b : Nat} (h : V f k = 0) : In V f k b := (In_nI (n := 0) (h.trans nI_0.symm) (Nat.zero_le _) (by decide)).1
theorem vn_z {V : VV} {f k : Nat} (h : V f k = 0) : vn V f k = 0 := by unfold vn; rw [h]; rfl
theorem nlt {x j : Nat} {P : Prop} (h : j < x) (e : x = 0) : P := by omega
theorem tL_0 (q : Nat) : tL V0 q = 0 := vn_z (V := V0) (f := 25) (k := q) rfl
theorem VT_0 (q : Nat) : VT V0 q := by
  refine ⟨?_, ?_, fun s hs => nlt hs (tL_0 q)⟩
  · rw [tL_0]; exact nI_0.symm
  · rw [tT_0 (tL_0 q), tL_0]; exact TX_0
theorem Iv_0 : Iv V0 := by
  refine ⟨⟨fun p hp => ⟨In_z rfl, In_z rfl⟩, fun a ha => ⟨In_z rfl, In_z rfl, In_z rfl, In_z rfl, In_z rfl, In_z rfl⟩, fun a ha => ⟨In_z rfl, In_z rfl, In_z rfl, In_z rfl⟩, fun a ha _ => ⟨vn_z rfl, vn_z rfl, vn_z rfl, vn_z rfl, rfl, rfl, fun j hj => V0_40 (by omega)⟩⟩, ⟨fun k hk => ⟨In_z rfl, In_z rfl, In_z rfl, .inr (In_z rfl)⟩, fun k hk => ⟨In_z rfl, In_z rfl, In_z rfl⟩, fun a ha => ⟨fun j hj => nlt hj (vn_z rfl), fun j hj => nlt hj (vn_z rfl), fun j hj => nlt hj (vn_z rfl)⟩⟩, ⟨In_z rfl, fun k hk => ⟨In_z rfl, In_z rfl⟩, fun k hk => nlt hk (vn_z rfl), In_z rfl, fun k hk => ⟨In_z rfl, In_z rfl⟩, fun k hk => nlt hk (vn_z rfl), fun q hq => VT_0 q⟩, ⟨?_, fun k hk => ⟨.inl (V0_27 hk), .inl (V0_29 hk)⟩, fun k hk => ⟨In_z rfl, In_z rfl⟩, In_z rfl, ?_, ?_, In_z rfl, fun k hk => ⟨.inl (V0_40 hk), In_z rfl, In_z rfl, In_z rfl⟩⟩, ⟨fun k hk => ⟨.inl (V0_48 hk), In_z rfl⟩, fun k hk => .inl (V0_50 hk), fun k hk => ⟨iff_of_true (V0_50 (by omega)) (V0_50 (by omega)), iff_of_true (V0_50 (by omega)) (V0_50 (by omega))⟩, In_z rfl, .inl rfl, In_z rfl, fun k hk => nlt hk (vn_z rfl), fun i j _ hj => nlt hj (vn_z rfl)⟩⟩
  · exact (In_nI (n := 15) rfl (by decide) (by decide)).1
  · exact (In_nI (n := 1) rfl (by decide) (by decide)).1
  · exact (In_nI (n := 1) rfl (by decide) (by decide)).1
-- the object's constructor
theorem gO_k {lo hi : Nat} {S S' : xm_S} (F : FO lo hi S S') (h : gO S) (o : 21 < lo ∨ hi < 16) : gO S' := by
  obtain ⟨a1, a2, a3, a4, a5, a6, a7, a8, a9, a10⟩ := h
  exact ⟨((F _ (by omega)).2.1 _).trans a1, (F _ (by omega)).1.trans a2, ((F _ (by omega)).2.1 _).trans a3, (F _ (by omega)).1.trans a4, ((F _ (by omega)).2.1 _).trans a5, (F _ (by omega)).1.trans a6, ((F _ (by omega)).2.1 _).trans a7, (F _ (by omega)).1.trans a8, ((F _ (by omega)).2.1 _).trans a9, (F _ (by omega)).1.trans a10⟩
def J1 (S : xm_S) : Prop := (st_t S 1 = some (11, 0) ∧ st_r S 1 0 = some 2 ∧ st_r S 1 1 = some 4 ∧ st_t S 4 = some (115, 6) ∧ st_r S 1 2 = some 5 ∧ st_t S 5 = some (114, 4) ∧ st_r S 1 5 = some 6 ∧ st_t S 6 = some (110, 6) ∧ st_r S 1 7 = some 7 ∧ st_t S 7 = some (104, 3) ∧ st_r S 1 8 = some 11 ∧ st_t S 11 = some (104, 3) ∧ st_r S 1 9 = some 15 ∧ st_t S 15 = some (101, 3)) ∧
  (st_t S 2 = some (8, 0) ∧ st_r S 2 0 = some 3 ∧ st_t S 3 = some (102, 40) ∧ st_i S 2 1 = 0) ∧
  ((st_r S 7 0 = some 8 ∧ st_r S 7 1 = some 9 ∧ st_r S 7 2 = some 10) ∧ (st_t S 8 = some (100, 6) ∧ st_t S 9 = some (100, 6) ∧ st_t S 10 = some (100, 6)) ∧ (st_r S 11 0 = some 12 ∧ st_r S 11 1 = some 13 ∧ st_r S 11 2 = some 14) ∧ st_t S 12 = some (100, 6) ∧ st_t S 13 = some (100, 6) ∧ st_t S 14 = some (100, 6)) ∧
  (st_i S 1 3 = 0 ∧ st_i S 1 4 = nI 15 ∧ st_i S 1 6 = 0 ∧ ∀ l, st_i S 15 l = 0)
theorem J1_k {lo hi : Nat} {S S' : xm_S} (h : J1 S) (F : FO lo hi S S') (o : 15 < lo) : J1 S' := by
  have T : ∀ m, m ≤ 15 → st_t S' m = st_t S m := fun m hm => (F m (by omega)).1
  have R : ∀ m k, m ≤ 15 → st_r S' m k = st_r S m k := fun m k hm => (F m (by omega)).2.1 k
  have I : ∀ m k, m ≤ 15 → st_i S' m k = st_i S m k := fun m k hm => (F m (by omega)).2.2 k
  obtain ⟨⟨a1, a2, a3, a4, a5, a6, a7, a8, a9, a10, a11, a12, a13, a14⟩, ⟨b1, b2, b3, b4⟩, ⟨⟨c1, c2, c3⟩, ⟨c4, c5, c6⟩, ⟨c7, c8, c9⟩, c10, c11, c12⟩, d1, d2, d3, d4⟩ := h
  refine ⟨⟨(T _ ?_).trans a1, (R _ _ ?_).trans a2, (R _ _ ?_).trans a3, (T _ ?_).trans a4, (R _ _ ?_).trans a5, (T _ ?_).trans a6, (R _ _ ?_).trans a7, (T _ ?_).trans a8, (R _ _ ?_).trans a9, (T _ ?_).trans a10, (R _ _ ?_).trans a11, (T _ ?_).trans a12, (R _ _ ?_).trans a13, (T _ ?_).trans a14⟩, ⟨(T _ ?_).trans b1, (R _ _ ?_).trans b2, (T _ ?_).trans b3, (I _ _ ?_).trans b4⟩, ⟨⟨(R _ _ ?_).trans c1, (R _ _ ?_).trans c2, (R _ _ ?_).trans c3⟩, ⟨(T _ ?_).trans c4, (T _ ?_).trans c5, (T _ ?_).trans c6⟩, ⟨(R _ _ ?_).trans c7, (R _ _ ?_).trans c8, (R _ _ ?_).trans c9⟩, (T _ ?_).trans c10, (T _ ?_).trans c11, (T _ ?_).trans c12⟩, (I _ _ ?_).trans d1, (I _ _ ?_).trans d2, (I _ _ ?_).trans d3, fun l => (I _ _ ?_).trans (d4 l)⟩
  all_goals decide
def J2 (S : xm_S) : Prop := J1 S ∧ (st_r S 1 10 = some 16 ∧ st_r S 1 15 = some 22 ∧ st_t S 22 = some (101, 3) ∧ st_r S 1 16 = some 23 ∧ st_t S 23 = some (100, 3)) ∧ (st_i S 1 11 = 0 ∧ st_i S 1 12 = 1 ∧ st_i S 1 13 = 1 ∧ st_i S 1 14 = 0) ∧ ∀ m, st_i S 22 m = 0 ∧ st_i S 23 m = 0
theorem J2_k {lo hi : Nat} {S S' : xm_S} (h : J2 S) (F : FO lo hi S S') (o : 23 < lo) : J2 S' := by
  obtain ⟨j, ⟨a1, a2, a3, a4, a5⟩, ⟨b1, b2, b3, b4⟩, c⟩ := h
  exact ⟨J1_k j F (by omega), ⟨((F _ (by omega)).2.1 _).trans a1, ((F _ (by omega)).2.1 _).trans a2, (F _ (by omega)).1.trans a3, ((F _ (by omega)).2.1 _).trans a4, (F _ (by omega)).1.trans a5⟩, ⟨((F _ (by omega)).2.2 _).trans b1, ((F _ (by omega)).2.2 _).trans b2, ((F _ (by omega)).2.2 _).trans b3, ((F _ (by omega)).2.2 _).trans b4⟩, fun m => ⟨((F _ (by omega)).2.2 _).trans (c m).1, ((F _ (by omega)).2.2 _).trans (c m).2⟩⟩
def gL0 (S : xm_S) : Prop := ∀ l, l < 3 → st_r S 7 l = some (8 + l) ∧ st_t S (8 + l) = some (100, 6) ∧ st_r S 11 l = some (12 + l) ∧ st_t S (12 + l) = some (100, 6)
theorem gL0_J {S : xm_S} (h : J1 S) : gL0 S := by
  obtain ⟨_, _, ⟨⟨c1, c2, c3⟩, ⟨c4, c5, c6⟩, ⟨c7, c8, c9⟩, c10, c11, c12⟩, _⟩ := h
  intro l hl
  match l, hl with
  | 0, _ => exact ⟨c1, c4, c7, c10⟩
  | 1, _ => exact ⟨c2, c5, c8, c11⟩
  | 2, _ => exact ⟨c3, c6, c9, c12⟩
/-- the two tables of rows -/
theorem i_171 {S : xm_S} {kc ks : Nat} {g : xm_S → Prop} (c1 : gS S) (cl : gL0 S) (hk : kc ≤ 400) (hs : ks ≤ 3000) (h : ∀ S', (∀ m, st_t S' m = st_t S m) → (∀ m k, st_r S' m k = st_r S m k) → (∀ m k, ¬ (8 ≤ m ∧ m ≤ 14) → st_i S' m k = st_i S m k) → (∀ l p, l < 3 → p < 6 → st_i S' (8 + l) p = -1 ∧ st_i S' (12 + l) p = -1) → g S') : wp_X11_init_171 1 (0 : Int32) S kc ks g := by
  obtain ⟨s1, s2, s3, s4, s5, s6, s7, s8, s9, s10, s11, s12, s13⟩ := c1
  unfold wp_X11_init_171
  intro Z hZ
  have H : ∀ d l S1, l + d = 3 → (∀ m, st_t S1 m = st_t S m) → (∀ m k, st_r S1 m k = st_r S m k) → (∀ m k, ¬ (8 ≤ m ∧ m ≤ 14) → st_i S1 m k = st_i S m k) → (∀ j p, j < l → p < 6 → st_i S1 (8 + j) p = -1 ∧ st_i S1 (12 + j) p = -1) → Z (nI l) S1 kc ks := by
    intro d
    induction d with
    | zero =>
      intro l S1 hl f1 f2 f3 k1
      refine hZ _ _ _ _ ?_
      unfold wp_X11_init_171B
      rw [show l = 3 by omega] at k1 ⊢
      exact ⟨fun _ => ⟨hk, hs, h S1 f1 f2 f3 (fun j p hj hp => k1 j p hj hp)⟩, fun e => absurd (nI_le (Nat.le_refl 3) (by decide)) e⟩
    | succ d ih =>
      intro l S1 hl f1 f2 f3 k1
      refine hZ _ _ _ _ ?_
      unfold wp_X11_init_171B wp_X11_init_178
      refine ⟨fun e => absurd e (nI_ge (show l < 3 by omega) (by decide)), fun _ Z2 hZ2 => ?_⟩
      have hl3 : l < 3 := by omega
      obtain ⟨q1, q2, q3, q4⟩ := cl l hl3
      have H2 : ∀ d p S2, p + d = 6 → (∀ m, st_t S2 m = st_t S m) → (∀ m k, st_r S2 m k = st_r S m k) → (∀ m k, ¬ (8 ≤ m ∧ m ≤ 14) → st_i S2 m k = st_i S m k) → (∀ j p, j < l → p < 6 → st_i S2 (8 + j) p = -1 ∧ st_i S2 (12 + j) p = -1) → (∀ i, i < p → st_i S2 (8 + l) i = -1 ∧ st_i S2 (12 + l) i = -1) → Z2 (nI l) (nI p) S2 kc ks := by
        intro d2
        induction d2 with
        | zero =>
          intro p S2 hp e1 e2 e3 k2 k3
          refine hZ2 _ _ _ _ _ ?_
          unfold wp_X11_init_178B
          rw [show p = 6 by omega] at k3 ⊢
          refine ⟨fun _ y ey => ?_, fun e => absurd (nI_le (Nat.le_refl 6) (by decide)) e⟩
          rw [ey, nI_1]
          refine ih (l + 1) S2 (by omega) e1 e2 e3 fun j i hj hi => ?_
          by_cases e : j = l
          · rw [e]; exact k3 i hi
          · exact k2 j i (by omega) hi
        | succ d2 ih2 =>
          intro p S2 hp e1 e2 e3 k2 k3
          refine hZ2 _ _ _ _ _ ?_
          unfold wp_X11_init_178B
          rw [nI_clamp (show l < 2 ^ 31 by omega), nI_clamp (show p < 2 ^ 31 by omega)]
          refine ⟨fun e => absurd e (nI_ge (show p < 6 by omega) (by decide)), fun _ => ⟨(e1 _).trans s1, 7, (e2 _ _).trans s9, _, (e1 _).trans s10, vp_in_nI hl3 (by decide), 8 + l, (e2 _ _).trans q1, _, (e1 _).trans q2, vp_in_nI (show p < 6 by omega) (by decide), fun S14 e14 => ⟨11, by rw [e14]; exact (e2 _ _).trans s11, _, by rw [e14]; exact (e1 _).trans s12, vp_in_nI hl3 (by decide), 12 + l, by rw [e14]; exact (e2 _ _).trans q3, _, by rw [e14]; exact (e1 _).trans q4, vp_in_nI (show p < 6 by omega) (by decide), fun S26 e26 y ey => ?_⟩⟩⟩
          rw [ey, nI_1]
          have i26 : ∀ m k, ¬ (m = 8 + l ∧ k = p) → ¬ (m = 12 + l ∧ k = p) → st_i S26 m k = st_i S2 m k := fun m k n1 n2 => by rw [e26, st_i_pi_n _ _ _ _ _ _ n2, e14, st_i_pi_n _ _ _ _ _ _ n1]
          refine ih2 (p + 1) S26 (by omega) (fun m => by rw [e26, e14]; exact e1 m) (fun m k => by rw [e26, e14]; exact e2 m k) (fun m k hm => (i26 m k (by omega) (by omega)).trans (e3 m k hm)) (fun j i hj hi => ?_) fun i hi => ?_
          · rw [i26 _ _ (by omega) (by omega), i26 _ _ (by omega) (by omega)]; exact k2 j i hj hi
          · by_cases e : i = p
            · rw [e]
              refine ⟨?_, ?_⟩
              · rw [e26, st_i_pi_n _ _ _ _ _ _ (by omega), e14, st_i_pi_s]
              · rw [e26, st_i_pi_s]
            · rw [i26 _ _ (by omega) (by omega), i26 _ _ (by omega) (by omega)]; exact k3 i (by omega)
      exact H2 6 0 S1 rfl f1 f2 f3 k1 (fun i hi => absurd hi (Nat.not_lt_zero _))
  exact H 3 0 S rfl (fun _ => rfl) (fun _ _ => rfl) (fun _ _ _ => rfl) (fun j p hj => absurd hj (Nat.not_lt_zero _))
def ER4 (n _k : Nat) : Bool := n == 4 || decide (100 ≤ n ∧ n < 112)
def EI9 (n _k : Nat) : Bool := decide (8 ≤ n ∧ n ≤ 14 ∨ 100 ≤ n ∧ n < 112)
theorem ER4_f {n k : Nat} (h : n ≠ 4 ∧ ¬ (100 ≤ n ∧ n < 112)) : ER4 n k = false := by unfold ER4; rw [decide_eq_false h.2, beq_eq_false_iff_ne.mpr h.1]; rfl
theorem ER4_t {n k : Nat} (h : 100 ≤ n ∧ n < 112) : ER4 n k = true := by unfold ER4; rw [decide_eq_true h, Bool.or_true]
theorem EI9_f {n k : Nat} (h : ¬ (8 ≤ n ∧ n ≤ 14 ∨ 100 ≤ n ∧ n < 112)) : EI9 n k = false := decide_eq_false h
theorem EI9_t {n k : Nat} (h : 8 ≤ n ∧ n ≤ 14 ∨ 100 ≤ n ∧ n < 112) : EI9 n k = true := decide_eq_true h
theorem KX_FO {ER EI : Nat → Nat → Bool} {N lo hi : Nat} {S S' : xm_S} (F : FO lo hi S S') (fr : ∀ m, lo ≤ m → m ≤ hi → st_t S m = none) (eR : ∀ m k, lo ≤ m → m ≤ hi → ER m k = true) (eI : ∀ m k, lo ≤ m → m ≤ hi → EI m k = true) : KX ER EI N S S' := fun n _ => by
  by_cases h : n < lo ∨ hi < n
  · exact ⟨KX_ty (F n h).1, fun k _ => (F n h).2.1 k, fun k _ => .inr ((F n h).2.2 k)⟩
  · have h1 : lo ≤ n := by omega
    have h2 : n ≤ hi := by omega
    refine ⟨⟨fun x hx => ?_, fun e => ?_⟩, fun k f => ?_, fun k f => ?_⟩
    · rw [fr n h1 h2] at hx; cases hx
    · rcases e with e | e
      · rw [eR n 0 h1 h2] at e; cases e
      · rw [eI n 5 h1 h2] at e; cases e
    · rw [eR n k h1 h2] at f; cases f
    · rw [eI n k h1 h2] at f; cases f
/-- the packs are made -/
theorem i_144 {S : xm_S} {kc ks : Nat} {g : xm_S → Prop} (c1 : gS S) (c2 : gX S V0) (c3 : gO S) (c4 : gT S V0) (cl : gL0 S) (cz : ∀ l, st_i S 15 l = 0) (c10 : gM S V0) (c11 : gI1 S) (c12 : gI2 S V0) (c13 : gI3 S V0) (fr : ∀ m, 100 ≤ m → st_t S m = none) (hk : kc ≤ 83) (hs : ks ≤ 1188) (h : ∀ S', CR S' V0 2000 → (∀ m, 112 ≤ m → st_t S' m = none) → g S') : wp_X11_init_144 1 (0 : Int32) S kc ks g := by
  unfold wp_X11_init_144
  intro Z hZ
  have hN : (2000 : Nat) ≤ 2000 := Nat.le_refl _
  have H : ∀ d k S1 kc ks, k + d = 6 → kc ≤ 83 + 2 * k → ks ≤ 1188 + 7 * k → KX ER4 EI9 2000 S S1 → (∀ m, 100 + 2 * k ≤ m → st_t S1 m = none) → (∀ j, j < k → st_t S1 (100 + 2 * j) = some (5, 0) ∧ st_r S1 4 j = some (100 + 2 * j) ∧ st_r S1 (100 + 2 * j) 1 = some (101 + 2 * j) ∧ st_t S1 (101 + 2 * j) = some (120, 4) ∧ st_i S1 (100 + 2 * j) 0 = 0 ∧ st_i S1 (100 + 2 * j) 2 = 0) → Z (nI k) S1 kc ks := by
    intro d
    induction d with
    | zero =>
      intro k S1 kc ks hk9 hc hs9 K f1 p1
      refine hZ _ _ _ _ ?_
      unfold wp_X11_init_144B
      rw [show k = 6 by omega] at hc hs9 f1 p1 ⊢
      have gl1 : gL0 S1 := fun l hl => by
        obtain ⟨q1, q2, q3, q4⟩ := cl l hl
        exact ⟨((K 7 (by omega)).2.1 l (ER4_f (by omega))).trans q1, KX_t K (by omega) q2, ((K 11 (by omega)).2.1 l (ER4_f (by omega))).trans q3, KX_t K (by omega) q4⟩
      refine ⟨fun _ => i_171 (gS_X c1 K hN (fun k => ER4_f (by omega))) gl1 (by omega) (by omega) fun S2 f2 f3 f4 f5 => h S2 ?_ (fun m hm => (f2 m).trans (f1 m (by omega))), fun e => absurd (nI_le (Nat.le_refl 6) (by decide)) e⟩
      have K2 : KX ER4 EI9 2000 S1 S2 := fun n hn => ⟨KX_ty (f2 n), fun k _ => f3 n k, fun k e => .inr (f4 n k (fun q => by rw [EI9_t (.inl q)] at e; cases e))⟩
      have K3 : KX ER4 EI9 2000 S S2 := KX_tr K K2 (Nat.le_refl _)
      refine ⟨hN, fun n hn => (f2 n).trans (f1 n (by omega)), gS_X c1 K3 hN (fun k => ER4_f (by omega)), gX_X c2 c1 K3 hN (fun k => EI9_f (by omega)) (fun _ _ => rfl), gO_X c3 K3 hN (fun k hk => ER4_f (by omega)), gT_X c4 K3 hN (ER4_f (by omega)) (EI9_f (by omega)) (fun k => EI9_f (by omega)) (eT_r _ _), ?_, ?_, ?_, ?_, ?_, gM_X c10 K3 hN (fun n k hn => EI9_f (by omega)) (fun _ _ _ _ => rfl), gI1_X c11 K3 hN (fun n k hn => ER4_f (by omega)), gI2_X c12 c11 c1 K3 hN (fun n k hn => EI9_f (by omega)) (fun _ _ _ => rfl), gI3_X c13 c11 K3 hN (fun k => ER4_f (by omega)) (fun n k hn => EI9_f (by omega)) Iv_0.2.2.2.2.2.2.2.2.2.1.2 (fun _ _ _ => rfl)⟩
      · intro p hp
        obtain ⟨p1, p2, p3, p4, p5, p6⟩ := p1 p hp
        exact ⟨(f2 _).trans p1, (f3 _ _).trans p2, (f3 _ _).trans p3, (f2 _).trans p4, (f4 _ _ (by omega)).trans p5, (f4 _ _ (by omega)).trans p6, fun v hv => nlt hv (vn_z rfl)⟩
      · intro a ha
        exact ⟨fun u => nlt u (vn_z rfl), fun _ j hj => (f2 _).trans (f1 _ (by omega))⟩
      · exact ⟨fun _ => 0, fun j hj => nlt hj (vn_z rfl), fun i j _ hj => nlt hj (vn_z rfl)⟩
      · exact fun j hj => nlt hj (vn_z rfl)
      · intro l hl
        obtain ⟨q1, q2, q3, q4⟩ := gl1 l hl
        refine ⟨(f3 _ _).trans q1, (f2 _).trans q2, (f3 _ _).trans q3, (f2 _).trans q4, ?_, fun p hp => ⟨(f5 l p hl hp).1.trans (V0_29 (by omega)).symm, (f5 l p hl hp).2.trans (V0_27 (by omega)).symm⟩⟩
        rw [KX_i K3 (n := 15) (by omega) (EI9_f (by omega)) (fun q => by rw [c1.2.2.2.2.2.2.2.2.2.2.2.2.2.1] at q; cases q.2)]
        exact cz l
    | succ d ih =>
      intro k S1 kc ks hk9 hc hs9 K f1 p1
      refine hZ _ _ _ _ ?_
      unfold wp_X11_init_144B
      have t1 : st_t S1 1 = some (11, 0) := KX_t K (by omega) c1.1
      have t4 : st_t S1 4 = some (115, 6) := KX_t K (by omega) c1.2.2.2.1
      have r4 : st_r S1 1 1 = some 4 := ((K 1 (by omega)).2.1 1 (ER4_f (by omega))).trans c1.2.2.1
      refine ⟨fun e => absurd e (nI_ge (show k < 6 by omega) (by decide)), fun _ => ⟨t1, by omega, by omega, 100 + 2 * k, f1 _ (by omega), fun S37 e37 => ⟨by omega, by omega, i_X5 (by rw [e37, st_t_nw, if_pos rfl]) (by rw [e37, st_t_nw, if_neg (by omega)]; exact f1 _ (by omega)) fun S41 F41 a1 a2 a3 a4 a5 => ?_⟩⟩⟩
      have O41 : FO (100 + 2 * k) (101 + 2 * k) S1 S41 := FO_t (FO_m (lo := 100 + 2 * k) (hi := 100 + 2 * k) (by rw [e37]; exact FO_nw (FO_r _ _ _) (Nat.le_refl _) (Nat.le_refl _)) (by omega) (by omega)) (FO_m F41 (by omega) (by omega))
      refine ⟨4, r4, _, (O41 4 (by omega)).1.trans t4, vp_in_nI (show k < 6 by omega) (by decide), fun v9 hv => by rw [← Option.some.inj hv]; exact a1, fun S49 e49 y ey => ?_⟩
      rw [nI_clamp (show k < 2 ^ 31 by omega)] at e49
      rw [ey, nI_1]
      refine ih (k + 1) S49 _ _ (by omega) (by omega) (by omega) ?_ (fun m hm => ?_) fun j hj => ?_
      · rw [e49]
        exact KX_pr (KX_tr K (KX_FO O41 (fun m h1 h2 => f1 m (by omega)) (fun m k h1 h2 => ER4_t (by omega)) (fun m k h1 h2 => EI9_t (by omega))) (Nat.le_refl _)) rfl
      · rw [e49]
        exact (O41 m (by omega)).1.trans (f1 m (by omega))
      · by_cases e : j = k
        · rw [e]
          refine ⟨?_, ?_, ?_, ?_, ?_, ?_⟩
          · rw [e49]; exact a1
          · rw [e49, st_r_pr_s]
          · rw [e49, st_r_pr_n _ _ _ _ _ _ (by omega), a2]; congr 1; omega
          · rw [e49, show 101 + 2 * k = 100 + 2 * k + 1 by omega]; exact a3
          · rw [e49]; exact a4
          · rw [e49]; exact a5
        · obtain ⟨p1, p2, p3, p4, p5, p6⟩ := p1 j (by omega)
          refine ⟨?_, ?_, ?_, ?_, ?_, ?_⟩
          · rw [e49]; exact (O41 _ (by omega)).1.trans p1
          · rw [e49, st_r_pr_n _ _ _ _ _ _ (by omega)]; exact ((O41 _ (by omega)).2.1 _).trans p2
          · rw [e49, st_r_pr_n _ _ _ _ _ _ (by omega)]; exact ((O41 _ (by omega)).2.1 _).trans p3
          · rw [e49]; exact (O41 _ (by omega)).1.trans p4
          · rw [e49]; exact ((O41 _ (by omega)).2.2 _).trans p5
          · rw [e49]; exact ((O41 _ (by omega)).2.2 _).trans p6
  exact H 6 0 S kc ks rfl hk hs (KX_rfl _ _ _ _) (fun m hm => fr m (by omega)) (fun j hj => absurd hj (Nat.not_lt_zero _))
