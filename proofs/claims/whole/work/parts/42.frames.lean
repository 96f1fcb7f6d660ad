-- frames of the class's memory, group by group
/-- agreement below N but for refs of ER, ints of EI, and what a need keeps as of the solver's last study -/
def KX (ER EI : Nat → Nat → Bool) (N : Nat) (S S' : xm_S) : Prop := ∀ n, (n < 1000 ∨ (1200 ≤ n ∧ n < N)) → ((∀ x, st_t S n = some x → st_t S' n = some x) ∧ ((ER n 0 = false ∨ EI n 5 = false) → st_t S n = none → st_t S' n = none)) ∧ (∀ k, ER n k = false → st_r S' n k = st_r S n k) ∧ ∀ k, EI n k = false → (k = 5 ∧ st_t S n = some (4, 0)) ∨ st_i S' n k = st_i S n k
theorem KX_ty {S S' : xm_S} {n : Nat} {P : Prop} (h : st_t S' n = st_t S n) : (∀ x, st_t S n = some x → st_t S' n = some x) ∧ (P → st_t S n = none → st_t S' n = none) := ⟨fun _ hx => h.trans hx, fun _ hx => h.trans hx⟩
theorem KX_t {ER EI : Nat → Nat → Bool} {N n : Nat} {x : Nat × Nat} {S S' : xm_S} (h : KX ER EI N S S') (hn : n < 1000 ∨ (1200 ≤ n ∧ n < N)) (hx : st_t S n = some x) : st_t S' n = some x := (h n hn).1.1 x hx
theorem KX_no {ER EI : Nat → Nat → Bool} {N n : Nat} {S S' : xm_S} (h : KX ER EI N S S') (hn : n < 1000 ∨ (1200 ≤ n ∧ n < N)) (e : ER n 0 = false) (hx : st_t S n = none) : st_t S' n = none := (h n hn).1.2 (.inl e) hx
theorem KX_rfl (ER EI : Nat → Nat → Bool) (N : Nat) (S : xm_S) : KX ER EI N S S := fun _ _ => ⟨KX_ty rfl, fun _ _ => rfl, fun _ _ => .inr rfl⟩
theorem KX_tr {ER EI : Nat → Nat → Bool} {N N' : Nat} {S S1 S2 : xm_S} (h : KX ER EI N S S1) (h2 : KX ER EI N' S1 S2) (e : N ≤ N' := by omega) : KX ER EI N S S2 := fun n hn => by
  obtain ⟨a, b, c⟩ := h n hn
  obtain ⟨a', b', c'⟩ := h2 n (by omega)
  refine ⟨⟨fun x hx => a'.1 x (a.1 x hx), fun e hx => a'.2 e (a.2 e hx)⟩, fun k hk => (b' k hk).trans (b k hk), fun k hk => ?_⟩
  rcases c k hk with d | d
  · exact .inl d
  · rcases c' k hk with d' | d'
    · refine .inl ⟨d'.1, ?_⟩
      have hk5 : EI n 5 = false := by rw [← d'.1]; exact hk
      cases ht : st_t S n with
      | none =>
        have := a.2 (.inr hk5) ht
        rw [this] at d'
        exact absurd d'.2 (by simp)
      | some x =>
        have := a.1 x ht
        rw [← this]; exact d'.2
    · exact .inr (d'.trans d)
theorem KX_G {ER EI A : Nat → Nat → Bool} {N : Nat} {S S' : xm_S} (h : xG A N S S') (hN : 1000 ≤ N) (e : ∀ n k, EI n k = false → A n k = false) : KX ER EI N S S' := fun n hn => ⟨KX_ty (h.1 n (by omega)), fun k _ => h.2.1 n k (by omega), fun k hk => .inr (h.2.2.2 n k (by omega) (e n k hk))⟩
theorem KX_pi {ER EI : Nat → Nat → Bool} {N : Nat} {S S1 : xm_S} {n k : Nat} {v : Int32} (h : KX ER EI N S S1) (e : EI n k = true) : KX ER EI N S (st_pi S1 n k v) := KX_tr h (fun m _ => ⟨KX_ty rfl, fun _ _ => rfl, fun j f => .inr (st_i_pi_n _ _ _ _ _ _ fun hh => by rw [hh.1, hh.2, e] at f; cases f)⟩) (Nat.le_refl _)
theorem KX_pr {ER EI : Nat → Nat → Bool} {N : Nat} {S S1 : xm_S} {n k : Nat} {v : Option Nat} (h : KX ER EI N S S1) (e : ER n k = true) : KX ER EI N S (st_pr S1 n k v) := KX_tr h (fun m _ => ⟨KX_ty rfl, fun j f => st_r_pr_n _ _ _ _ _ _ (fun hh => by rw [hh.1, hh.2, e] at f; cases f), fun _ _ => .inr rfl⟩) (Nat.le_refl _)
theorem KX_5 {ER EI : Nat → Nat → Bool} {N : Nat} {S S1 : xm_S} {n : Nat} {v : Int32} (h : KX ER EI N S S1) (e : st_t S1 n = some (4, 0)) : KX ER EI N S (st_pi S1 n 5 v) := KX_tr h (fun m _ => ⟨KX_ty rfl, fun _ _ => rfl, fun j f => by
  by_cases hh : m = n ∧ j = 5
  · exact .inl ⟨hh.2, by rw [hh.1]; exact e⟩
  · exact .inr (st_i_pi_n _ _ _ _ _ _ hh)⟩) (Nat.le_refl _)
/-- a new object at a name of the class's own -/
theorem KX_nw {ER EI : Nat → Nat → Bool} {N n : Nat} {S S1 : xm_S} {ty : Nat × Nat} (h : KX ER EI N S S1) (hn : st_t S1 n = none) (eR : ∀ k, ER n k = true) (eI : ∀ k, EI n k = true) : KX ER EI N S (st_nw S1 n ty) := KX_tr h (fun m _ => by
  by_cases e : m = n
  · subst e
    refine ⟨⟨fun x hx => ?_, fun hh _ => ?_⟩, fun k hk => ?_, fun k hk => ?_⟩
    · rw [hn] at hx; cases hx
    · rcases hh with hh | hh
      · rw [eR] at hh; cases hh
      · rw [eI] at hh; cases hh
    · rw [eR] at hk; cases hk
    · rw [eI] at hk; cases hk
  · refine ⟨KX_ty ?_, fun k _ => ?_, fun k _ => .inr ?_⟩
    · rw [st_t_nw, if_neg e]
    · rw [st_r_nw, if_neg e]
    · rw [st_i_nw, if_neg e]) (Nat.le_refl _)
theorem KX_mo {ER EI ER' EI' : Nat → Nat → Bool} {N : Nat} {S S' : xm_S} (h : KX ER EI N S S') (eR : ∀ n k, ER' n k = false → ER n k = false) (eI : ∀ n k, EI' n k = false → EI n k = false) : KX ER' EI' N S S' := fun n hn => ⟨⟨(h n hn).1.1, fun e => (h n hn).1.2 (e.elim (fun q => .inl (eR _ _ q)) fun q => .inr (eI _ _ q))⟩, fun k f => (h n hn).2.1 k (eR n k f), fun k f => (h n hn).2.2 k (eI n k f)⟩
theorem KX_i {ER EI : Nat → Nat → Bool} {N n k : Nat} {S S' : xm_S} (h : KX ER EI N S S') (hn : n < 1000 ∨ (1200 ≤ n ∧ n < N)) (e : EI n k = false) (h5 : ¬ (k = 5 ∧ st_t S n = some (4, 0))) : st_i S' n k = st_i S n k := ((h n hn).2.2 k e).resolve_left h5
theorem RO_X {ER EI : Nat → Nat → Bool} {S S' : xm_S} {r N N' : Nat} {l : List xit} (h : RO S r l N) (K : KX ER EI N S S') (hR : ∀ n k, 2000 ≤ n → ER n k = false) (hI : ∀ n k, 2000 ≤ n → EI n k = false) (e : N ≤ N') : RO S' r l N' := by
  obtain ⟨h1, h2, h3, h4, h5, ta, h6, h7, h8, h9, h10⟩ := h
  refine ⟨h1, by omega, KX_t K (by omega) h3, h4, (KX_i K (by omega) (hI _ _ h1) (by omega)).trans h5, ta, h6, by omega, ((K _ (by omega)).2.1 _ (hR _ _ h1)).trans h8, KX_t K (by omega) h9, fun i x hx => ?_⟩
  obtain ⟨o, o1, o2, o3, o4⟩ := h10 i x hx
  obtain ⟨t1, t2, t3, t4, t5, t6, t7, t8⟩ := o4
  refine ⟨o, o1, by omega, ((K _ (by omega)).2.1 _ (hR _ _ h6)).trans o3, KX_t K (by omega) t1, ((K _ (by omega)).2.1 _ (hR _ _ o1)).trans t2, ((K _ (by omega)).2.1 _ (hR _ _ o1)).trans t3, KX_t K (by omega) t4, KX_t K (by omega) t5, (KX_i K (by omega) (hI _ _ o1) (by omega)).trans t6, (KX_i K (by omega) (hI _ _ o1) (by omega)).trans t7, fun sc hs => ⟨(KX_i K (by omega) (hI _ _ (by omega)) (fun hh => ?_)).trans (t8 sc hs).1, (KX_i K (by omega) (hI _ _ (by omega)) (fun hh => ?_)).trans (t8 sc hs).2⟩⟩
  · rw [t4] at hh; exact absurd hh.2 (by decide)
  · rw [t5] at hh; exact absurd hh.2 (by decide)
/-- the text of a range is the same in both states -/
def eT (V V' : VV) (q : Nat) : Prop := tL V' q = tL V q ∧ ∀ s, tT V' q s = tT V q s
theorem eT_T {V V' : VV} {q : Nat} (h : eT V V' q) : tT V' q = tT V q := funext h.2
theorem RgV_X {ER EI : Nat → Nat → Bool} {S S' : xm_S} {V V' : VV} {q r N N' : Nat} (h : RgV S V q r N) (K : KX ER EI N S S') (hR : ∀ n k, 2000 ≤ n → ER n k = false) (hI : ∀ n k, 2000 ≤ n → EI n k = false) (e : N ≤ N') (eV : eT V V' q) : RgV S' V' q r N' := by
  obtain ⟨l, h1, h2⟩ := h
  exact ⟨l, by rw [eT_T eV, eV.1]; exact h1, RO_X h2 K hR hI e⟩
theorem NO_X {ER EI : Nat → Nat → Bool} {S S' : xm_S} {V V' : VV} {N N' n q : Nat} {a b c d : Int32} (h : NO S V N n q a b c d) (K : KX ER EI N S S') (hn : n < 1000 ∨ (1200 ≤ n ∧ n < N)) (hR : ∀ n k, 2000 ≤ n → ER n k = false) (hI : ∀ n k, 2000 ≤ n → EI n k = false) (hR1 : ∀ k, ER n k = false) (hI1 : ∀ k, EI n k = false) (e : N ≤ N') (eV : eT V V' q) : NO S' V' N' n q a b c d := by
  obtain ⟨h1, h2, h3, h4, h5, r, h6, h7⟩ := h
  exact ⟨KX_t K hn h1, (KX_i K hn (hI1 _) (by omega)).trans h2, (KX_i K hn (hI1 _) (by omega)).trans h3, (KX_i K hn (hI1 _) (by omega)).trans h4, (KX_i K hn (hI1 _) (by omega)).trans h5, r, ((K n hn).2.1 _ (hR1 _)).trans h6, RgV_X h7 K hR hI e eV⟩
theorem gT_X {ER EI : Nat → Nat → Bool} {S S' : xm_S} {V V' : VV} {N : Nat} (h : gT S V) (K : KX ER EI N S S') (hN : 2000 ≤ N) (hR : ER 2 0 = false) (hI : EI 2 1 = false) (hI3 : ∀ k, EI 3 k = false) (eV : eT V V' 154) : gT S' V' := by
  obtain ⟨h1, h2, h3, h4, h5, h6⟩ := h
  unfold gT
  rw [eT_T eV, eV.1]
  exact ⟨KX_t K (by omega) h1, ((K _ (by omega)).2.1 _ hR).trans h2, KX_t K (by omega) h3, h4, (KX_i K (by omega) hI (by omega)).trans h5, fun s hs => (KX_i K (by omega) (hI3 _) (fun hh => by rw [h3] at hh; exact absurd hh.2 (by decide))).trans (h6 s hs)⟩
theorem gS_X {ER EI : Nat → Nat → Bool} {S S' : xm_S} {N : Nat} (h : gS S) (K : KX ER EI N S S') (hN : 2000 ≤ N) (hR : ∀ k, ER 1 k = false) : gS S' := by
  obtain ⟨h1, h2, h3, h4, h5, h6, h7, h8, h9, h10, h11, h12, h13, h14, h15, h16, h17, h18, h19, h20, h21, h22⟩ := h
  have t : ∀ n, n < 1000 → ∀ x, st_t S n = some x → st_t S' n = some x := fun n hn _ hx => KX_t K (by omega) hx
  have r : ∀ k, st_r S' 1 k = st_r S 1 k := fun k => (K 1 (by omega)).2.1 k (hR k)
  exact ⟨t _ (by omega) _ h1, (r _).trans h2, (r _).trans h3, t _ (by omega) _ h4, (r _).trans h5, t _ (by omega) _ h6, (r _).trans h7, t _ (by omega) _ h8, (r _).trans h9, t _ (by omega) _ h10, (r _).trans h11, t _ (by omega) _ h12, (r _).trans h13, t _ (by omega) _ h14, (r _).trans h15, t _ (by omega) _ h16, (r _).trans h17, t _ (by omega) _ h18, (r _).trans h19, t _ (by omega) _ h20, (r _).trans h21, t _ (by omega) _ h22⟩
theorem gO_X {ER EI : Nat → Nat → Bool} {S S' : xm_S} {N : Nat} (h : gO S) (K : KX ER EI N S S') (hN : 2000 ≤ N) (hR : ∀ k, 2 ≤ k → ER 16 k = false) : gO S' := by
  obtain ⟨h1, h2, h3, h4, h5, h6, h7, h8, h9, h10⟩ := h
  have t : ∀ n, n < 1000 → ∀ x, st_t S n = some x → st_t S' n = some x := fun n hn _ hx => KX_t K (by omega) hx
  have r : ∀ k, 2 ≤ k → st_r S' 16 k = st_r S 16 k := fun k hk => (K 16 (by omega)).2.1 k (hR k hk)
  exact ⟨(r _ (by omega)).trans h1, t _ (by omega) _ h2, (r _ (by omega)).trans h3, t _ (by omega) _ h4, (r _ (by omega)).trans h5, t _ (by omega) _ h6, (r _ (by omega)).trans h7, t _ (by omega) _ h8, (r _ (by omega)).trans h9, t _ (by omega) _ h10⟩
theorem gX_X {ER EI : Nat → Nat → Bool} {S S' : xm_S} {V V' : VV} {N : Nat} (h : gX S V) (hS : gS S) (K : KX ER EI N S S') (hN : 2000 ≤ N) (hI : ∀ k, EI 1 k = false) (eV : ∀ f, (f = 18 ∨ f = 26 ∨ f = 21 ∨ f = 36 ∨ f = 37 ∨ f = 38 ∨ f = 39) → V' f 0 = V f 0) : gX S' V' := by
  obtain ⟨h1, h2, h3, h4, h5, h6, h7⟩ := h
  have r : ∀ k, st_i S' 1 k = st_i S 1 k := fun k => KX_i K (by omega) (hI k) (fun hh => by rw [hS.1] at hh; exact absurd hh.2 (by decide))
  unfold gX
  rw [eV 18 (by omega), eV 26 (by omega), eV 21 (by omega), eV 36 (by omega), eV 37 (by omega), eV 38 (by omega), eV 39 (by omega)]
  exact ⟨(r _).trans h1, (r _).trans h2, (r _).trans h3, (r _).trans h4, (r _).trans h5, (r _).trans h6, (r _).trans h7⟩
theorem vn_e {V V' : VV} {f k : Nat} (h : V' f k = V f k) : vn V' f k = vn V f k := by unfold vn; rw [h]
theorem gP_X {ER EI : Nat → Nat → Bool} {S S' : xm_S} {V V' : VV} {N : Nat} (h : gP S V) (K : KX ER EI N S S') (hN : 2000 ≤ N) (hR : ∀ n k, (n = 4 ∨ (100 ≤ n ∧ n < 112)) → ER n k = false) (hI : ∀ n k, 100 ≤ n → n < 112 → EI n k = false) (eV : ∀ k, k < 6 → V' 1 k = V 1 k ∧ V' 2 k = V 2 k) : gP S' V' := by
  intro p hp
  obtain ⟨h1, h2, h3, h4, h5, h6, h7⟩ := h p hp
  have a : ∀ n, n < 1000 → ∀ x, st_t S n = some x → st_t S' n = some x := fun n hn _ hx => KX_t K (by omega) hx
  refine ⟨a _ (by omega) _ h1, ((K _ (by omega)).2.1 _ (hR _ _ (by omega))).trans h2, ((K _ (by omega)).2.1 _ (hR _ _ (by omega))).trans h3, a _ (by omega) _ h4, ?_, ?_, fun v hv => ((K _ (by omega)).2.1 _ (hR _ _ (by omega))).trans (h7 v ?_)⟩
  · rw [(eV p hp).1]; exact (KX_i K (by omega) (hI _ _ (by omega) (by omega)) (by omega)).trans h5
  · rw [(eV p hp).2]; exact (KX_i K (by omega) (hI _ _ (by omega) (by omega)) (by omega)).trans h6
  · rw [vn_e (eV p hp).2] at hv; exact hv
theorem gV1_X {ER EI : Nat → Nat → Bool} {S S' : xm_S} {N b : Nat} (h : gV1 S b) (K : KX ER EI N S S') (hN : b + 20 ≤ 1000) (hR : ∀ k, ER b k = false) : gV1 S' b := by
  obtain ⟨h1, h2, h3, h4, h5, h6, h7, h8, h9, h10, h11, h12, h13, h14, h15, h16, h17⟩ := h
  have t : ∀ n, n < b + 20 → ∀ x, st_t S n = some x → st_t S' n = some x := fun n hn _ hx => KX_t K (by omega) hx
  have r : ∀ k, st_r S' b k = st_r S b k := fun k => (K b (by omega)).2.1 k (hR k)
  exact ⟨t _ (by omega) _ h1, (r _).trans h2, t _ (by omega) _ h3, (r _).trans h4, t _ (by omega) _ h5, (r _).trans h6, t _ (by omega) _ h7, (r _).trans h8, t _ (by omega) _ h9, (r _).trans h10, t _ (by omega) _ h11, (r _).trans h12, t _ (by omega) _ h13, (r _).trans h14, t _ (by omega) _ h15, (r _).trans h16, t _ (by omega) _ h17⟩
theorem gV2_X {ER EI : Nat → Nat → Bool} {S S' : xm_S} {V V' : VV} {N a b : Nat} (h : gV2 S V a b) (h0 : gV1 S b) (K : KX ER EI N S S') (hN : b < 1000) (hI : ∀ k, EI b k = false) (eV : ∀ f, (3 ≤ f ∧ f ≤ 8 ∨ f = 13 ∨ f = 15 ∨ f = 42 ∨ f = 44) → V' f a = V f a) : gV2 S' V' a b := by
  obtain ⟨h1, h2, h3, h4, h5, h6, h7, h8, h9, h10⟩ := h
  have r : ∀ k, st_i S' b k = st_i S b k := fun k => KX_i K (.inl hN) (hI k) (fun hh => by rw [h0.1] at hh; exact absurd hh.2 (by decide))
  unfold gV2
  rw [vn_e (eV 3 (by omega)), eV 4 (by omega), eV 5 (by omega), eV 6 (by omega), eV 7 (by omega), eV 42 (by omega), eV 8 (by omega), eV 13 (by omega), eV 15 (by omega), eV 44 (by omega)]
  exact ⟨(r _).trans h1, (r _).trans h2, (r _).trans h3, (r _).trans h4, (r _).trans h5, (r _).trans h6, (r _).trans h7, (r _).trans h8, (r _).trans h9, (r _).trans h10⟩
theorem gV3_X {ER EI : Nat → Nat → Bool} {S S' : xm_S} {V V' : VV} {N a b : Nat} (h : gV3 S V a b) (h0 : gV1 S b) (K : KX ER EI N S S') (hN : b + 20 ≤ 1000) (hI : ∀ n k, b < n → n < b + 9 → EI n k = false) (eV : ∀ f, (f = 15 ∨ f = 44) → V' f a = V f a) (e40 : ∀ j, j < 3 → V' 40 (24 * j + a) = V 40 (24 * j + a)) (e16 : ∀ j, j < vn V 15 a → V' 16 (2 * a + j) = V 16 (2 * a + j) ∧ V' 17 (2 * a + j) = V 17 (2 * a + j)) (e45 : ∀ j, j < vn V 44 a → V' 45 (3 * a + j) = V 45 (3 * a + j) ∧ V' 46 (3 * a + j) = V 46 (3 * a + j) ∧ V' 47 (3 * a + j) = V 47 (3 * a + j)) : gV3 S' V' a b := by
  obtain ⟨h1, h2, h3⟩ := h
  obtain ⟨-, -, -, -, -, -, t3, -, t4, -, t5, -, t6, -, t7, -, t8⟩ := h0
  have r : ∀ n k sh, b < n → n < b + 9 → st_t S n = some sh → sh.1 ≠ 4 → st_i S' n k = st_i S n k := fun n k sh g1 g2 g3 g4 => KX_i K (by omega) (hI n k g1 g2) (fun hh => by rw [g3] at hh; exact g4 (by rw [Option.some.inj hh.2]))
  refine ⟨fun j hj => ?_, fun j hj => ?_, fun j hj => ?_⟩
  · rw [e40 j hj]; exact (r _ _ _ (by omega) (by omega) t8 (by decide)).trans (h1 j hj)
  · rw [vn_e (eV 15 (by omega))] at hj
    rw [(e16 j hj).1, vn_e (e16 j hj).2]
    exact ⟨(r _ _ _ (by omega) (by omega) t3 (by decide)).trans (h2 j hj).1, (r _ _ _ (by omega) (by omega) t4 (by decide)).trans (h2 j hj).2⟩
  · rw [vn_e (eV 44 (by omega))] at hj
    rw [(e45 j hj).1, (e45 j hj).2.1, (e45 j hj).2.2]
    exact ⟨(r _ _ _ (by omega) (by omega) t5 (by decide)).trans (h3 j hj).1, (r _ _ _ (by omega) (by omega) t6 (by decide)).trans (h3 j hj).2.1, (r _ _ _ (by omega) (by omega) t7 (by decide)).trans (h3 j hj).2.2⟩
theorem gN_X {ER EI : Nat → Nat → Bool} {S S' : xm_S} {V V' : VV} {N N' a b : Nat} (h : gN S V N a b) (K : KX ER EI N S S') (hN : b + 20 ≤ 1000) (e : N ≤ N') (hR : ∀ n k, (b < n ∧ n < b + 20 ∨ 2000 ≤ n) → ER n k = false) (hI : ∀ n k, (b + 9 ≤ n ∧ n < b + 20 ∨ 2000 ≤ n) → EI n k = false) (eV : ∀ f, (f = 8 ∨ f = 13) → V' f a = V f a)
    (e9 : ∀ j, j < vn V 8 a → eT V V' (4 * a + j) ∧ ∀ f, (9 ≤ f ∧ f ≤ 12) → V' f (4 * a + j) = V f (4 * a + j)) (e14 : ∀ j, j < vn V 13 a → eT V V' (96 + (2 * a + j)) ∧ V' 14 (2 * a + j) = V 14 (2 * a + j)) (hb : vn V 8 a ≤ 4 ∧ vn V 13 a ≤ 2) : gN S' V' N' a b := by
  obtain ⟨h1, h2, h3, h4⟩ := h
  unfold gN
  rw [vn_e (eV 8 (by omega)), vn_e (eV 13 (by omega))]
  refine ⟨fun j hj => ?_, fun j hj => ?_, fun j g1 g2 => KX_no K (by omega) (hR _ _ (by omega)) (h3 j g1 g2), fun j g1 g2 => KX_no K (by omega) (hR _ _ (by omega)) (h4 j g1 g2)⟩
  · rw [(e9 j hj).2 9 (by omega), (e9 j hj).2 10 (by omega), (e9 j hj).2 11 (by omega), (e9 j hj).2 12 (by omega)]
    exact ⟨((K _ (by omega)).2.1 _ (hR _ _ (by omega))).trans (h1 j hj).1, NO_X (h1 j hj).2 K (by omega) (fun n k hn => hR n k (by omega)) (fun n k hn => hI n k (by omega)) (fun k => hR _ k (by omega)) (fun k => hI _ k (by omega)) e (e9 j hj).1⟩
  · rw [(e14 j hj).2]
    exact ⟨((K _ (by omega)).2.1 _ (hR _ _ (by omega))).trans (h2 j hj).1, NO_X (h2 j hj).2 K (by omega) (fun n k hn => hR n k (by omega)) (fun n k hn => hI n k (by omega)) (fun k => hR _ k (by omega)) (fun k => hI _ k (by omega)) e (e14 j hj).1⟩
theorem gW_X {ER EI : Nat → Nat → Bool} {S S' : xm_S} {V V' : VV} {N N' : Nat} (h : gW S V N) (K : KX ER EI N S S') (hN : 2000 ≤ N) (e : N ≤ N') (hR : ∀ n k, (n = 5 ∨ 2000 ≤ n) → ER n k = false) (hI : ∀ n k, 2000 ≤ n → EI n k = false) (e18 : V' 18 0 = V 18 0) (eV : ∀ j, j < vn V 18 0 → eT V V' (144 + j) ∧ V' 19 j = V 19 j ∧ V' 20 j = V 20 j) : gW S' V' N' := by
  obtain ⟨w, h1, h2⟩ := h
  refine ⟨w, fun j hj => ?_, by rw [vn_e e18]; exact h2⟩
  rw [vn_e e18] at hj
  obtain ⟨g1, g2, g3, g4⟩ := h1 j hj
  rw [(eV j hj).2.1, (eV j hj).2.2]
  exact ⟨((K _ (by omega)).2.1 _ (hR _ _ (by omega))).trans g1, g2, by omega, NO_X g4 K (by omega) (fun n k hn => hR n k (by omega)) hI (fun k => hR _ k (by omega)) (fun k => hI _ k (by omega)) e (eV j hj).1⟩
theorem gA_X {ER EI : Nat → Nat → Bool} {S S' : xm_S} {V V' : VV} {N N' : Nat} (h : gA S V N) (K : KX ER EI N S S') (hN : 2000 ≤ N) (e : N ≤ N') (hR : ∀ n k, (n = 6 ∨ 2000 ≤ n) → ER n k = false) (hI : ∀ n k, 2000 ≤ n → EI n k = false) (e21 : V' 21 0 = V 21 0) (eV : ∀ j, j < vn V 21 0 → eT V V' (148 + j) ∧ V' 22 j = V 22 j ∧ V' 23 j = V 23 j) : gA S' V' N' := by
  intro j hj
  rw [vn_e e21] at hj
  obtain ⟨a, g1, g2, g3, g4, g5, g6, r, g7, g8⟩ := h j hj
  rw [(eV j hj).2.1, (eV j hj).2.2]
  exact ⟨a, ((K _ (by omega)).2.1 _ (hR _ _ (by omega))).trans g1, g2, by omega, KX_t K (by omega) g4, (KX_i K (by omega) (hI _ _ (by omega)) (by omega)).trans g5, (KX_i K (by omega) (hI _ _ (by omega)) (by omega)).trans g6, r, ((K _ (by omega)).2.1 _ (hR _ _ (by omega))).trans g7, RgV_X g8 K (fun n k hn => hR n k (by omega)) hI e (eV j hj).1⟩
theorem gL_X {ER EI : Nat → Nat → Bool} {S S' : xm_S} {V V' : VV} {N : Nat} (h : gL S V) (hS : gS S) (K : KX ER EI N S S') (hN : 2000 ≤ N) (hR : ∀ n k, (7 ≤ n ∧ n ≤ 15) → ER n k = false) (hI : ∀ n k, (7 ≤ n ∧ n ≤ 15) → EI n k = false) (eV : ∀ f k, (f = 27 ∨ f = 28 ∨ f = 29) → V' f k = V f k) : gL S' V' := by
  obtain ⟨-, -, -, -, -, -, -, -, -, -, -, -, -, s15, -⟩ := hS
  intro l hl
  obtain ⟨h1, h2, h3, h4, h5, h6⟩ := h l hl
  refine ⟨((K _ (by omega)).2.1 _ (hR _ _ (by omega))).trans h1, KX_t K (by omega) h2, ((K _ (by omega)).2.1 _ (hR _ _ (by omega))).trans h3, KX_t K (by omega) h4, ?_, fun p hp => ⟨?_, ?_⟩⟩
  · rw [eV 28 _ (by omega)]; exact (KX_i K (by omega) (hI _ _ (by omega)) (fun hh => by rw [s15] at hh; exact absurd hh.2 (by decide))).trans h5
  · rw [eV 29 _ (by omega)]; exact (KX_i K (by omega) (hI _ _ (by omega)) (fun hh => by rw [h2] at hh; exact absurd hh.2 (by decide))).trans (h6 p hp).1
  · rw [eV 27 _ (by omega)]; exact (KX_i K (by omega) (hI _ _ (by omega)) (fun hh => by rw [h4] at hh; exact absurd hh.2 (by decide))).trans (h6 p hp).2
theorem gM_X {ER EI : Nat → Nat → Bool} {S S' : xm_S} {V V' : VV} {N : Nat} (h : gM S V) (K : KX ER EI N S S') (hN : 2000 ≤ N) (hI : ∀ n k, (n = 22 ∨ n = 23) → EI n k = false) (eV : ∀ f k, (f = 41 ∨ f = 43) → k < 3 → V' f k = V f k) : gM S' V' := by
  intro m hm
  rw [eV 41 _ (by omega) hm, eV 43 _ (by omega) hm]
  exact ⟨(KX_i K (by omega) (hI _ _ (by omega)) (by omega)).trans (h m hm).1, (KX_i K (by omega) (hI _ _ (by omega)) (by omega)).trans (h m hm).2⟩
theorem gMc_X {ER EI : Nat → Nat → Bool} {S S' : xm_S} {N n : Nat} (h : gMc S n) (K : KX ER EI N S S') (hN : n + 5 ≤ 1000) (hR : ∀ k, ER n k = false) : gMc S' n := by
  obtain ⟨h1, h2, h3, h4, h5, h6, h7, h8, h9⟩ := h
  have t : ∀ m, m < n + 5 → ∀ x, st_t S m = some x → st_t S' m = some x := fun m hm _ hx => KX_t K (by omega) hx
  have r : ∀ k, st_r S' n k = st_r S n k := fun k => (K n (by omega)).2.1 k (hR k)
  exact ⟨t _ (by omega) _ h1, (r _).trans h2, t _ (by omega) _ h3, (r _).trans h4, t _ (by omega) _ h5, (r _).trans h6, t _ (by omega) _ h7, (r _).trans h8, t _ (by omega) _ h9⟩
theorem gMi_X {ER EI : Nat → Nat → Bool} {S S' : xm_S} {V V' : VV} {N n f k : Nat} (h : gMi S V n f k) (h0 : gMc S n) (K : KX ER EI N S S') (hN : n + 5 ≤ 1000) (hI : ∀ m j, n < m → m < n + 5 → EI m j = false) (eV : ∀ j, j < 54 → V' f (k + j) = V f (k + j)) : gMi S' V' n f k := by
  obtain ⟨-, -, t1, -, t2, -, t3, -, t4⟩ := h0
  have r : ∀ m j sh, n < m → m < n + 5 → st_t S m = some sh → sh.1 ≠ 4 → st_i S' m j = st_i S m j := fun m j sh g1 g2 g3 g4 => KX_i K (by omega) (hI m j g1 g2) (fun hh => by rw [g3] at hh; exact g4 (by rw [Option.some.inj hh.2]))
  refine ⟨fun p hp => ?_, fun j hj => ?_⟩
  · rw [eV p (by omega)]; exact (r _ _ _ (by omega) (by omega) t1 (by decide)).trans (h.1 p hp)
  · rw [eV (6 + j) (by omega), eV (22 + j) (by omega), eV (38 + j) (by omega)]
    exact ⟨(r _ _ _ (by omega) (by omega) t2 (by decide)).trans (h.2 j hj).1, (r _ _ _ (by omega) (by omega) t3 (by decide)).trans (h.2 j hj).2.1, (r _ _ _ (by omega) (by omega) t4 (by decide)).trans (h.2 j hj).2.2⟩
theorem gI1_X {ER EI : Nat → Nat → Bool} {S S' : xm_S} {N : Nat} (h : gI1 S) (K : KX ER EI N S S') (hN : 2000 ≤ N) (hR : ∀ n k, (n = 24 ∨ n = 25 ∨ 40 ≤ n ∧ n < 76) → ER n k = false) : gI1 S' := by
  obtain ⟨h1, h2, h3, h4, h5, h6, h7, h8, h9, h10, h11⟩ := h
  have t : ∀ m, m < 1000 → ∀ x, st_t S m = some x → st_t S' m = some x := fun m hm _ hx => KX_t K (by omega) hx
  have r : ∀ k, st_r S' 24 k = st_r S 24 k := fun k => (K 24 (by omega)).2.1 k (hR _ k (by omega))
  refine ⟨(r _).trans h1, gMc_X h2 K (by omega) (fun k => hR _ k (by omega)), (r _).trans h3, t _ (by omega) _ h4, (r _).trans h5, t _ (by omega) _ h6, (r _).trans h7, t _ (by omega) _ h8, (r _).trans h9, t _ (by omega) _ h10, fun g hg => ?_⟩
  obtain ⟨g1, g2, g3⟩ := h11 g hg
  exact ⟨t _ (by omega) _ g1, ((K _ (by omega)).2.1 _ (hR _ _ (by omega))).trans g2, gMc_X g3 K (by omega) (fun k => hR _ k (by omega))⟩
theorem gI2_X {ER EI : Nat → Nat → Bool} {S S' : xm_S} {V V' : VV} {N : Nat} (h : gI2 S V) (h0 : gI1 S) (hS : gS S) (K : KX ER EI N S S') (hN : 2000 ≤ N) (hI : ∀ n k, (24 ≤ n ∧ n ≤ 32) → EI n k = false) (eV : ∀ f k, (f = 48 ∨ f = 49 ∨ f = 50 ∨ 52 ≤ f ∧ f ≤ 56) → V' f k = V f k) : gI2 S' V' := by
  obtain ⟨h1, h2, h3, h4, h5, h6, h7⟩ := h
  obtain ⟨-, m1, -, -, -, t31, -, t32, -⟩ := h0
  obtain ⟨-, -, -, -, -, -, -, -, -, -, -, -, -, -, -, -, -, -, -, -, -, t24⟩ := hS
  have r : ∀ k, st_i S' 24 k = st_i S 24 k := fun k => KX_i K (by omega) (hI _ k (by omega)) (fun hh => by rw [t24] at hh; exact absurd hh.2 (by decide))
  have r31 : ∀ k, st_i S' 31 k = st_i S 31 k := fun k => KX_i K (by omega) (hI _ k (by omega)) (fun hh => by rw [t31] at hh; exact absurd hh.2 (by decide))
  have r32 : ∀ k, st_i S' 32 k = st_i S 32 k := fun k => KX_i K (by omega) (hI _ k (by omega)) (fun hh => by rw [t32] at hh; exact absurd hh.2 (by decide))
  unfold gI2
  rw [eV 56 _ (by omega), eV 55 _ (by omega), eV 54 _ (by omega), eV 52 _ (by omega), eV 53 _ (by omega)]
  refine ⟨gMi_X h1 m1 K (by omega) (fun m j g1 g2 => hI m j (by omega)) (fun j _ => eV 50 _ (by omega)), (r _).trans h2, (r _).trans h3, (r _).trans h4, (r _).trans h5, (r _).trans h6, fun k hk => ?_⟩
  rw [eV 48 _ (by omega), eV 49 _ (by omega)]
  exact ⟨(r31 _).trans (h7 k hk).1, fun hh => (r32 _).trans ((h7 k hk).2 hh)⟩
theorem gI3_X {ER EI : Nat → Nat → Bool} {S S' : xm_S} {V V' : VV} {N : Nat} (h : gI3 S V) (h0 : gI1 S) (K : KX ER EI N S S') (hN : 2000 ≤ N) (hR : ∀ k, ER 30 k = false) (hI : ∀ n k, (40 ≤ n ∧ n < 76) → EI n k = false) (hb : vn V 56 0 ≤ 6) (eV : ∀ f k, (f = 56 ∨ f = 57 ∨ f = 58 ∨ f = 59) → V' f k = V f k) : gI3 S' V' := by
  obtain ⟨π, h1, h2, h3⟩ := h
  obtain ⟨-, -, -, -, -, -, -, -, -, -, h11⟩ := h0
  refine ⟨π, fun i hi => ⟨(h1 i hi).1, ((K _ (by omega)).2.1 _ (hR _)).trans (h1 i hi).2⟩, h2, fun i hi => ?_⟩
  rw [vn_e (eV 56 _ (by omega))] at hi
  obtain ⟨g1, g2, g3⟩ := h3 i hi
  have hp := (h1 i (by omega)).1
  obtain ⟨q1, q2, q3⟩ := h11 _ hp
  rw [eV 57 _ (by omega), eV 58 _ (by omega)]
  exact ⟨(KX_i K (by omega) (hI _ _ (by omega)) (by omega)).trans g1, (KX_i K (by omega) (hI _ _ (by omega)) (by omega)).trans g2, gMi_X g3 q3 K (by omega) (fun m j a b => hI m j (by omega)) (fun j _ => eV 59 _ (by omega))⟩
