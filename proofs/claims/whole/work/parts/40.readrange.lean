-- the class's readRange
def RO1 (S : xm_S) (r : Nat) (l : List xit) (N : Nat) : Prop := 2000 ≤ r ∧ r + 1 < N ∧ st_t S r = some (6, 0) ∧ l.length ≤ 20 ∧ st_i S r 1 = nI l.length ∧ st_r S r 0 = some (r + 1) ∧ st_t S (r + 1) = some (119, 20) ∧ ∀ i x, l[i]? = some x → ∃ o, r + 2 ≤ o ∧ o + 3 ≤ N ∧ st_r S (r + 1) i = some o ∧ TO S o x
theorem RO1_O {S : xm_S} {r N : Nat} {l : List xit} (h : RO1 S r l N) : RO S r l N := by
  obtain ⟨h1, h2, h3, h4, h5, h6, h7, h8⟩ := h
  exact ⟨h1, by omega, h3, h4, h5, r + 1, by omega, h2, h6, h7, fun i x hx => by obtain ⟨o, a, b, c, d⟩ := h8 i x hx; exact ⟨o, by omega, b, c, d⟩⟩
theorem RO1_G {A : Nat → Nat → Bool} {S S' : xm_S} {r N N' : Nat} {l : List xit} (h : RO1 S r l N) (G : xG A N S S') (hA : ∀ n k, 2000 ≤ n → A n k = false) (e : N ≤ N') : RO1 S' r l N' := by
  obtain ⟨h1, h2, h3, h4, h5, h6, h7, h8⟩ := h
  refine ⟨h1, by omega, (G.1 _ (by omega)).trans h3, h4, (G.2.2.2 _ _ (by omega) (hA _ _ h1)).trans h5, (G.2.1 _ _ (by omega)).trans h6, (G.1 _ h2).trans h7, fun i x hx => ?_⟩
  obtain ⟨o, o1, o2, o3, o4⟩ := h8 i x hx
  exact ⟨o, o1, by omega, (G.2.1 _ _ h2).trans o3, TO_G o4 G (fun n k hn => hA n k (by omega)) o2⟩
theorem fC_hi (n k : Nat) (h : 2000 ≤ n) : fC n k = false := by
  unfold fC
  rw [beq_eq_false_iff_ne.mpr (show n ≠ 2 by omega)]
  rfl
theorem TO_ag {S S' : xm_S} {o : Nat} {x : xit} (h : TO S o x) (a : ∀ n, o ≤ n → st_t S' n = st_t S n ∧ (∀ k, st_r S' n k = st_r S n k) ∧ ∀ k, st_i S' n k = st_i S n k) : TO S' o x := by
  obtain ⟨h1, h2, h3, h4, h5, h6, h7, h8⟩ := h
  exact ⟨(a _ (Nat.le_refl _)).1.trans h1, ((a _ (Nat.le_refl _)).2.1 _).trans h2, ((a _ (Nat.le_refl _)).2.1 _).trans h3, (a _ (by omega)).1.trans h4, (a _ (by omega)).1.trans h5, ((a _ (Nat.le_refl _)).2.2 _).trans h6, ((a _ (Nat.le_refl _)).2.2 _).trans h7, fun sc hs => ⟨((a _ (by omega)).2.2 _).trans (h8 sc hs).1, ((a _ (by omega)).2.2 _).trans (h8 sc hs).2⟩⟩
theorem c_add {S : xm_S} {r o N : Nat} {l : List xit} {x : xit} {g : xm_S → Prop} (R : RO1 S r l N) (t : st_t S o = some (9, 0)) (h20 : l.length = 20 → g S) (h : l.length < 20 → r + 2 ≤ o → o + 3 ≤ N → TO S o x → ∀ S', xG fA0 r S S' → (∀ n, st_t S' n = st_t S n) → RO1 S' r (l ++ [x]) N → g S') (hT : l.length < 20 → r + 2 ≤ o ∧ o + 3 ≤ N ∧ TO S o x) : wp_X6_add r (some o) S g := by
  obtain ⟨h1, h2, h3, h4, h5, h6, h7, h8⟩ := R
  unfold wp_X6_add wp_X6_add_29
  rw [h5]
  refine ⟨h3, fun e => h20 (by rw [nI_leI (by omega) (by omega)] at e; omega), fun e => ?_⟩
  rw [nI_leI (by omega) (by omega)] at e
  obtain ⟨b1, b2, b3⟩ := hT (by omega)
  refine ⟨_, h6, _, h7, vp_in_nI (show l.length < 20 by omega) (by decide), fun v hv => by rw [← Option.some.inj hv]; exact t, fun S8 e8 S10 e10 => ?_⟩
  rw [nI_clamp (by omega)] at e8
  rw [show st_i S8 r 1 = nI l.length by rw [e8]; exact h5, nI_1] at e10
  have ag : ∀ n, r + 2 ≤ n → st_t S10 n = st_t S n ∧ (∀ k, st_r S10 n k = st_r S n k) ∧ ∀ k, st_i S10 n k = st_i S n k := fun n hn => by
    subst e10 e8
    exact ⟨rfl, fun k => st_r_pr_n _ _ _ _ _ _ (by omega), fun k => st_i_pi_n _ _ _ _ _ _ (by omega)⟩
  refine h (by omega) b1 b2 b3 S10 ?_ (fun n => by subst e10 e8; rfl) ⟨h1, h2, by subst e10 e8; exact h3, by rw [List.length_append]; show l.length + 1 ≤ 20; omega, ?_, ?_, by subst e10 e8; exact h7, fun i y hy => ?_⟩
  · subst e10 e8
    exact xG_pi (xG_pr (xG_rfl _ _ _) (by omega)) (fun hh => absurd hh (by omega))
  · rw [List.length_append, e10]; exact st_i_pi_s _ _ _ _
  · rw [e10, st_r_pi, e8, st_r_pr_n _ _ _ _ _ _ (by omega)]; exact h6
  · rcases Nat.lt_or_ge i l.length with hi | hi
    · rw [List.getElem?_append_left hi] at hy
      obtain ⟨o', c1, c2, c3, c4⟩ := h8 i y hy
      refine ⟨o', c1, c2, ?_, TO_ag c4 fun n hn => ag n (by omega)⟩
      rw [e10, st_r_pi, e8, st_r_pr_n _ _ _ _ _ _ (by omega)]; exact c3
    · rw [List.getElem?_append_right hi] at hy
      have hi2 : i = l.length := by
        rcases Nat.lt_or_ge (i - l.length) 1 with q | q
        · omega
        · rw [List.getElem?_eq_none (by show 1 ≤ i - l.length; omega)] at hy; cases hy
      subst hi2
      rw [Nat.sub_self] at hy
      have hy : x = y := Option.some.inj hy
      subst hy
      refine ⟨o, b1, b2, ?_, TO_ag b3 fun n hn => ag n (by omega)⟩
      rw [e10, st_r_pi, e8]; exact st_r_pr_s _ _ _ _
def rgP (L : Nat) (r : Nat × Option (List xit)) (N : Nat) (S : xm_S) (g : Option Nat → xm_S → Prop) : Prop := ∀ S' N', xG fC N S S' → N ≤ N' → frs N' S' → (∀ l, r = (L, some l) → RO S' N l N' → g (some N) S') ∧ ((∀ l, r ≠ (L, some l)) → st_i S' 2 2 = nI r.1 → g none S')
def apnd (acc : List xit) (r : Nat × Option (List xit)) : Nat × Option (List xit) := (r.1, r.2.map (fun l => acc ++ l))
theorem apnd_cs (acc : List xit) (x : xit) (r : Nat × Option (List xit)) : apnd acc (cs x r) = apnd (acc ++ [x]) r := by
  obtain ⟨a, b⟩ := r
  cases b with
  | none => rfl
  | some l => show (a, some (acc ++ x :: l)) = (a, some (acc ++ [x] ++ l)); rw [List.append_assoc]; rfl
theorem c136F {S : xm_S} {N s : Nat} {T : Nat → Nat} {L kc ks : Nat} {x : Option Nat} {g : Option Nat → xm_S → Prop} (C : TC S T L) (P : cPF S s true) (hk : kc ≤ 130) (hks : ks ≤ 450) (h : g none S) : wp_X8_readRange_136 2 x S kc ks g := by
  unfold wp_X8_readRange_136 wp_X8_readRange_154 wp_X8_readRange_159
  rw [P.2]
  exact ⟨C.1, fun _ => ⟨hk, hks, h⟩, fun e => absurd e (by decide)⟩
theorem c136 {S : xm_S} {s : Nat} {T : Nat → Nat} {L kc ks : Nat} {x : Option Nat} {g : Option Nat → xm_S → Prop} (C : TC S T L) (P : cPF S s false) (hL : s ≤ L) (hk : kc ≤ 130) (hks : ks ≤ 450) (h1 : s = L → g x S) (h0 : s < L → g none S) : wp_X8_readRange_136 2 x S kc ks g := by
  have hL40 := C.2.2.2.1.1
  unfold wp_X8_readRange_136 wp_X8_readRange_154 wp_X8_readRange_159
  rw [P.2, P.1, C.2.2.2.2.1, nI_leI (by omega) (by omega)]
  exact ⟨C.1, fun e => absurd rfl e, fun _ => ⟨fun e => ⟨hk, hks, h1 (by omega)⟩, fun e => ⟨hk, hks, h0 (by omega)⟩⟩⟩
/-- behind a test that failed: nothing is taken any more -/
theorem c74F {S : xm_S} {N r o s : Nat} {acc : List xit} {T : Nat → Nat} {L kc ks : Nat} {x3 : Int32} {g : Option Nat → xm_S → Prop} {Z : Option Nat → Int32 → Int32 → xm_S → Nat → Nat → Prop} (C : TC S T L) (P : cPF S s true) (R : RO1 S r acc N) (t : acc.length < 20 → r + 2 ≤ o ∧ o + 3 ≤ N ∧ ∃ x, TO S o x) (t2 : st_t S o = some (9, 0)) (hk : kc ≤ 130) (hks : ks ≤ 450) (h : ∀ S', xG fA0 r S S' → (∀ n, st_t S' n = st_t S n) → g none S') : wp_X8_readRange_74 2 (some r) x3 (0 : Int32) (some o) (some r) S kc ks g Z := by
  have r0 := R.1
  have X : ∀ S', xG fA0 r S S' → (∀ n, st_t S' n = st_t S n) → ((¬ (0 : Int32) = 0 → wp_X8_readRange_95 2 (some r) x3 S' kc ks g Z) ∧ ((0 : Int32) = 0 → st_t S' 2 = some (8, 0) ∧ kc ≤ 130 ∧ ks ≤ 450 ∧ wp_X8_takes 2 (nI 44) S' (fun r22 S21 => (r22 = 0 → wp_X8_readRange_95 2 (some r) x3 S21 kc ks g Z) ∧ (¬ r22 = 0 → wp_X8_readRange_96 2 (some r) x3 (1 : Int32) S21 kc ks g Z)))) := by
    intro S' G e
    have C' := TC_G C (xG_0 G) (by omega)
    have P' := cPF_0 P G (by omega)
    refine ⟨fun e => absurd rfl e, fun _ => ⟨C'.1, hk, hks, ct_F C' P' ⟨fun _ => ?_, fun e => absurd rfl e⟩⟩⟩
    unfold wp_X8_readRange_95 wp_X8_readRange_96
    refine ⟨fun e => absurd rfl e, fun _ => ⟨C'.1, hk, hks, ct_F C' P' ⟨fun _ => ?_, fun e => absurd rfl e⟩⟩⟩
    unfold wp_X8_readRange_116 wp_X8_readRange_117
    exact ⟨fun e => absurd rfl e, fun _ => ⟨fun e => absurd rfl e, fun _ => c136F (N := N) C' P' hk hks (h S' G e)⟩⟩
  unfold wp_X8_readRange_74
  refine ⟨r, rfl, R.2.2.1, hk, hks, ?_⟩
  by_cases hl : acc.length < 20
  · obtain ⟨a, b, x, c⟩ := t hl
    exact c_add (x := x) R t2 (fun e => absurd e (by omega)) (fun _ _ _ _ S' G e _ => X S' G e) (fun _ => ⟨a, b, c⟩)
  · exact c_add (x := (true, none)) R t2 (fun _ => X S (xG_rfl _ _ _) (fun _ => rfl)) (fun e => absurd e hl) (fun e => absurd e hl)
theorem c_loop {N L : Nat} {T : Nat → Nat} {S0 : xm_S} {r0 : Nat × Option (List xit)} {g : Option Nat → xm_S → Prop} {Z : Option Nat → Int32 → Int32 → xm_S → Nat → Nat → Prop} (hN : 2000 ≤ N) (hg : rgP L r0 N S0 g) (hZ : ∀ x1 x2 x3 S kc ks, wp_X8_readRange_22B 2 x1 x2 x3 S kc ks g Z → Z x1 x2 x3 S kc ks) : ∀ f i s o S1 N1 acc kc ks, TC S1 T L → cPF S1 s false → s ≤ L → 2 * i ≤ s → L + 1 ≤ s + f → acc.length = i → RO1 S1 N acc N1 → frs N1 S1 → xG fC N S0 S1 → kc = 2 + 3 * i → ks = 22 + 10 * i → r0 = apnd acc (sc f T s o) → Z (some N) (bI o) (nI i) S1 kc ks := by
  intro f
  induction f with
  | zero => intro i s o S1 N1 acc kc ks C P h1 h2 h3; omega
  | succ f ih =>
    intro i s o S1 N1 acc kc ks C P h1 h2 h3 ha R f1 G ek es er
    have hL40 := C.2.2.2.1.1
    have hN1 := R.2.1
    have hkc : kc ≤ 100 := by omega
    have hks : ks ≤ 400 := by omega
    -- what follows a test that holds
    have D : ∀ S2 N2 kc2 ks2 s' all (ot : Nat) x, TC S2 T L → cPF S2 s' false → s' ≤ L → 2 * i + 1 ≤ s' → (all = false → 2 * i + 2 ≤ s') → RO1 S2 N acc N2 → N + 2 ≤ ot → ot + 3 ≤ N2 → TO S2 ot x → frs N2 S2 → xG fC N S0 S2 → kc2 = 2 + 3 * (i + 1) → ks2 = 22 + 10 * (i + 1) → L ≤ s' + f → r0 = apnd acc (if all then (if T s' = 124 then cs x (sc f T (s' + 1) true) else (s', some [x])) else sAT f T s' x) → wp_X8_readRange_74 2 (some N) (nI i) (bI all) (some ot) (some N) S2 kc2 ks2 g Z := by
      intro S2 N2 kc2 ks2 s' all ot x C2 P2 hs' h2i hall R2 hot1 hot2 hTO f2 G2 ek2 es2 hfu er2
      have hi20 : i < 20 := by
        rcases Bool.eq_false_or_eq_true all with e | e
        · omega
        · have := hall e; omega
      unfold wp_X8_readRange_74
      refine ⟨N, rfl, R2.2.2.1, by omega, by omega, c_add (x := x) R2 hTO.1 (fun e => absurd e (by omega)) (fun _ _ _ _ S3 G3 e3 R3 => ?_) (fun _ => ⟨hot1, hot2, hTO⟩)⟩
      have C3 := TC_G C2 (xG_0 G3) (by omega)
      have P3 := cPF_0 P2 G3 (by omega)
      have f3 : frs N2 S3 := fun n hn => (e3 n).trans (f2 n hn)
      have G03 : xG fC N S0 S3 := xG_tr G2 (xG_0 G3) (Nat.le_refl _)
      -- on
      have NX : ∀ S4 s4 o4, xf_F fC S3 S4 → cPF S4 s4 false → s4 ≤ L → 2 * (i + 1) ≤ s4 → L + 1 ≤ s4 + f → r0 = apnd (acc ++ [x]) (sc f T s4 o4) → ∀ y, y = nI i + 1 → Z (some N) (bI o4) y S4 kc2 ks2 := by
        intro S4 s4 o4 F4 P4 hs4 h24 hf4 er4 y ey
        rw [ey, nI_1]
        exact ih (i + 1) s4 o4 S4 N2 (acc ++ [x]) kc2 ks2 (TC_G C3 (xG_F (N := N) F4) (by omega)) P4 hs4 h24 hf4 (by rw [List.length_append, ha]; rfl) (RO1_G R3 (xG_F (N := N2) F4) fC_hi (Nat.le_refl _)) (frs_F f3 F4) (xG_tr G03 (xG_F F4) (Nat.le_refl _)) ek2 es2 er4
      have PIPE : T s' ≠ 44 ∨ all = true → r0 = apnd acc (if T s' = 124 then cs x (sc f T (s' + 1) true) else (s', some [x])) → wp_X8_readRange_96 2 (some N) (nI i) (0 : Int32) S3 kc2 ks2 g Z := by
        intro _ er3
        unfold wp_X8_readRange_96
        refine ⟨fun e => absurd rfl e, fun _ => ⟨C3.1, by omega, by omega, ct_ok (c := 124) C3 P3 hs' (by decide) (fun e1 hlt S4 F4 P4 => ⟨fun e => absurd e (by decide), fun _ => ?_⟩) (fun e1 => ⟨fun _ => ?_, fun e => absurd rfl e⟩)⟩⟩
        · rw [if_pos e1, apnd_cs] at er3
          unfold wp_X8_readRange_117 wp_X8_readRange_130
          exact ⟨fun e => absurd rfl e, fun _ => ⟨fun _ => NX S4 (s' + 1) true F4 P4 hlt (by omega) (by omega) er3, fun e => absurd e (by decide)⟩⟩
        · rw [if_neg e1] at er3
          unfold wp_X8_readRange_116 wp_X8_readRange_117
          refine ⟨fun e => absurd rfl e, fun _ => ⟨fun e => absurd rfl e, fun _ => c136 C3 P3 hs' (by omega) (by omega) (fun e => ?_) (fun e => ?_)⟩⟩
          · exact (hg S3 N2 G03 (by omega) f3).1 (acc ++ [x]) (by rw [er3, e]; rfl) (RO1_O R3)
          · refine (hg S3 N2 G03 (by omega) f3).2 (fun l hl => ?_) (by rw [er3]; exact P3.1)
            rw [er3] at hl
            have : s' = L := congrArg Prod.fst hl
            omega
      unfold wp_X8_readRange_95
      refine bI_c' (fun e => ?_) (fun e => ⟨C3.1, by omega, by omega, ct_ok (c := 44) C3 P3 hs' (by decide) (fun e1 hlt S4 F4 P4 => ⟨fun e => absurd e (by decide), fun _ => ?_⟩) (fun e1 => ⟨fun _ => ?_, fun e => absurd rfl e⟩)⟩)
      · rw [e, if_pos rfl] at er2
        exact PIPE (.inr e) er2
      · have h5 := hall e
        rw [e, if_neg (by decide)] at er2
        unfold sAT at er2
        rw [if_pos e1, apnd_cs] at er2
        unfold wp_X8_readRange_96 wp_X8_readRange_116 wp_X8_readRange_117 wp_X8_readRange_130
        exact ⟨fun _ => ⟨fun _ => NX S4 (s' + 1) false F4 P4 hlt (by omega) (by omega) er2, fun e => absurd e (by decide)⟩, fun e => absurd e (by decide)⟩
      · rw [e, if_neg (by decide)] at er2
        unfold sAT at er2
        rw [if_neg e1] at er2
        exact PIPE (.inl e1) er2
    refine hZ _ _ _ _ _ _ ?_
    -- a test
    have TST : ¬ (o = true ∧ T s = 42) → wp_X8_readRange_46 2 (some N) (bI o) (nI i) (0 : Int32) S1 kc ks g Z := by
      intro hne
      unfold wp_X8_readRange_46
      refine ⟨fun _ => ⟨C.1, by omega, by omega, c_rt C P h1 f1 (by omega) fun S2 t' G2 f2 P2 TO2 ok2 he => ?_⟩, fun e => absurd rfl e⟩
      have hle := rt_le C.2.2.2.1 h1
      have C2 := TC_G C G2 (by omega)
      have R2 := RO1_G (N' := N1 + 3) R G2 fC_hi (by omega)
      have G02 : xG fC N S0 S2 := xG_tr G G2 (by omega)
      cases hr : rt T s with
      | mk s' b =>
        rw [hr] at P2 hle he
        cases b with
        | none =>
          rw [sc_bad hne hr] at er
          refine c74F C2 P2 R2 (fun _ => ⟨by omega, by omega, _, TO2⟩) TO2.1 (by omega) (by omega) fun S3 G3 e3 => ?_
          have G03 : xG fC N S0 S3 := xG_tr G02 (xG_0 G3) (Nat.le_refl _)
          refine (hg S3 (N1 + 3) G03 (by omega) (fun n hn => (e3 n).trans (f2 n hn))).2 (fun l hl => ?_) ?_
          · rw [er] at hl; exact absurd (congrArg Prod.snd hl) (fun hh => by cases hh)
          · rw [er]; exact (cPF_0 P2 G3 (by omega)).1
        | some t =>
          rw [sc_good hne hr] at er
          have h5 := hle.2.2 (fun hh => by cases hh)
          have et : t' = t := he t rfl
          subst et
          have h6 := hle.2.1
          exact D S2 (N1 + 3) (kc + 3) (ks + 10) s' false N1 (o, some t') C2 P2 h6 (by omega) (fun _ => by omega) R2 (by omega) (Nat.le_refl _) TO2 f2 G02 (by omega) (by omega) (by omega) er
    have h40 : ¬ nI 40 < nI i := nI_nlt (show i ≤ 40 by omega) (by decide)
    unfold wp_X8_readRange_22B wp_X8_readRange_45
    refine ⟨fun e => absurd e h40, fun _ => bI_c (fun ho => ⟨C.1, by omega, by omega, ct_ok (c := 42) C P h1 (by decide) (fun e1 hlt S2 F2 P2 => ⟨fun e => absurd e (by decide), fun _ => ?_⟩) (fun e1 => ⟨fun _ => TST (fun hh => e1 hh.2), fun e => absurd rfl e⟩)⟩) (fun ho => TST (fun hh => by rw [ho] at hh; cases hh.1))⟩
    -- the star
    rw [ho] at er
    rw [sc_star e1] at er
    unfold wp_X8_readRange_46
    refine ⟨fun e => absurd e (by decide), fun _ => ⟨by omega, by omega, N1, (F2.1 _).trans (f1 N1 (Nat.le_refl _)), fun S3 e3 => ⟨by omega, by omega, cq_initS (by rw [e3, st_t_nw, if_pos rfl]) (fun n hn => by rw [e3, st_t_nw, if_neg (by omega)]; exact (F2.1 _).trans (f1 n (by omega))) fun S4 G4 f4 TO4 => ?_⟩⟩⟩
    have C2 := TC_G C (xG_F (N := N) F2) (by omega)
    have G24 : xG fA0 N1 S2 S4 := xG_tr (by subst e3; exact xG_nw (xG_rfl _ _ _) (Nat.le_refl _)) G4 (Nat.le_refl _)
    have C4 := TC_G C2 (xG_0 G24) (by omega)
    have G14 : xG fC N1 S1 S4 := xG_tr (xG_F F2) (xG_0 G24) (Nat.le_refl _)
    exact D S4 (N1 + 3) _ _ (s + 1) true N1 (true, none) C4 (cPF_0 P2 G24 (by omega)) hlt (by omega) (fun e => by cases e) (RO1_G (N' := N1 + 3) R G14 fC_hi (by omega)) (by omega) (Nat.le_refl _) TO4 f4 (xG_tr G G14 (by omega)) (by omega) (by omega) (by omega) er
theorem c_readRange {N L : Nat} {T : Nat → Nat} {S : xm_S} {g : Option Nat → xm_S → Prop} (C : TC S T L) (f : frs N S) (hN : 2000 ≤ N) (hg : rgP L (sc 41 T 0 true) N S g) : wp_X8_readRange 2 S g := by
  have hL40 := C.2.2.2.1.1
  unfold wp_X8_readRange
  refine ⟨by decide, by decide, N, f N (Nat.le_refl _), fun S47 e47 => ⟨by decide, by decide, ?_⟩⟩
  unfold wp_X6_init
  refine ⟨N + 1, by rw [e47, st_t_nw, if_neg (by omega)]; exact f _ (by omega), fun S3 e3 => ⟨by rw [e3, st_t_nw, if_neg (by omega), e47, st_t_nw, if_pos rfl], fun S6 e6 S8 e8 => ?_⟩⟩
  have G8 : xG fA0 N S S8 := by
    subst e8 e6 e3 e47
    exact xG_pi (xG_pr (xG_nw (xG_nw (xG_rfl _ _ _) (Nat.le_refl _)) (by omega)) (Nat.le_refl _)) (fun hh => absurd hh (by omega))
  have C8 := TC_G C (xG_0 G8) (by omega)
  refine ⟨C8.1, fun S54 e54 S56 e56 => ?_⟩
  have F56 : xf_F fC S8 S56 := by subst e56 e54; exact xf_pi (xf_pi (xf_rfl _ _) rfl) rfl
  have G56 : xG fC N S S56 := xG_tr (xG_0 G8) (xG_F F56) (Nat.le_refl _)
  unfold wp_X8_readRange_22
  intro Z hZ
  have tt8 : ∀ n, st_t S8 n = if n = N + 1 then some (119, 20) else if n = N then some (6, 0) else st_t S n := fun n => by
    subst e8 e6 e3 e47
    rw [st_t_pi, st_t_pr, st_t_nw, st_t_nw]
  refine c_loop hN hg hZ 41 0 0 true S56 (N + 2) [] 2 22 (TC_G C8 (xG_F (N := N) F56) (by omega)) ⟨?_, ?_⟩ (Nat.zero_le _) (Nat.zero_le _) (by omega) rfl ⟨hN, by omega, ?_, by decide, ?_, ?_, ?_, fun i x hx => by cases hx⟩ (fun n hn => ?_) G56 rfl rfl ?_
  · rw [e56, st_i_pi_n _ _ _ _ _ _ (by omega), e54]; exact st_i_pi_s _ _ _ _
  · rw [e56]; exact st_i_pi_s _ _ _ _
  · rw [F56.1, tt8, if_neg (by omega), if_pos rfl]
  · rw [F56.2.2.2 _ _ (fC_hi _ _ hN), e8]; exact st_i_pi_s _ _ _ _
  · rw [F56.2.1, e8, st_r_pi, e6]; exact st_r_pr_s _ _ _ _
  · rw [F56.1, tt8, if_pos rfl]
  · rw [F56.1, tt8, if_neg (by omega), if_neg (by omega)]; exact f n (by omega)
  · generalize sc 41 T 0 true = r
    obtain ⟨a, b⟩ := r
    cases b <;> rfl
