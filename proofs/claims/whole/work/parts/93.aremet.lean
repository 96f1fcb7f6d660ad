-- the class: are all needs met
def cv (x : Nat) : Int32 := if x = 0 then -1 else nI (x - 1)
theorem cv_m {x : Nat} (h : x ≤ 4) : cv x = -1 ↔ x = 0 := by
  unfold cv
  by_cases e : x = 0
  · rw [if_pos e]; exact ⟨fun _ => e, fun _ => rfl⟩
  · rw [if_neg e]; exact ⟨fun hh => absurd hh (nI_m1 (by omega)), fun hh => absurd hh e⟩
def Chs (S : xm_S) (c : CH) : Prop := ∀ p, p < 6 → st_i S 20 p = cv (c p)
/-- what is reached, behind a step -/
def fRe (n k : Nat) : Bool := n == 16 && (k == 12 || k == 13)
theorem fRe_f {n k : Nat} (h : ¬ (n = 16 ∧ (k = 12 ∨ k = 13))) : fRe n k = false := by
  unfold fRe
  by_cases e : n = 16
  · rw [beq_eq_false_iff_ne.mpr (show k ≠ 12 from fun hh => h ⟨e, .inl hh⟩), beq_eq_false_iff_ne.mpr (show k ≠ 13 from fun hh => h ⟨e, .inr hh⟩)]; simp
  · rw [beq_eq_false_iff_ne.mpr e]; rfl
theorem fRe_k {S S' : xm_S} (F : xf_F fRe S S') : xf_F fSk S S' := ⟨F.1, F.2.1, F.2.2.1, fun n k e => F.2.2.2 n k (fRe_f (fun hh => by rw [hh.1, fSk_16 (by omega)] at e; cases e))⟩
def Rea (S : xm_S) (s : RF) : Prop := st_i S 16 12 = s.1 ∧ st_i S 16 13 = s.2
/-- what a step makes of it -/
def nxt1 (S : xm_S) (o : Option RF) (g : Int32 → xm_S → Prop) : Prop := ∀ S', xf_F fRe S S' → (∀ s, o = some s → Rea S' s) → g (bI o.isSome) S'
theorem c_isMet {S : xm_S} {V : VV} {n q : Nat} {pool : Int32} {s : RF} {g : Int32 → xm_S → Prop} (s16 : st_t S 16 = some (7, 0)) (hP : nP V q < 6) (hn : n ≠ 16) (t : st_t S n = some (4, 0)) (i0 : st_i S n 0 = nI (nP V q)) (i2 : st_i S n 2 = nF V q) (i5 : st_i S n 5 = mbI V q) (r : Rea S s) (h : nxt1 S (imF V pool q s) g) : wp_X7_isMet 16 (some n) pool S g := by
  unfold wp_X7_isMet wp_X7_isMet_46
  refine ⟨n, rfl, t, fun y4 e4 => ⟨s16, fun S7 e7 => ⟨n, rfl, by rw [e7]; exact t, n, rfl, by rw [e7]; exact t, fun S15 e15 => ?_⟩⟩⟩
  rw [i5] at e4
  subst e4
  rw [r.1] at e7
  rw [show st_i S7 16 13 = s.2 by rw [e7, st_i_pi_n _ _ _ _ _ _ (by omega)]; exact r.2, show st_i S7 n 2 = nF V q by rw [e7, st_i_pi_n _ _ _ _ _ _ (by omega)]; exact i2, show st_i S7 n 0 = nI (nP V q) by rw [e7, st_i_pi_n _ _ _ _ _ _ (by omega)]; exact i0, pk_mul, show nP V q * 4 = 4 * nP V q by omega] at e15
  have F : xf_F fRe S S15 := by rw [e15, e7]; exact xf_pi (xf_pi (xf_rfl _ _) rfl) rfl
  have h := h S15 F
  unfold imF at h
  refine ⟨fun e => ⟨.inl rfl, ?_⟩, fun e => ⟨.inr rfl, ?_⟩⟩
  · rw [if_pos e] at h
    exact h (fun s hs => by cases hs)
  · rw [if_neg e] at h
    refine h fun s' hs => ?_
    rw [← Option.some.inj hs]
    refine ⟨?_, ?_⟩
    · rw [e15, st_i_pi_n _ _ _ _ _ _ (by omega), e7, st_i_pi_s]
    · rw [e15, st_i_pi_s]
theorem b1s {x : Int32} {k : Nat} (hk : k < 32) : (x &&& ((1 : Int32) <<< (nI k &&& 31))) = 0 ↔ bt x k = false := by
  rw [bt_and_z]
  constructor
  · intro h
    cases e : bt x k
    · rfl
    · have := h k hk e
      rw [bt_one hk, decide_eq_true rfl] at this
      cases this
  · intro h i hi e
    rw [bt_one hk]
    refine decide_eq_false fun e2 => ?_
    rw [e2, h] at e; cases e
theorem bind_none {o : Option RF} {f : RF → Option RF} (h : o = none) : o.bind f = none := by rw [h]; rfl
theorem hn_none {V : VV} {pl : Nat} {pool : Int32} {p a : Nat} {s : RF} {j : Nat} (h : hnF V pl pool p a j s = none) : ∀ d, hnF V pl pool p a (j + d) s = none := by
  intro d
  induction d with
  | zero => exact h
  | succ d ih => exact bind_none ih
theorem pa_none {V : VV} {pl : Nat} {pool : Int32} {c : CH} {s : RF} {j : Nat} (h : paF V pl pool c j s = none) : ∀ d, paF V pl pool c (j + d) s = none := by
  intro d
  induction d with
  | zero => exact h
  | succ d ih => exact bind_none ih
theorem wi_none {V : VV} {pool ask : Int32} {s : RF} {j : Nat} (h : wiF V pool ask j s = none) : ∀ d, wiF V pool ask (j + d) s = none := by
  intro d
  induction d with
  | zero => exact h
  | succ d ih => exact bind_none ih
theorem c_hnm {S : xm_S} {V : VV} {N pl p : Nat} {ul : Nat → Bool} {c : CH} {pool : Int32} {s : RF} {g : Int32 → xm_S → Prop} (C : CR S V N) (I : Iv V) (T : STD S V pl ul) (hl : pl < 3) (ch : Chs S c) (o : okc V c) (hp : p < 6) (h0 : c p ≠ 0) (r : Rea S s) (h : nxt1 S (hnF V pl pool p (vi c p) (vn V 8 (vi c p)) s) g) : wp_X7_hasNeedsMet 16 (nI p) pool S g := by
  obtain ⟨v1, v2, v3, v4, v5⟩ := vi_4 I o hp h0
  have c1 := C.2.2.1
  have s16 := (gS_16 c1).2
  have c4 := gS_4 c1
  have P := CR_gP C p hp
  have o5 := C.2.2.2.2.1
  have vk := CR_ver C I hp v4
  rw [show 4 * p + (c p - 1) = vi c p from rfl] at vk
  have k8 := (I.1.2.2.1 _ v2).1
  have k82 := k8.2
  have ec : st_i S 20 p = nI (c p - 1) := (ch p hp).trans (if_neg h0)
  unfold wp_X7_hasNeedsMet
  rw [nI_clamp (show p < 2 ^ 31 by omega)]
  refine ⟨s16, 4, T.1.1, _, c4.2, vp_in_nI (show p < 6 by omega) (by decide), _, P.2.1, P.1, 20, o5.2.2.2.2.2.2.1, _, o5.2.2.2.2.2.2.2.1, vp_in_nI (show p < 6 by omega) (by decide), _, P.2.2.1, _, P.2.2.2.1, ?_⟩
  rw [ec, nI_clamp (show c p - 1 < 2 ^ 31 by omega), vk.1]
  refine ⟨vp_in_nI (show c p - 1 < 4 by omega) (by decide), ?_⟩
  unfold wp_X7_hasNeedsMet_20
  intro Z hZ
  have H : ∀ d j S1 t, j + d = vn V 8 (vi c p) → xf_F fRe S S1 → hnF V pl pool p (vi c p) j s = some t → Rea S1 t → Z (nI p) pool (some (200 + 20 * vi c p)) (nI j) S1 := by
    intro d
    induction d with
    | zero =>
      intro j S1 t hj F e r1
      have C1 := SF_CR (SF_k (fRe_k F)) C I
      have w := CR_ver C1 I hp v4
      rw [show 4 * p + (c p - 1) = vi c p from rfl] at w
      refine hZ _ _ _ _ _ ?_
      unfold wp_X7_hasNeedsMet_20B
      refine ⟨_, rfl, w.2.1.1, ?_⟩
      rw [w.2.2.1.2.2.2.2.2.2.1, k8.1]
      rw [show j = vn V 8 (vi c p) by omega] at e ⊢
      refine ⟨fun _ => ?_, fun e => absurd (nI_le (Nat.le_refl _) (by omega)) e⟩
      rw [e] at h
      exact h S1 F fun t' ht => by rw [← Option.some.inj ht]; exact r1
    | succ d ih =>
      intro j S1 t hj F e r1
      have ih := fun S' t' => ih (j + 1) S' t' (by omega)
      have C1 := SF_CR (SF_k (fRe_k F)) C I
      have T1 := STD_k C (fRe_k F) T
      obtain ⟨w0, w1, w2, w3, w4⟩ := CR_ver C1 I hp v4
      rw [show 4 * p + (c p - 1) = vi c p from rfl] at w0 w1 w2 w3 w4
      have nn := w4.1 j (by omega)
      have nm := nm_q (V := V) v2 (show j < 4 by omega)
      have q9 := (I.2.1.1 (4 * vi c p + j) (by omega)).1
      have q92 := q9.2
      have s1 := (gS_16 C1.2.2.1).2
      have n5 := T1.2.2.1 (vi c p) v2 j (by omega)
      have eH : hnF V pl pool p (vi c p) (j + 1) s = if isOn V pl t.2 p (4 * vi c p + j) then imF V pool (4 * vi c p + j) t else some t := by
        show (hnF V pl pool p (vi c p) j s).bind _ = _
        rw [e]; rfl
      unfold isOn at eH
      -- it is not on
      have T0 : (isOn V pl t.2 p (4 * vi c p + j)) = false → wp_X7_hasNeedsMet_105 16 (nI p) pool (some (200 + 20 * vi c p)) (nI j) S1 g Z := fun b => by
        unfold isOn at b
        unfold wp_X7_hasNeedsMet_105
        intro y ey
        rw [if_neg (by rw [b]; decide)] at eH
        rw [ey, nI_1]
        exact ih S1 t F eH r1
      unfold isOn at T0
      refine hZ _ _ _ _ _ ?_
      unfold wp_X7_hasNeedsMet_20B wp_X7_hasNeedsMet_68
      refine ⟨_, rfl, w1.1, ?_⟩
      rw [w2.2.2.2.2.2.2.1, k8.1, nI_clamp (show j < 2 ^ 31 by omega)]
      refine ⟨fun e => absurd e (nI_ge (show j < vn V 8 (vi c p) by omega) (by omega)), fun _ => ⟨_, rfl, w1.1, _, w1.2.1, _, w1.2.2.1, vp_in_nI (show j < 4 by omega) (by decide), s1, fun y21 e21 => ?_⟩⟩
      rw [r1.2, pk_mul, show p * 4 = 4 * p by omega] at e21
      subst e21
      rw [nn.1]
      refine ⟨_, rfl, nn.2.1, ?_⟩
      rw [nn.2.2.2.2.2.1]
      -- it is on as far as its own feature goes
      have X : (V 12 (4 * vi c p + j) = -1 ∨ ¬ ((t.2 >>> (nI (4 * p) &&& 31)) &&& V 12 (4 * vi c p + j)) = 0) → wp_X7_hasNeedsMet_73 16 (nI p) pool (some (200 + 20 * vi c p)) (nI j) (some (200 + 20 * vi c p + 9 + j)) (1 : Int32) S1 g Z := fun hw => by
        have hw' : (decide (V 12 (4 * vi c p + j) = -1) || decide (¬ ((t.2 >>> (nI (4 * p) &&& 31)) &&& V 12 (4 * vi c p + j)) = 0)) = true := by rw [Bool.or_eq_true, decide_eq_true_eq, decide_eq_true_eq]; exact hw
        rw [hw', Bool.true_and] at eH T0
        unfold wp_X7_hasNeedsMet_73
        refine ⟨fun e => absurd e (by decide), fun _ => ⟨_, rfl, nn.2.1, s1, ?_⟩⟩
        rw [nn.2.2.2.2.1, T1.1.2.2.2]
        refine ⟨fun b => T0 (decide_eq_false fun hh => hh b), fun b => ?_⟩
        rw [if_pos (decide_eq_true b)] at eH
        refine c_isMet (q := 4 * vi c p + j) s1 (by rw [nm.1]; omega) (by omega) nn.2.1 (by rw [nm.1, ← q9.1]; exact nn.2.2.1) (by rw [nm.2]; exact nn.2.2.2.1) n5 r1 fun S7 F7 k7 => ?_
        cases e7 : imF V pool (4 * vi c p + j) t with
        | none =>
          rw [e7] at eH
          have := hn_none eH d
          rw [show j + 1 + d = vn V 8 (vi c p) by omega] at this
          rw [this] at h
          exact ⟨fun e => absurd rfl e, fun _ => h S7 (xf_tr F F7) fun t' ht => by cases ht⟩
        | some t' =>
          rw [e7] at eH
          unfold wp_X7_hasNeedsMet_105
          refine ⟨fun _ y ey => ?_, fun e => absurd e (show ¬ bI true = 0 by decide)⟩
          rw [ey, nI_1]
          exact ih S7 t' (xf_tr F F7) eH (k7 t' e7)
      refine ⟨fun b => X (.inl b), fun b => ⟨_, rfl, nn.2.1, ?_⟩⟩
      rw [nn.2.2.2.2.2.1]
      refine ⟨fun b2 => ?_, fun b2 => X (.inr b2)⟩
      unfold wp_X7_hasNeedsMet_73
      exact ⟨fun _ => T0 (by rw [decide_eq_false b, decide_eq_false (fun hh => hh b2)]; rfl), fun e => absurd rfl e⟩
  exact H (vn V 8 (vi c p)) 0 S s (by omega) (xf_rfl _ _) rfl r
theorem c_isReached {S : xm_S} {p : Nat} {c : CH} {s : RF} {g : Int32 → xm_S → Prop} (s16 : st_t S 16 = some (7, 0)) (r10 : st_r S 16 10 = some 20) (t20 : st_t S 20 = some (100, 6)) (ch : Chs S c) (hp : p < 6) (hc : c p ≤ 4) (r : Rea S s) (h : g (bI (decide (c p ≠ 0) && bt s.1 (vi c p))) S) : wp_X7_isReached 16 (nI p) S g := by
  unfold wp_X7_isReached wp_X7_isReached_32 wp_X7_isReached_33 wp_X7_bitOf
  rw [nI_clamp (show p < 2 ^ 31 by omega), r.1]
  refine ⟨s16, 20, r10, _, t20, vp_in_nI (show p < 6 by omega) (by decide), ?_⟩
  rw [ch p hp]
  refine ⟨fun e => ⟨.inl rfl, ?_⟩, fun e => ⟨20, r10, _, t20, vp_in_nI (show p < 6 by omega) (by decide), ?_⟩⟩
  · rw [decide_eq_false (p := c p ≠ 0) (fun hh => hh ((cv_m hc).mp e))] at h
    exact h
  · have h0 : c p ≠ 0 := fun hh => e ((cv_m hc).mpr hh)
    dsimp only
    rw [ch p hp, show cv (c p) = nI (c p - 1) from if_neg h0, pk_mul, nI_add, show p * 4 + (c p - 1) = vi c p by unfold vi; omega, b1s (by unfold vi; omega)]
    rw [decide_eq_true h0, Bool.true_and] at h
    refine ⟨fun b => ⟨.inl rfl, ?_⟩, fun b => ⟨.inr rfl, ?_⟩⟩
    · rw [b] at h; exact h
    · rw [show bt s.1 (vi c p) = true by cases h2 : bt s.1 (vi c p); exact absurd h2 b; rfl] at h
      exact h
theorem okc_4 {V : VV} {c : CH} {p : Nat} (I : Iv V) (o : okc V c) (hp : p < 6) : c p ≤ 4 := Nat.le_trans (o p hp) (I.1.1 p hp).2.2
theorem c_areMet {S : xm_S} {V : VV} {N pl : Nat} {ul : Nat → Bool} {c : CH} {pool r0 ask : Int32} {g : Int32 → xm_S → Prop} (C : CR S V N) (I : Iv V) (T : STD S V pl ul) (hl : pl < 3) (ch : Chs S c) (o : okc V c) (ha : st_i S 16 7 = ask) (h : nxt1 S (amF V pl pool ask c r0) g) : wp_X7_areMet 16 r0 pool S g := by
  have w18 := I.2.2.1.1
  have w182 := w18.2
  unfold wp_X7_areMet
  refine ⟨(gS_16 C.2.2.1).2, fun S24 e24 S26 e26 => ?_⟩
  have F0 : xf_F fRe S S26 := by rw [e26, e24]; exact xf_pi (xf_pi (xf_rfl _ _) rfl) rfl
  have r0b : Rea S26 (r0, 0) := ⟨by rw [e26, st_i_pi_n _ _ _ _ _ _ (by omega), e24, st_i_pi_s], by rw [e26, st_i_pi_s]⟩
  have Q : ∀ S1, xf_F fRe S S1 → CR S1 V N ∧ STD S1 V pl ul ∧ Chs S1 c ∧ st_i S1 16 7 = ask := fun S1 F => ⟨SF_CR (SF_k (fRe_k F)) C I, STD_k C (fRe_k F) T, fun p hp => (F.2.2.2 _ _ rfl).trans (ch p hp), (F.2.2.2 _ _ rfl).trans ha⟩
  -- the passes
  have ST : ∀ S1 t, xf_F fRe S S1 → wiF V pool ask (vn V 18 0) (r0, 0) = some t → Rea S1 t → wp_X7_areMet_55 16 pool (0 : Int32) S1 g := fun S1 t F1 e1 r1 => by
    have eA : amF V pl pool ask c r0 = itF V pl pool c 64 t := by unfold amF; rw [e1]; rfl
    rw [eA] at h
    unfold wp_X7_areMet_55
    intro Z hZ
    have H : ∀ d n S1 t', n + d = 64 → xf_F fRe S S1 → itF V pl pool c 64 t = itF V pl pool c d t' → Rea S1 t' → Z pool (nI n) S1 := by
      intro d
      induction d with
      | zero =>
        intro n S1 t' hn F1 e r1
        refine hZ _ _ _ ?_
        unfold wp_X7_areMet_55B wp_X7_areMet_137
        rw [show n = 64 by omega]
        rw [e] at h
        exact ⟨fun _ => h S1 F1 fun t2 ht => by rw [← Option.some.inj ht]; exact r1, fun e => absurd (nI_le (Nat.le_refl 64) (by decide)) e⟩
      | succ d ih =>
        intro n S1 t' hn F1 e r1
        refine hZ _ _ _ ?_
        unfold wp_X7_areMet_55B
        have eI : itF V pl pool c (d + 1) t' = (paF V pl pool c 6 t').bind fun s' => if s'.1 = t'.1 ∧ s'.2 = t'.2 then some s' else itF V pl pool c d s' := rfl
        refine ⟨fun e => absurd e (nI_ge (show n < 64 by omega) (by decide)), fun _ => ⟨(gS_16 (Q S1 F1).1.2.2.1).2, ?_⟩⟩
        rw [r1.1, r1.2]
        unfold wp_X7_areMet_76
        intro Z2 hZ2
        have H2 : ∀ d2 p S2 u, p + d2 = 6 → xf_F fRe S S2 → paF V pl pool c p t' = some u → Rea S2 u → Z2 pool (nI n) t'.1 t'.2 (nI p) S2 := by
          intro d2
          induction d2 with
          | zero =>
            intro p S2 u hp F2 e2 r2
            refine hZ2 _ _ _ _ _ _ ?_
            unfold wp_X7_areMet_76B wp_X7_areMet_131 wp_X7_areMet_137
            rw [show p = 6 by omega] at e2 ⊢
            rw [e2] at eI
            have eI : itF V pl pool c (d + 1) t' = if u.1 = t'.1 ∧ u.2 = t'.2 then some u else itF V pl pool c d u := eI
            refine ⟨fun _ => ⟨(gS_16 (Q S2 F2).1.2.2.1).2, ?_⟩, fun e => absurd (nI_le (Nat.le_refl 6) (by decide)) e⟩
            rw [r2.1, r2.2]
            have nx : ¬ (u.1 = t'.1 ∧ u.2 = t'.2) → ∀ y5, y5 = nI n + (1 : Int32) → Z pool y5 S2 := fun ne y ey => by
              rw [if_neg ne] at eI
              rw [ey, nI_1]
              exact ih (n + 1) S2 u (by omega) F2 (e.trans eI) r2
            refine ⟨fun b => nx fun hh => b hh.1, fun b => ⟨fun b2 => nx fun hh => b2 hh.2, fun b2 => ?_⟩⟩
            rw [if_pos ⟨b, b2⟩] at eI
            rw [e, eI] at h
            exact h S2 F2 fun t2 ht => by rw [← Option.some.inj ht]; exact r2
          | succ d2 ih2 =>
            intro p S2 u hp F2 e2 r2
            have ih2 := fun S' u' => ih2 (p + 1) S' u' (by omega)
            obtain ⟨C2, T2, ch2, _⟩ := Q S2 F2
            have o2 := C2.2.2.2.2.1
            have s2 := (gS_16 C2.2.2.1).2
            have eP : paF V pl pool c (p + 1) t' = if (decide (c p ≠ 0) && bt u.1 (vi c p)) then hnF V pl pool p (vi c p) (vn V 8 (vi c p)) u else some u := by
              show (paF V pl pool c p t').bind _ = _
              rw [e2]; rfl
            refine hZ2 _ _ _ _ _ _ ?_
            unfold wp_X7_areMet_76B wp_X7_areMet_104
            refine ⟨fun e => absurd e (nI_ge (show p < 6 by omega) (by decide)), fun _ => ⟨s2, c_isReached s2 o2.2.2.2.2.2.2.1 o2.2.2.2.2.2.2.2.1 ch2 (by omega) (okc_4 I o (by omega)) r2 (bI_c (fun b => ⟨s2, ?_⟩) (fun b y ey => ?_))⟩⟩
            · rw [if_pos b] at eP
              rw [Bool.and_eq_true, decide_eq_true_eq] at b
              refine c_hnm C2 I T2 hl ch2 o (by omega) b.1 r2 fun S3 F3 k3 => ?_
              cases e3 : hnF V pl pool p (vi c p) (vn V 8 (vi c p)) u with
              | none =>
                rw [e3] at eP
                have := pa_none eP d2
                rw [show p + 1 + d2 = 6 by omega] at this
                rw [this] at eI
                have eI : itF V pl pool c (d + 1) t' = none := eI
                rw [e, eI] at h
                exact ⟨fun e => absurd rfl e, fun _ => h S3 (xf_tr F2 F3) fun t' ht => by cases ht⟩
              | some u' =>
                rw [e3] at eP
                refine ⟨fun _ y ey => ?_, fun e => absurd e (show ¬ bI true = 0 by decide)⟩
                rw [ey, nI_1]
                exact ih2 S3 u' (xf_tr F2 F3) eP (k3 u' e3)
            · rw [if_neg (by rw [b]; decide)] at eP
              rw [ey, nI_1]
              exact ih2 S2 u F2 eP r2
        exact H2 6 0 S1 t' rfl F1 rfl r1
    exact H 64 0 S1 t rfl F1 rfl r1
  unfold wp_X7_areMet_12
  intro Z hZ
  have H : ∀ d k S1 t, k + d = vn V 18 0 → xf_F fRe S S1 → wiF V pool ask k (r0, 0) = some t → Rea S1 t → Z pool (nI k) S1 := by
    intro d
    induction d with
    | zero =>
      intro k S1 t hk F1 e r1
      obtain ⟨C1, T1, _, a1⟩ := Q S1 F1
      refine hZ _ _ _ ?_
      unfold wp_X7_areMet_12B
      rw [T1.1.2.2.1, w18.1]
      rw [show k = vn V 18 0 by omega] at e ⊢
      exact ⟨(gS_16 C1.2.2.1).2, fun _ => ST S1 t F1 e r1, fun e => absurd (nI_le (Nat.le_refl _) (by omega)) e⟩
    | succ d ih =>
      intro k S1 t hk F1 e r1
      have ih := fun S' t' => ih (k + 1) S' t' (by omega)
      obtain ⟨C1, T1, _, a1⟩ := Q S1 F1
      have s1 := (gS_16 C1.2.2.1).2
      have eW : wiF V pool ask (k + 1) (r0, 0) = if bt ask k then imF V pool (144 + k) t else some t := by
        show (wiF V pool ask k (r0, 0)).bind _ = _
        rw [e]; rfl
      refine hZ _ _ _ ?_
      unfold wp_X7_areMet_12B wp_X7_areMet_47
      rw [T1.1.2.2.1, w18.1, a1, b1_z (show k < 32 by omega), nI_clamp (show k < 2 ^ 31 by omega)]
      refine ⟨s1, fun e => absurd e (nI_ge (show k < vn V 18 0 by omega) (by omega)), fun _ => ⟨fun b y ey => ?_, fun b => ?_⟩⟩
      · rw [if_neg (by rw [b]; decide)] at eW
        rw [ey, nI_1]
        exact ih S1 t F1 eW r1
      · rw [if_pos (by cases h2 : bt ask k; exact absurd h2 b; rfl)] at eW
        obtain ⟨w, g1, g2⟩ := C1.2.2.2.2.2.2.2.2.1
        have gw := g1 k (by omega)
        have nm := nm_w (V := V) (j := k)
        have q19 := (I.2.2.1.2.1 k (by omega)).1
        have q192 := q19.2
        have c5 := gS_5 C1.2.2.1
        refine ⟨5, T1.1.2.1, _, c5.2, vp_in_nI (show k < 4 by omega) (by decide), ?_⟩
        rw [gw.1]
        refine c_isMet (q := 144 + k) s1 (by rw [nm.1]; omega) (by omega) gw.2.2.2.1 (by rw [nm.1, ← q19.1]; exact gw.2.2.2.2.1) (by rw [nm.2]; exact gw.2.2.2.2.2.1) (T1.2.1 k (by omega) _ gw.1) r1 fun S7 F7 k7 => ?_
        cases e7 : imF V pool (144 + k) t with
        | none =>
          rw [e7] at eW
          have := wi_none eW d
          rw [show k + 1 + d = vn V 18 0 by omega] at this
          have eA : amF V pl pool ask c r0 = none := by unfold amF; rw [this]; rfl
          rw [eA] at h
          exact ⟨fun e => absurd rfl e, fun _ => h S7 (xf_tr F1 F7) fun t' ht => by cases ht⟩
        | some t' =>
          rw [e7] at eW
          refine ⟨fun _ y ey => ?_, fun e => absurd e (show ¬ bI true = 0 by decide)⟩
          rw [ey, nI_1]
          exact ih S7 t' (xf_tr F1 F7) eW (k7 t' e7)
  exact H (vn V 18 0) 0 S26 (r0, 0) (by omega) F0 rfl r0b
