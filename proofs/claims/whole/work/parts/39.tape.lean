-- the class's reader of the tape (tape at 2, its text at 3)
def TC (S : xm_S) (T : Nat → Nat) (L : Nat) : Prop := st_t S 2 = some (8, 0) ∧ st_r S 2 0 = some 3 ∧ st_t S 3 = some (102, 40) ∧ TX T L ∧ st_i S 2 1 = nI L ∧ ∀ s, s < L → st_i S 3 s = nI (T s)
def fC (n k : Nat) : Bool := n == 2 && (k == 2 || k == 3)
theorem TC_G {N L : Nat} {T : Nat → Nat} {S S' : xm_S} (h : TC S T L) (G : xG fC N S S') (hN : 4 ≤ N) : TC S' T L :=
  ⟨(G.1 _ (by omega)).trans h.1, (G.2.1 _ _ (by omega)).trans h.2.1, (G.1 _ (by omega)).trans h.2.2.1, h.2.2.2.1, (G.2.2.2 _ _ (by omega) rfl).trans h.2.2.2.2.1, fun s hs => (G.2.2.2 _ _ (by omega) rfl).trans (h.2.2.2.2.2 s hs)⟩
def cPF (S : xm_S) (s : Nat) (fl : Bool) : Prop := st_i S 2 2 = nI s ∧ st_i S 2 3 = bI fl
theorem cPF_0 {N s : Nat} {fl : Bool} {S S' : xm_S} (h : cPF S s fl) (G : xG fA0 N S S') (hN : 4 ≤ N) : cPF S' s fl := ⟨(G.2.2.2 _ _ (by omega) rfl).trans h.1, (G.2.2.2 _ _ (by omega) rfl).trans h.2⟩
theorem ct_F {S : xm_S} {s : Nat} {x : Int32} {T : Nat → Nat} {L : Nat} {g : Int32 → xm_S → Prop} (C : TC S T L) (P : cPF S s true) (h : g 0 S) : wp_X8_takes 2 x S g := by
  unfold wp_X8_takes wp_X8_takes_31
  rw [P.2]
  exact ⟨C.1, fun _ => h, fun e => absurd e (by decide)⟩
theorem ct_ok {S : xm_S} {s c : Nat} {T : Nat → Nat} {L : Nat} {g : Int32 → xm_S → Prop} (C : TC S T L) (P : cPF S s false) (hL : s ≤ L) (hc : 0 < c ∧ c < 1000) (h1 : T s = c → s < L → ∀ S', xf_F fC S S' → cPF S' (s + 1) false → g 1 S') (h0 : T s ≠ c → g 0 S) : wp_X8_takes 2 (nI c) S g := by
  obtain ⟨c1, c2, c3, c4, c5, c6⟩ := C
  have hL40 := c4.1
  unfold wp_X8_takes wp_X8_takes_31
  rw [P.2, P.1, c5]
  refine ⟨c1, fun e => absurd rfl e, fun _ => ⟨fun e => h0 ?_, fun e => ⟨_, c2, _, c3, vp_in_nI (show s < 40 by rw [nI_leI (by omega) (by omega)] at e; omega) (by decide), ?_⟩⟩⟩
  · rw [nI_leI (by omega) (by omega)] at e
    rw [c4.2.2 s e]; omega
  · rw [nI_leI (by omega) (by omega)] at e
    have hb := TX_b c4 s
    rw [nI_clamp (by omega), c6 s (by omega), nI_eq (by omega) (by omega)]
    refine ⟨fun a S7 e7 => ?_, fun a => h0 a⟩
    refine h1 a (by omega) S7 (by subst e7; exact xf_pi (xf_rfl _ _) rfl) ⟨?_, ?_⟩
    · rw [e7, st_i_pi_s, nI_1]
    · rw [e7, st_i_pi_n _ _ _ _ _ _ fun hh => by omega]; exact P.2
theorem cd_F {S : xm_S} {s : Nat} {T : Nat → Nat} {L : Nat} {g : Int32 → xm_S → Prop} (C : TC S T L) (P : cPF S s true) (h : ∀ S', xf_F fC S S' → cPF S' s true → g 0 S') : wp_X8_readDigit 2 S g := by
  unfold wp_X8_readDigit wp_X8_readDigit_3
  intro Z hZ
  have H : ∀ d k, k + d = 58 → Z (nI k) S := by
    intro d
    induction d with
    | zero =>
      intro k hk
      have hk : k = 58 := by omega
      subst hk
      refine hZ _ _ ?_
      unfold wp_X8_readDigit_3B
      refine ⟨fun _ => ⟨C.1, fun S2 e2 => h S2 (by subst e2; exact xf_pi (xf_rfl _ _) rfl) ⟨?_, ?_⟩⟩, fun e => absurd (nI_lt (show 57 < 58 by decide) (by decide)) e⟩
      · rw [e2, st_i_pi_n _ _ _ _ _ _ fun hh => by omega]; exact P.1
      · rw [e2]; exact st_i_pi_s _ _ _ _
    | succ d ih =>
      intro k hk
      refine hZ _ _ ?_
      unfold wp_X8_readDigit_3B
      refine ⟨fun e => absurd e (nI_nlt (show k ≤ 57 by omega) (by decide)), fun _ => ⟨C.1, ct_F C P ⟨fun _ y ey => ?_, fun e => absurd rfl e⟩⟩⟩
      rw [nI_1, pk_char, pk_tn (by omega), Nat.mod_eq_of_lt (by omega)] at ey
      rw [ey]
      exact ih (k + 1) (by omega)
  exact H 10 48 rfl
theorem cd_ok {S : xm_S} {s : Nat} {T : Nat → Nat} {L : Nat} {g : Int32 → xm_S → Prop} (C : TC S T L) (P : cPF S s false) (hL : s ≤ L) (h1 : dg T s = true → s < L → ∀ S', xf_F fC S S' → cPF S' (s + 1) false → g (nI (T s - 48)) S') (h0 : dg T s = false → ∀ S', xf_F fC S S' → cPF S' s true → g 0 S') : wp_X8_readDigit 2 S g := by
  unfold wp_X8_readDigit wp_X8_readDigit_3
  intro Z hZ
  have H : ∀ d k, k + d = 58 → 48 ≤ k → (∀ j, 48 ≤ j → j < k → T s ≠ j) → Z (nI k) S := by
    intro d
    induction d with
    | zero =>
      intro k hk h48 hj
      have hk : k = 58 := by omega
      subst hk
      refine hZ _ _ ?_
      unfold wp_X8_readDigit_3B
      have hd : dg T s = false := decide_eq_false (fun hh => hj (T s) hh.1 (by omega) rfl)
      refine ⟨fun _ => ⟨C.1, fun S2 e2 => h0 hd S2 (by subst e2; exact xf_pi (xf_rfl _ _) rfl) ⟨?_, ?_⟩⟩, fun e => absurd (nI_lt (show 57 < 58 by decide) (by decide)) e⟩
      · rw [e2, st_i_pi_n _ _ _ _ _ _ fun hh => by omega]; exact P.1
      · rw [e2]; exact st_i_pi_s _ _ _ _
    | succ d ih =>
      intro k hk h48 hj
      refine hZ _ _ ?_
      unfold wp_X8_readDigit_3B
      refine ⟨fun e => absurd e (nI_nlt (show k ≤ 57 by omega) (by decide)), fun _ => ⟨C.1, ct_ok C P hL (by omega) (fun e hlt S1 F P1 => ⟨fun e => absurd e (by decide), fun _ => ?_⟩) (fun e => ⟨fun _ y ey => ?_, fun e => absurd rfl e⟩)⟩⟩
      · rw [pk_sub h48, ← e]
        exact h1 (decide_eq_true (by omega)) hlt S1 F P1
      · rw [nI_1, pk_char, pk_tn (by omega), Nat.mod_eq_of_lt (by omega)] at ey
        rw [ey]
        refine ih (k + 1) (by omega) (by omega) fun j h4 h5 => ?_
        by_cases hjk : j = k
        · rw [hjk]; exact e
        · exact hj j h4 (by omega)
  exact H 10 48 rfl (Nat.le_refl _) (fun j h4 h5 => by omega)
/-- what readTest leaves -/
def cR (r : Nat × Option tt) (op : Bool) (N : Nat) (S : xm_S) (g : Option Nat → xm_S → Prop) : Prop := ∀ S' t', xG fC N S S' → frs (N + 3) S' → cPF S' r.1 r.2.isNone → TO S' N (op, some t') → tOK t' → (∀ t, r.2 = some t → t' = t) → g (some N) S'
theorem cR_F {r : Nat × Option tt} {op : Bool} {N : Nat} {S S1 : xm_S} {g : Option Nat → xm_S → Prop} (h : cR r op N S g) (F : xf_F fC S S1) : cR r op N S1 g := fun S' t' G => h S' t' (xG_tr (xG_F F) G (Nat.le_refl _))
theorem frs_F {A : Nat → Nat → Bool} {N : Nat} {S S1 : xm_S} (h : frs N S) (F : xf_F A S S1) : frs N S1 := fun n hn => (F.1 n).trans (h n hn)
theorem tOKm {sg e M m p v many : Nat} (h1 : sg ≤ 6) (h2 : e ≤ 9) (h3 : M ≤ 9) (h4 : m ≤ 9 := by decide) (h5 : p ≤ 9 := by decide) (h6 : v ≤ 9 := by decide) (h7 : 1 ≤ many := by decide) (h8 : many ≤ 3 := by decide) : tOK (sg, e, M, m, p, v, many) := ⟨h1, h2, h3, h4, h5, h6, h7, h8⟩
theorem c109 {S : xm_S} {N s sg e M m p v many : Nat} {op tm fl : Bool} {T : Nat → Nat} {L : Nat} {g : Option Nat → xm_S → Prop} (C : TC S T L) (P : cPF S s fl) (f : frs N S) (hN : 4 ≤ N) (ok : tOK (sg, e, M, m, p, v, many)) (htm : tm = decide (1 < many)) (h : cR (s, if fl then none else some (sg, e, M, m, p, v, many)) op N S g) {k x5 x6 x8 x9 s0 : Int32} (ek : k = nI (sg + 1)) (e5 : x5 = nI M) (e6 : x6 = nI e) (e8 : x8 = nI m) (e9 : x9 = nI p) (e0 : s0 = nI v) : wp_X8_readTest_109 2 (bI op) k x5 x6 (bI tm) x8 x9 s0 S g := by
  subst ek e5 e6 e8 e9 e0 htm
  have ok' := ok
  obtain ⟨o1, o2, o3, o4, o5, o6, o7, o8⟩ := ok
  have o1 : sg ≤ 6 := o1
  have o2 : e ≤ 9 := o2
  have o3 : M ≤ 9 := o3
  have o4 : m ≤ 9 := o4
  have o5 : p ≤ 9 := o5
  have o6 : v ≤ 9 := o6
  unfold wp_X8_readTest_109
  intro y ey
  simp only [pk_mul, nI_add] at ey
  refine ⟨N, f N (Nat.le_refl _), fun S5 e5 => ?_⟩
  have G5 : xG fA0 N S S5 := by subst e5; exact xG_nw (xG_rfl _ _ _) (Nat.le_refl _)
  have t5 : st_t S5 N = some (9, 0) := by rw [e5, st_t_nw, if_pos rfl]
  have f5 : ∀ n, N < n → st_t S5 n = none := fun n hn => by rw [e5, st_t_nw, if_neg (by omega)]; exact f n (by omega)
  rw [ey]
  refine cq_digitsOf (by omega) ⟨t5, ?_⟩
  rw [show dgN ((((e * 10 + M) * 10 + m) * 10 + p) * 10 + v) = dgT (sg, e, M, m, p, v, many) from by
    unfold dgN dgT
    rw [show ((((e * 10 + M) * 10 + m) * 10 + p) * 10 + v) / 10000 = e by omega, show ((((e * 10 + M) * 10 + m) * 10 + p) * 10 + v) / 1000 % 10 = M by omega, show ((((e * 10 + M) * 10 + m) * 10 + p) * 10 + v) / 100 % 10 = m by omega, show ((((e * 10 + M) * 10 + m) * 10 + p) * 10 + v) / 10 % 10 = p by omega, show ((((e * 10 + M) * 10 + m) * 10 + p) * 10 + v) % 10 = v by omega]]
  refine cq_init ok' t5 f5 fun S' G' f' TO' => ?_
  have G : xG fA0 N S S' := xG_tr G5 G' (Nat.le_refl _)
  have P' := cPF_0 P G hN
  refine h S' _ (xG_0 G) f' ?_ TO' ok' (fun t ht => ?_)
  · cases fl
    · exact P'
    · exact P'
  · cases fl
    · exact Option.some.inj ht
    · cases ht
theorem c90F {S : xm_S} {N s sg e M m p many : Nat} {op tm : Bool} {T : Nat → Nat} {L : Nat} {g : Option Nat → xm_S → Prop} (C : TC S T L) (P : cPF S s true) (f : frs N S) (hN : 4 ≤ N) (ok : tOK (sg, e, M, m, p, 0, many)) (htm : tm = decide (1 < many)) (h : cR (s, none) op N S g) : wp_X8_readTest_90 2 (bI op) (nI (sg + 1)) (nI M) (nI e) (bI tm) (nI m) (nI p) S g := by
  unfold wp_X8_readTest_90
  exact ⟨C.1, ct_F C P ⟨fun _ => c109 (v := 0) C P f hN ok htm h rfl rfl rfl rfl rfl rfl, fun e => absurd rfl e⟩⟩
theorem c90 {S : xm_S} {N s sg e M m p many : Nat} {op tm : Bool} {T : Nat → Nat} {L : Nat} {g : Option Nat → xm_S → Prop} (C : TC S T L) (P : cPF S s false) (hL : s ≤ L) (f : frs N S) (hN : 4 ≤ N) (ok : tOK (sg, e, M, m, p, 0, many)) (htm : tm = decide (1 < many)) (h : cR (rv3 T s sg e M m p many) op N S g) : wp_X8_readTest_90 2 (bI op) (nI (sg + 1)) (nI M) (nI e) (bI tm) (nI m) (nI p) S g := by
  unfold wp_X8_readTest_90
  unfold rv3 at h
  refine ⟨C.1, ct_ok (c := 45) C P hL (by decide) (fun e1 hlt S1 F P1 => ⟨fun e => absurd e (by decide), fun _ => ?_⟩) (fun e1 => ⟨fun _ => ?_, fun e => absurd rfl e⟩)⟩
  · rw [if_pos e1] at h
    have C1 := TC_G C (xG_F (N := N) F) hN
    refine ⟨C1.1, cd_ok C1 P1 hlt (fun e2 hlt2 S2 F2 P2 => ?_) (fun e2 S2 F2 P2 => ?_)⟩
    · rw [if_pos e2] at h
      have hd := dg_n e2
      obtain ⟨o1, o2, o3, o4, o5, o6, o7⟩ := ok
      exact c109 (v := T (s + 1) - 48) (fl := false) (TC_G C1 (xG_F (N := N) F2) hN) P2 (frs_F f (xf_tr F F2)) hN ⟨o1, o2, o3, o4, o5, by show T (s + 1) - 48 ≤ 9; omega, o7⟩ htm (cR_F h (xf_tr F F2)) rfl rfl rfl rfl rfl rfl
    · rw [if_neg (by rw [e2]; decide)] at h
      exact c109 (v := 0) (fl := true) (TC_G C1 (xG_F (N := N) F2) hN) P2 (frs_F f (xf_tr F F2)) hN ok htm (cR_F h (xf_tr F F2)) rfl rfl rfl rfl rfl rfl
  · rw [if_neg e1] at h
    exact c109 (v := 0) (fl := false) C P f hN ok htm h rfl rfl rfl rfl rfl rfl
theorem c66F {S : xm_S} {N s sg e M m many : Nat} {op tm : Bool} {T : Nat → Nat} {L : Nat} {g : Option Nat → xm_S → Prop} (C : TC S T L) (P : cPF S s true) (f : frs N S) (hN : 4 ≤ N) (ok : tOK (sg, e, M, m, 0, 0, many)) (htm : tm = decide (1 < many)) (h : cR (s, none) op N S g) : wp_X8_readTest_66 2 (bI op) (nI (sg + 1)) (nI M) (nI e) (bI tm) (nI m) S g := by
  unfold wp_X8_readTest_66 wp_X8_readTest_89
  have K := c90F (p := 0) C P f hN ok htm h
  exact bI_c (fun _ => ⟨C.1, ct_F C P ⟨fun _ => K, fun e => absurd rfl e⟩⟩) (fun _ => K)
theorem c66 {S : xm_S} {N s sg e M m : Nat} {op : Bool} {T : Nat → Nat} {L : Nat} {g : Option Nat → xm_S → Prop} (C : TC S T L) (P : cPF S s false) (hL : s ≤ L) (f : frs N S) (hN : 4 ≤ N) (ok : sg ≤ 6 ∧ e ≤ 9 ∧ M ≤ 9 ∧ m ≤ 9) (h : cR (rv2b T s sg e M m) op N S g) : wp_X8_readTest_66 2 (bI op) (nI (sg + 1)) (nI M) (nI e) (1 : Int32) (nI m) S g := by
  obtain ⟨o1, o2, o3, o4⟩ := ok
  unfold wp_X8_readTest_66 wp_X8_readTest_89
  unfold rv2b at h
  refine ⟨fun e => absurd e (by decide), fun _ => ⟨C.1, ct_ok (c := 46) C P hL (by decide) (fun e1 hlt S1 F P1 => ⟨fun e => absurd e (by decide), fun _ => ?_⟩) (fun e1 => ⟨fun _ => ?_, fun e => absurd rfl e⟩)⟩⟩
  · rw [if_pos e1] at h
    have C1 := TC_G C (xG_F (N := N) F) hN
    refine ⟨C1.1, cd_ok C1 P1 hlt (fun e2 hlt2 S2 F2 P2 => ?_) (fun e2 S2 F2 P2 => ?_)⟩
    · rw [if_pos e2] at h
      have hd := dg_n e2
      exact c90 (tm := true) (TC_G C1 (xG_F (N := N) F2) hN) P2 hlt2 (frs_F f (xf_tr F F2)) hN (tOKm o1 o2 o3 o4 (by omega)) rfl (cR_F h (xf_tr F F2))
    · rw [if_neg (by rw [e2]; decide)] at h
      exact c90F (tm := true) (p := 0) (many := 2) (TC_G C1 (xG_F (N := N) F2) hN) P2 (frs_F f (xf_tr F F2)) hN (tOKm o1 o2 o3 o4) rfl (cR_F h (xf_tr F F2))
  · rw [if_neg e1] at h
    exact c90 (tm := true) (p := 0) (many := 2) C P hL f hN (tOKm o1 o2 o3 o4) rfl h
theorem c43F {S : xm_S} {N s sg e M : Nat} {op : Bool} {T : Nat → Nat} {L : Nat} {g : Option Nat → xm_S → Prop} (C : TC S T L) (P : cPF S s true) (f : frs N S) (hN : 4 ≤ N) (ok : sg ≤ 6 ∧ e ≤ 9 ∧ M ≤ 9) (h : cR (s, none) op N S g) : wp_X8_readTest_43 2 (bI op) (nI (sg + 1)) (nI M) (nI e) S g := by
  unfold wp_X8_readTest_43
  exact ⟨C.1, ct_F C P ⟨fun _ => c66F (m := 0) (many := 1) (tm := false) C P f hN (tOKm ok.1 ok.2.1 ok.2.2) rfl h, fun e => absurd rfl e⟩⟩
theorem c43 {S : xm_S} {N s sg e M : Nat} {op : Bool} {T : Nat → Nat} {L : Nat} {g : Option Nat → xm_S → Prop} (C : TC S T L) (P : cPF S s false) (hL : s ≤ L) (f : frs N S) (hN : 4 ≤ N) (ok : sg ≤ 6 ∧ e ≤ 9 ∧ M ≤ 9) (h : cR (rv2 T s sg e M) op N S g) : wp_X8_readTest_43 2 (bI op) (nI (sg + 1)) (nI M) (nI e) S g := by
  obtain ⟨o1, o2, o3⟩ := ok
  unfold wp_X8_readTest_43
  unfold rv2 at h
  refine ⟨C.1, ct_ok (c := 46) C P hL (by decide) (fun e1 hlt S1 F P1 => ⟨fun e => absurd e (by decide), fun _ => ?_⟩) (fun e1 => ⟨fun _ => ?_, fun e => absurd rfl e⟩)⟩
  · rw [if_pos e1] at h
    have C1 := TC_G C (xG_F (N := N) F) hN
    refine ⟨C1.1, cd_ok C1 P1 hlt (fun e2 hlt2 S2 F2 P2 => ?_) (fun e2 S2 F2 P2 => ?_)⟩
    · rw [if_pos e2] at h
      have hd := dg_n e2
      exact c66 (TC_G C1 (xG_F (N := N) F2) hN) P2 hlt2 (frs_F f (xf_tr F F2)) hN ⟨o1, o2, o3, by omega⟩ (cR_F h (xf_tr F F2))
    · rw [if_neg (by rw [e2]; decide)] at h
      exact c66F (m := 0) (many := 2) (tm := true) (TC_G C1 (xG_F (N := N) F2) hN) P2 (frs_F f (xf_tr F F2)) hN (tOKm o1 o2 o3) rfl (cR_F h (xf_tr F F2))
  · rw [if_neg e1] at h
    unfold wp_X8_readTest_66 wp_X8_readTest_89
    refine ⟨fun _ => ?_, fun e => absurd rfl e⟩
    exact c90 (tm := false) (m := 0) (p := 0) (many := 1) C P hL f hN (tOKm o1 o2 o3) rfl h
/-- from the kind on -/
theorem c_rv {S : xm_S} {N s sg : Nat} {op : Bool} {T : Nat → Nat} {L : Nat} {g : Option Nat → xm_S → Prop} (C : TC S T L) (P : cPF S s false) (hL : s ≤ L) (f : frs N S) (hN : 4 ≤ N) (ok : sg ≤ 6) (h : cR (rv T s sg) op N S g) : wp_X8_readDigit 2 S (fun r35 S34 => st_t S34 2 = some (8, 0) ∧ wp_X8_takes 2 (nI 58) S34 (fun r38 S37 => (r38 = 0 → wp_X8_readTest_31 2 (bI op) (nI (sg + 1)) r35 r38 r35 S37 g) ∧ (¬ r38 = 0 → st_t S37 2 = some (8, 0) ∧ wp_X8_readDigit 2 S37 (fun r41 S40 => wp_X8_readTest_31 2 (bI op) (nI (sg + 1)) r35 r38 r41 S40 g)))) := by
  unfold wp_X8_readTest_31
  unfold rv at h
  refine cd_ok C P hL (fun e1 hlt S1 F P1 => ?_) (fun e1 S1 F P1 => ?_)
  · rw [if_pos e1] at h
    have hd := dg_n e1
    have C1 := TC_G C (xG_F (N := N) F) hN
    have f1 := frs_F f F
    refine ⟨C1.1, ct_ok (c := 58) C1 P1 hlt (by decide) (fun e2 hlt2 S2 F2 P2 => ⟨fun e => absurd e (by decide), fun _ => ?_⟩) (fun e2 => ⟨fun _ => ⟨fun _ => ?_, fun e => absurd rfl e⟩, fun e => absurd rfl e⟩)⟩
    · rw [if_pos e2] at h
      have C2 := TC_G C1 (xG_F (N := N) F2) hN
      refine ⟨C2.1, cd_ok C2 P2 hlt2 (fun e3 hlt3 S3 F3 P3 => ⟨fun e => absurd e (by decide), fun _ => ?_⟩) (fun e3 S3 F3 P3 => ⟨fun e => absurd e (by decide), fun _ => ?_⟩)⟩
      · rw [if_pos e3] at h
        have hd3 := dg_n e3
        exact c43 (TC_G C2 (xG_F (N := N) F3) hN) P3 hlt3 (frs_F f1 (xf_tr F2 F3)) hN ⟨ok, by omega, by omega⟩ (cR_F h (xf_tr F (xf_tr F2 F3)))
      · rw [if_neg (by rw [e3]; decide)] at h
        exact c43F (M := 0) (TC_G C2 (xG_F (N := N) F3) hN) P3 (frs_F f1 (xf_tr F2 F3)) hN ⟨ok, by omega, by omega⟩ (cR_F h (xf_tr F (xf_tr F2 F3)))
    · rw [if_neg e2] at h
      exact c43 (e := 0) C1 P1 hlt f1 hN ⟨ok, by omega, by omega⟩ (cR_F h F)
  · rw [if_neg (by rw [e1]; decide)] at h
    have C1 := TC_G C (xG_F (N := N) F) hN
    exact ⟨C1.1, ct_F C1 P1 ⟨fun _ => ⟨fun _ => c43F (e := 0) (M := 0) C1 P1 (frs_F f F) hN ⟨ok, by omega, by omega⟩ (cR_F h F), fun e => absurd rfl e⟩, fun e => absurd rfl e⟩⟩
theorem c_rvF {S : xm_S} {N s sg : Nat} {op : Bool} {T : Nat → Nat} {L : Nat} {g : Option Nat → xm_S → Prop} (C : TC S T L) (P : cPF S s true) (f : frs N S) (hN : 4 ≤ N) (ok : sg ≤ 6) (h : cR (s, none) op N S g) : wp_X8_readDigit 2 S (fun r35 S34 => st_t S34 2 = some (8, 0) ∧ wp_X8_takes 2 (nI 58) S34 (fun r38 S37 => (r38 = 0 → wp_X8_readTest_31 2 (bI op) (nI (sg + 1)) r35 r38 r35 S37 g) ∧ (¬ r38 = 0 → st_t S37 2 = some (8, 0) ∧ wp_X8_readDigit 2 S37 (fun r41 S40 => wp_X8_readTest_31 2 (bI op) (nI (sg + 1)) r35 r38 r41 S40 g)))) := by
  unfold wp_X8_readTest_31
  refine cd_F C P fun S1 F P1 => ?_
  have C1 := TC_G C (xG_F (N := N) F) hN
  exact ⟨C1.1, ct_F C1 P1 ⟨fun _ => ⟨fun _ => c43F (e := 0) (M := 0) C1 P1 (frs_F f F) hN ⟨ok, by omega, by omega⟩ (cR_F h F), fun e => absurd rfl e⟩, fun e => absurd rfl e⟩⟩
/-- kinds -/
theorem ck_ok {S : xm_S} {s : Nat} {T : Nat → Nat} {L : Nat} {g : Int32 → xm_S → Prop} (C : TC S T L) (P : cPF S s false) (hL : s ≤ L)
    (h : ∀ S' s' sg, xf_F fC S S' → cPF S' s' false → s' ≤ L → sg ≤ 6 → rt T s = rv T s' sg → g (nI (sg + 1)) S') (h0 : rt T s = (s, none) → ∀ S', xf_F fC S S' → cPF S' s true → g 1 S') : wp_X8_readKind 2 S g := by
  unfold wp_X8_readKind wp_X8_readKind_34 wp_X8_readKind_58
  refine ⟨C.1, ct_ok (c := 61) C P hL (by decide) (fun e1 hlt S1 F P1 => ⟨fun e => absurd e (by decide), fun _ => ?_⟩) (fun e1 => ⟨fun _ => ⟨C.1, ?_⟩, fun e => absurd rfl e⟩)⟩
  · exact h S1 _ 0 F P1 hlt (by decide) (by unfold rt; rw [if_pos e1])
  refine ct_ok (c := 62) C P hL (by decide) (fun e2 hlt S1 F P1 => ⟨fun e => absurd e (by decide), fun _ => ?_⟩) (fun e2 => ⟨fun _ => ⟨C.1, ?_⟩, fun e => absurd rfl e⟩)
  · have C1 := TC_G C (xG_F (N := 4) F) (Nat.le_refl _)
    refine ⟨C1.1, ct_ok (c := 61) C1 P1 hlt (by decide) (fun e3 hlt3 S2 F2 P2 => ⟨fun e => absurd e (by decide), fun _ => ?_⟩) (fun e3 => ⟨fun _ => ?_, fun e => absurd rfl e⟩)⟩
    · exact h S2 _ 3 (xf_tr F F2) P2 hlt3 (by decide) (by unfold rt; rw [if_neg e1, if_pos e2, if_pos e3])
    · exact h S1 _ 1 F P1 hlt (by decide) (by unfold rt; rw [if_neg e1, if_pos e2, if_neg e3])
  refine ct_ok (c := 60) C P hL (by decide) (fun e3 hlt S1 F P1 => ⟨fun e => absurd e (by decide), fun _ => ?_⟩) (fun e3 => ⟨fun _ => ⟨C.1, ?_⟩, fun e => absurd rfl e⟩)
  · have C1 := TC_G C (xG_F (N := 4) F) (Nat.le_refl _)
    refine ⟨C1.1, ct_ok (c := 61) C1 P1 hlt (by decide) (fun e4 hlt3 S2 F2 P2 => ⟨fun e => absurd e (by decide), fun _ => ?_⟩) (fun e4 => ⟨fun _ => ?_, fun e => absurd rfl e⟩)⟩
    · exact h S2 _ 4 (xf_tr F F2) P2 hlt3 (by decide) (by unfold rt; rw [if_neg e1, if_neg e2, if_pos e3, if_pos e4])
    · exact h S1 _ 2 F P1 hlt (by decide) (by unfold rt; rw [if_neg e1, if_neg e2, if_pos e3, if_neg e4])
  refine ct_ok (c := 94) C P hL (by decide) (fun e4 hlt S1 F P1 => ⟨fun e => absurd e (by decide), fun _ => ?_⟩) (fun e4 => ⟨fun _ => ⟨C.1, ?_⟩, fun e => absurd rfl e⟩)
  · exact h S1 _ 5 F P1 hlt (by decide) (by unfold rt; rw [if_neg e1, if_neg e2, if_neg e3, if_pos e4])
  refine ct_ok (c := 126) C P hL (by decide) (fun e5 hlt S1 F P1 => ⟨fun e => absurd e (by decide), fun _ => ?_⟩) (fun e5 => ⟨fun _ => ⟨C.1, fun S17 e17 => ?_⟩, fun e => absurd rfl e⟩)
  · exact h S1 _ 6 F P1 hlt (by decide) (by unfold rt; rw [if_neg e1, if_neg e2, if_neg e3, if_neg e4, if_pos e5])
  · refine h0 (by unfold rt; rw [if_neg e1, if_neg e2, if_neg e3, if_neg e4, if_neg e5]) S17 (by subst e17; exact xf_pi (xf_rfl _ _) rfl) ⟨?_, ?_⟩
    · rw [e17, st_i_pi_n _ _ _ _ _ _ fun hh => by omega]; exact P.1
    · rw [e17]; exact st_i_pi_s _ _ _ _
theorem c_rt {S : xm_S} {N s : Nat} {op : Bool} {T : Nat → Nat} {L : Nat} {g : Option Nat → xm_S → Prop} (C : TC S T L) (P : cPF S s false) (hL : s ≤ L) (f : frs N S) (hN : 4 ≤ N) (h : cR (rt T s) op N S g) : wp_X8_readTest 2 (bI op) S g := by
  unfold wp_X8_readTest
  refine ⟨C.1, ck_ok C P hL (fun S1 s1 sg F P1 hs1 hsg e => ?_) (fun e S1 F P1 => ?_)⟩
  · rw [e] at h
    have C1 := TC_G C (xG_F (N := N) F) hN
    exact ⟨C1.1, c_rv C1 P1 hs1 (frs_F f F) hN hsg (cR_F h F)⟩
  · rw [e] at h
    have C1 := TC_G C (xG_F (N := N) F) hN
    exact ⟨C1.1, c_rvF (sg := 0) C1 P1 (frs_F f F) hN (by decide) (cR_F h F)⟩
