-- PURE PART: frames, booleans as ints, the model's object
/-- agreement but for some int cells -/
def xf_F (A : Nat → Nat → Bool) (S S' : xm_S) : Prop := (∀ n, st_t S' n = st_t S n) ∧ (∀ n k, st_r S' n k = st_r S n k) ∧ (∀ n k, st_l S' n k = st_l S n k) ∧ ∀ n k, A n k = false → st_i S' n k = st_i S n k
theorem xf_rfl (A : Nat → Nat → Bool) (S : xm_S) : xf_F A S S := ⟨fun _ => rfl, fun _ _ => rfl, fun _ _ => rfl, fun _ _ _ => rfl⟩
theorem xf_tr {A : Nat → Nat → Bool} {S S1 S2 : xm_S} (h : xf_F A S S1) (h2 : xf_F A S1 S2) : xf_F A S S2 := ⟨fun n => (h2.1 n).trans (h.1 n), fun n k => (h2.2.1 n k).trans (h.2.1 n k), fun n k => (h2.2.2.1 n k).trans (h.2.2.1 n k), fun n k e => (h2.2.2.2 n k e).trans (h.2.2.2 n k e)⟩
theorem xf_pi {A : Nat → Nat → Bool} {S S1 : xm_S} {n k : Nat} {v : Int32} (h : xf_F A S S1) (e : A n k = true) : xf_F A S (st_pi S1 n k v) := xf_tr h ⟨fun _ => rfl, fun _ _ => rfl, fun _ _ => rfl, fun m j f => st_i_pi_n _ _ _ _ _ _ fun hh => by rw [hh.1, hh.2, e] at f; cases f⟩
theorem xf_mo {A B : Nat → Nat → Bool} {S S' : xm_S} (h : xf_F A S S') (e : ∀ n k, B n k = false → A n k = false) : xf_F B S S' := ⟨h.1, h.2.1, h.2.2.1, fun n k f => h.2.2.2 n k (e n k f)⟩
def bI (b : Bool) : Int32 := if b then 1 else 0
theorem bI_t : bI true = 1 := rfl
theorem bI_f : bI false = 0 := rfl
theorem bI_01 (b : Bool) : bI b = 0 ∨ bI b = 1 := by cases b <;> simp [bI]
theorem bI_0 (b : Bool) : bI b = 0 ↔ b = false := by cases b <;> decide
theorem bI_n0 (b : Bool) : ¬ bI b = 0 ↔ b = true := by cases b <;> decide
theorem bI_1 (b : Bool) : bI b = 1 ↔ b = true := by cases b <;> decide
theorem bI_c {b : Bool} {A B : Prop} (f : b = true → A) (g : b = false → B) : (bI b = 0 → B) ∧ (¬ bI b = 0 → A) := ⟨fun h => g ((bI_0 b).mp h), fun h => f ((bI_n0 b).mp h)⟩
theorem bI_c' {b : Bool} {A B : Prop} (f : b = true → A) (g : b = false → B) : (¬ bI b = 0 → A) ∧ (bI b = 0 → B) := ⟨fun h => f ((bI_n0 b).mp h), fun h => g ((bI_0 b).mp h)⟩
theorem pq_in {v a b : Int32} {S : xm_S} {g : Int32 → xm_S → Prop} (h : g (bI (decide (a ≤ v ∧ v ≤ b))) S) : wp_X12_in v a b S g := by
  unfold wp_X12_in wp_X12_in_14 wp_X12_in_15
  refine ⟨fun h1 => ⟨.inl rfl, ?_⟩, fun h1 => ⟨fun h2 => ⟨.inl rfl, ?_⟩, fun h2 => ⟨.inr rfl, ?_⟩⟩⟩
  · rw [decide_eq_false (fun hh => by rw [fa_lt] at h1; have := (fa_le _ _).mp hh.1; omega)] at h; exact h
  · rw [decide_eq_false (fun hh => by rw [fa_lt] at h2; have := (fa_le _ _).mp hh.2; omega)] at h; exact h
  · rw [decide_eq_true ⟨by rw [fa_lt] at h1; rw [fa_le]; omega, by rw [fa_lt] at h2; rw [fa_le]; omega⟩] at h; exact h
-- the model's object at name 1000, its arrays at 1001 + field
def mz (f : Nat) : Nat := match f with
  | 1 => 6 | 2 => 6 | 3 => 24 | 4 => 24 | 5 => 24 | 6 => 24 | 7 => 24 | 8 => 24 | 9 => 96 | 10 => 96 | 11 => 96 | 12 => 96 | 13 => 24 | 14 => 48 | 15 => 24 | 16 => 48 | 17 => 48 | 19 => 4 | 20 => 4 | 22 => 6 | 23 => 6 | 24 => 6200 | 25 => 155 | 27 => 18 | 28 => 3 | 29 => 18 | 30 => 155 | 31 => 155 | 32 => 24 | 33 => 6 | 34 => 6 | 35 => 6 | 40 => 72 | 41 => 3 | 42 => 24 | 43 => 3 | 44 => 24 | 45 => 72 | 46 => 72 | 47 => 72 | 48 => 16 | 49 => 16 | 50 => 54 | 51 => 16 | 57 => 7 | 58 => 7 | 59 => 378 | 63 => 5 | _ => 0
def mk (f : Nat) : Nat := match f with
  | 7 => 101 | 28 => 101 | 41 => 101 | 42 => 101 | 47 => 101 | 58 => 101 | 31 => 103 | _ => 100
def MS (S : xm_S) : Prop := st_t S 1000 = some (12, 0) ∧ ∀ f, 0 < mz f → st_r S 1000 f = some (1001 + f) ∧ st_t S (1001 + f) = some (mk f, mz f)
theorem MS_r {S : xm_S} (h : MS S) (f : Nat) (e : 0 < mz f := by decide) : st_r S 1000 f = some (1001 + f) := (h.2 f e).1
theorem MS_t {S : xm_S} (h : MS S) (f : Nat) (e : 0 < mz f := by decide) : st_t S (1001 + f) = some (mk f, mz f) := (h.2 f e).2
theorem MS_F {A : Nat → Nat → Bool} {S S' : xm_S} (h : MS S) (F : xf_F A S S') : MS S' := ⟨(F.1 _).trans h.1, fun f e => ⟨(F.2.1 _ _).trans (h.2 f e).1, (F.1 _).trans (h.2 f e).2⟩⟩
-- texts
def dg (T : Nat → Nat) (s : Nat) : Bool := decide (48 ≤ T s ∧ T s ≤ 57)
abbrev tt : Type := Nat × Nat × Nat × Nat × Nat × Nat × Nat
def rv3 (T : Nat → Nat) (s sg e M m p many : Nat) : Nat × Option tt := if T s = 45 then (if dg T (s + 1) then (s + 2, some (sg, e, M, m, p, T (s + 1) - 48, many)) else (s + 1, none)) else (s, some (sg, e, M, m, p, 0, many))
def rv2b (T : Nat → Nat) (s sg e M m : Nat) : Nat × Option tt := if T s = 46 then (if dg T (s + 1) then rv3 T (s + 2) sg e M m (T (s + 1) - 48) 3 else (s + 1, none)) else rv3 T s sg e M m 0 2
def rv2 (T : Nat → Nat) (s sg e M : Nat) : Nat × Option tt := if T s = 46 then (if dg T (s + 1) then rv2b T (s + 2) sg e M (T (s + 1) - 48) else (s + 1, none)) else rv3 T s sg e M 0 0 1
def rv (T : Nat → Nat) (s sg : Nat) : Nat × Option tt := if dg T s then (if T (s + 1) = 58 then (if dg T (s + 2) then rv2 T (s + 3) sg (T s - 48) (T (s + 2) - 48) else (s + 2, none)) else rv2 T (s + 1) sg 0 (T s - 48)) else (s, none)
def rt (T : Nat → Nat) (s : Nat) : Nat × Option tt := if T s = 61 then rv T (s + 1) 0 else if T s = 62 then (if T (s + 1) = 61 then rv T (s + 2) 3 else rv T (s + 1) 1) else if T s = 60 then (if T (s + 1) = 61 then rv T (s + 2) 4 else rv T (s + 1) 2) else if T s = 94 then rv T (s + 1) 5 else if T s = 126 then rv T (s + 1) 6 else (s, none)
def TX (T : Nat → Nat) (L : Nat) : Prop := L ≤ 40 ∧ (∀ s, s < L → 33 ≤ T s ∧ T s ≤ 126) ∧ ∀ s, L ≤ s → T s = 0
theorem TX_n {T : Nat → Nat} {L s : Nat} (h : TX T L) (e : T s ≠ 0) : s < L := Nat.lt_of_not_le fun hh => e (h.2.2 s hh)
theorem TX_b {T : Nat → Nat} {L : Nat} (h : TX T L) (s : Nat) : T s ≤ 126 := (Nat.lt_or_ge s L).elim (fun e => (h.2.1 s e).2) fun e => by rw [h.2.2 s e]; omega
theorem dg_n {T : Nat → Nat} {s : Nat} (e : dg T s = true) : 48 ≤ T s ∧ T s ≤ 57 := of_decide_eq_true e
/-- a model that reads the text of one range -/
def MT (S : xm_S) (q : Nat) (T : Nat → Nat) (L : Nat) : Prop := MS S ∧ q < 155 ∧ TX T L ∧ st_i S 1000 61 = nI q ∧ st_i S 1026 q = nI L ∧ ∀ s, s < L → st_i S 1025 (40 * q + s) = nI (T s)
def fA (n k : Nat) : Bool := (n == 1000 && (k == 60 || k == 62 || k == 64)) || n == 1064
theorem MT_F {S S' : xm_S} {q L : Nat} {T : Nat → Nat} (h : MT S q T L) (F : xf_F fA S S') : MT S' q T L :=
  ⟨MS_F h.1 F, h.2.1, h.2.2.1, (F.2.2.2 _ _ rfl).trans h.2.2.2.1, (F.2.2.2 _ _ rfl).trans h.2.2.2.2.1, fun s e => (F.2.2.2 _ _ rfl).trans (h.2.2.2.2.2 s e)⟩
theorem pm_next {S : xm_S} {q L s : Nat} {T : Nat → Nat} {g : Int32 → xm_S → Prop} (M : MT S q T L) (hs : st_i S 1000 60 = nI s) (hL : s ≤ L) (h : g (nI (T s)) S) : wp_X12_next 1000 S g := by
  obtain ⟨h1, hq, hT, h2, h3, h4⟩ := M
  have hL40 := hT.1
  unfold wp_X12_next wp_X12_next_37
  refine ⟨h1.1, _, MS_r h1 25, _, MS_t h1 25, ?_, ?_⟩
  · rw [h2]; exact vp_in_nI hq (by decide)
  · rw [h2, hs, nI_clamp (by omega), show (1001 + 25 : Nat) = 1026 from rfl, h3]
    refine ⟨fun e => ?_, fun e => ?_⟩
    · rw [nI_leI (by omega) (by omega)] at e
      rw [hT.2.2 s e] at h
      exact h
    · rw [nI_leI (by omega) (by omega)] at e
      refine ⟨_, MS_r h1 24, _, MS_t h1 24, ?_, ?_⟩
      · rw [pk_mul, nI_add]; exact vp_in_nI (show 40 * q + s < 6200 by omega) (by decide)
      · rw [pk_mul, nI_add, nI_clamp (by omega), show (1001 + 24 : Nat) = 1025 from rfl, h4 s (by omega)]; exact h
theorem pm_takes {S : xm_S} {q L s c : Nat} {T : Nat → Nat} {g : Int32 → xm_S → Prop} (M : MT S q T L) (hs : st_i S 1000 60 = nI s) (hL : s ≤ L) (hc : 0 < c ∧ c < 1000)
    (h1 : T s = c → s < L → ∀ S', xf_F fA S S' → (∀ k, k ≠ 60 → st_i S' 1000 k = st_i S 1000 k) → (∀ k, st_i S' 1064 k = st_i S 1064 k) → st_i S' 1000 60 = nI (s + 1) → g 1 S') (h0 : T s ≠ c → ∀ S', xf_F fA S S' → (∀ k, k ≠ 60 → st_i S' 1000 k = st_i S 1000 k) → (∀ k, st_i S' 1064 k = st_i S 1064 k) → st_i S' 1000 60 = nI s → g 0 S') : wp_X12_takes 1000 (nI c) S g := by
  have hL40 := M.2.2.1.1
  have hT := M.2.2.1
  unfold wp_X12_takes
  refine ⟨M.1.1, pm_next M hs hL ⟨fun e => ?_, fun e => ?_⟩⟩
  · rw [nI_eq (by have := TX_b hT s; omega) (by omega)] at e
    unfold wp_X12_takes_13
    refine ⟨M.1.1, fun _ => ?_, fun e => absurd rfl e⟩
    unfold wp_X12_takes_28
    refine ⟨_, rfl, M.1.1, fun S4 e4 => ⟨.inl rfl, ?_⟩⟩
    subst e4
    refine h0 e _ (xf_pi (xf_rfl _ _) rfl) (fun k hk => st_i_pi_n _ _ _ _ _ _ fun hh => hk hh.2) (fun k => st_i_pi_n _ _ _ _ _ _ fun hh => by omega) ?_
    rw [st_i_pi_s, hs]; exact Int32.add_zero _
  · rw [nI_eq (by have := TX_b hT s; omega) (by omega)] at e
    have hlt := TX_n hT (s := s) (by omega)
    unfold wp_X12_takes_13
    refine ⟨M.1.1, fun e => absurd e (by decide), fun _ => ?_⟩
    unfold wp_X12_takes_28
    refine ⟨_, rfl, M.1.1, fun S4 e4 => ⟨.inr rfl, ?_⟩⟩
    subst e4
    refine h1 e hlt _ (xf_pi (xf_rfl _ _) rfl) (fun k hk => st_i_pi_n _ _ _ _ _ _ fun hh => hk hh.2) (fun k => st_i_pi_n _ _ _ _ _ _ fun hh => by omega) ?_
    rw [st_i_pi_s, hs, nI_1]
theorem pm_isDigit {S : xm_S} {q L s : Nat} {T : Nat → Nat} {g : Int32 → xm_S → Prop} (M : MT S q T L) (hs : st_i S 1000 60 = nI s) (hL : s ≤ L) (h : g (bI (dg T s)) S) : wp_X12_isDigit 1000 S g := by
  have hb := TX_b M.2.2.1 s
  unfold wp_X12_isDigit
  refine ⟨M.1.1, pm_next M hs hL (pq_in ⟨bI_01 _, ?_⟩)⟩
  rw [show decide (nI 48 ≤ nI (T s) ∧ nI (T s) ≤ nI 57) = dg T s from decide_eq_decide.mpr (by rw [nI_leI (by omega) (by omega), nI_leI (by omega) (by omega)])]
  exact h
theorem pm_digit {S : xm_S} {q L s w : Nat} {T : Nat → Nat} {g : Int32 → xm_S → Prop} (M : MT S q T L) (hs : st_i S 1000 60 = nI s) (hL : s ≤ L) (hw : w < 5)
    (h1 : dg T s = true → s < L → ∀ S', xf_F fA S S' → (∀ k, k ≠ 60 → st_i S' 1000 k = st_i S 1000 k) → (∀ k, k ≠ w → st_i S' 1064 k = st_i S 1064 k) → st_i S' 1064 w = nI (T s - 48) → st_i S' 1000 60 = nI (s + 1) → g 1 S') (h0 : dg T s = false → ∀ S', xf_F fA S S' → (∀ k, k ≠ 60 → st_i S' 1000 k = st_i S 1000 k) → st_i S' 1000 60 = nI s → g 0 S') : wp_X12_readsDigit 1000 (nI w) S g := by
  have hb := TX_b M.2.2.1 s
  have hL40 := M.2.2.1.1
  have hr := MS_r M.1 63
  have ht := MS_t M.1 63
  unfold wp_X12_readsDigit
  refine ⟨M.1.1, pm_isDigit M hs hL ⟨M.1.1, bI_c (fun e => ?_) fun e => ?_⟩⟩
  · have hd := dg_n e
    have hlt := TX_n M.2.2.1 (s := s) (by omega)
    refine pm_next M hs hL ?_
    unfold wp_X12_readsDigit_25
    refine ⟨_, hr, _, ht, vp_in_nI hw (by decide), fun S11 e11 => ?_⟩
    rw [nI_clamp (by omega), pk_sub hd.1] at e11
    have F : xf_F fA S S11 := by subst e11; exact xf_pi (xf_rfl _ _) rfl
    have M' := MT_F M F
    refine ⟨M'.1.1, bI_c (fun _ => ?_) fun e' => absurd (e.symm.trans e') (by decide)⟩
    unfold wp_X12_readsDigit_40
    refine ⟨_, rfl, M'.1.1, fun S4 e4 => ⟨bI_01 _, ?_⟩⟩
    rw [e, bI_t]
    subst e4 e11
    refine h1 e hlt _ (xf_pi F rfl) (fun k hk => ?_) (fun k hk => ?_) ?_ ?_
    · rw [st_i_pi_n _ _ _ _ _ _ fun hh => hk hh.2]; exact st_i_pi_n _ _ _ _ _ _ fun hh => by omega
    · rw [st_i_pi_n _ _ _ _ _ _ fun hh => by omega]; exact st_i_pi_n _ _ _ _ _ _ fun hh => hk hh.2
    · rw [st_i_pi_n _ _ _ _ _ _ fun hh => by omega]; exact st_i_pi_s _ _ _ _
    · rw [st_i_pi_s, st_i_pi_n _ _ _ _ _ _ fun hh => by omega, hs, nI_1]
  · unfold wp_X12_readsDigit_25
    refine ⟨_, hr, _, ht, vp_in_nI hw (by decide), fun S11 e11 => ?_⟩
    have F : xf_F fA S S11 := by subst e11; exact xf_pi (xf_rfl _ _) rfl
    have M' := MT_F M F
    refine ⟨M'.1.1, bI_c (fun e' => absurd (e.symm.trans e') (by decide)) fun _ => ?_⟩
    unfold wp_X12_readsDigit_40
    refine ⟨_, rfl, M'.1.1, fun S4 e4 => ⟨bI_01 _, ?_⟩⟩
    rw [e, bI_f]
    subst e4 e11
    refine h0 e _ (xf_pi F rfl) (fun k hk => ?_) ?_
    · rw [st_i_pi_n _ _ _ _ _ _ fun hh => hk hh.2]; exact st_i_pi_n _ _ _ _ _ _ fun hh => by omega
    · rw [st_i_pi_s, st_i_pi_n _ _ _ _ _ _ fun hh => by omega, hs]; exact Int32.add_zero _
def TD (S : xm_S) (t : tt) : Prop := st_i S 1064 0 = nI t.2.1 ∧ st_i S 1064 1 = nI t.2.2.1 ∧ st_i S 1064 2 = nI t.2.2.2.1 ∧ st_i S 1064 3 = nI t.2.2.2.2.1 ∧ st_i S 1064 4 = nI t.2.2.2.2.2.1 ∧ st_i S 1000 64 = nI t.2.2.2.2.2.2
theorem TD_k {S S' : xm_S} {t : tt} (h : TD S t) (h1 : ∀ k, k ≠ 60 → st_i S' 1000 k = st_i S 1000 k) (h2 : ∀ k, st_i S' 1064 k = st_i S 1064 k) : TD S' t := ⟨(h2 _).trans h.1, (h2 _).trans h.2.1, (h2 _).trans h.2.2.1, (h2 _).trans h.2.2.2.1, (h2 _).trans h.2.2.2.2.1, (h1 _ (by decide)).trans h.2.2.2.2.2⟩
def vP (r : Nat × Option tt) (S : xm_S) (g : Int32 → xm_S → Prop) : Prop := ∀ S', xf_F fA S S' → st_i S' 1000 62 = st_i S 1000 62 → st_i S' 1000 60 = nI r.1 → (∀ t, r.2 = some t → TD S' t → g 1 S') ∧ (r.2 = none → g 0 S')
theorem vP_k {r : Nat × Option tt} {S S1 : xm_S} {g : Int32 → xm_S → Prop} (h : vP r S g) (F : xf_F fA S S1) (e : st_i S1 1000 62 = st_i S 1000 62) : vP r S1 g := fun S' F' e' => h S' (xf_tr F F') (e'.trans e)
theorem vP_0 {s : Nat} {S : xm_S} {g : Int32 → xm_S → Prop} (h : vP (s, none) S g) {S' : xm_S} (F : xf_F fA S S') (e : st_i S' 1000 62 = st_i S 1000 62) (hs : st_i S' 1000 60 = nI s) : g 0 S' := (h S' F e hs).2 rfl
theorem vP_1 {s : Nat} {t : tt} {S : xm_S} {g : Int32 → xm_S → Prop} (h : vP (s, some t) S g) {S' : xm_S} (F : xf_F fA S S') (e : st_i S' 1000 62 = st_i S 1000 62) (hs : st_i S' 1000 60 = nI s) (ht : TD S' t) : g 1 S' := (h S' F e hs).1 t rfl ht
theorem pm_v125 {S : xm_S} {g : Int32 → xm_S → Prop} (h : g 1 S) : wp_X12_readsVersion_125 1000 S g := by
  unfold wp_X12_readsVersion_125 wp_X12_readsVersion_130
  exact ⟨.inr rfl, h⟩
/-- digits keep the sign's cell -/
theorem pm_rv3 {S : xm_S} {q L s sg e Ma m p many : Nat} {T : Nat → Nat} {g : Int32 → xm_S → Prop} (M : MT S q T L) (hs : st_i S 1000 60 = nI s) (hL : s ≤ L) (ht : TD S (sg, e, Ma, m, p, 0, many)) (h : vP (rv3 T s sg e Ma m p many) S g) : wp_X12_readsVersion_108 1000 S g := by
  unfold wp_X12_readsVersion_108
  unfold rv3 at h
  refine ⟨M.1.1, pm_takes (c := 45) M hs hL (by decide) (fun e1 hlt S1 F k1 k2 s1 => ⟨fun e => absurd e (by decide), fun _ => ?_⟩) (fun e1 S1 F k1 k2 s1 => ⟨fun _ => ?_, fun e => absurd rfl e⟩)⟩
  · rw [if_pos e1] at h
    have M1 := MT_F M F
    refine ⟨M1.1.1, pm_digit (w := 4) M1 s1 hlt (by decide) (fun e2 hlt2 S2 F2 k3 k4 v4 s2 => ⟨fun e => absurd e (by decide), fun _ => ?_⟩) (fun e2 S2 F2 k3 s2 => ⟨fun _ => ?_, fun e => absurd rfl e⟩)⟩
    · rw [if_pos e2] at h
      refine pm_v125 (vP_1 h (xf_tr F F2) ((k3 _ (by decide)).trans (k1 _ (by decide))) s2 ?_)
      have ht' := TD_k ht k1 k2
      exact ⟨(k4 _ (by decide)).trans ht'.1, (k4 _ (by decide)).trans ht'.2.1, (k4 _ (by decide)).trans ht'.2.2.1, (k4 _ (by decide)).trans ht'.2.2.2.1, v4, (k3 _ (by decide)).trans ht'.2.2.2.2.2⟩
    · rw [if_neg (by rw [e2]; decide)] at h
      unfold wp_X12_readsVersion_130
      exact ⟨.inl rfl, vP_0 h (xf_tr F F2) ((k3 _ (by decide)).trans (k1 _ (by decide))) s2⟩
  · rw [if_neg e1] at h
    exact pm_v125 (vP_1 h F (k1 _ (by decide)) s1 (TD_k ht k1 k2))
theorem pm_z4 {Z : Int32 → xm_S → Prop} {S : xm_S} {q L s sg e Ma m p many : Nat} {T : Nat → Nat} {g : Int32 → xm_S → Prop} (hZ : ∀ x1 S, wp_X12_readsVersion_68B 1000 x1 S g Z → Z x1 S) (M : MT S q T L) (hs : st_i S 1000 60 = nI s) (hL : s ≤ L) (ht : TD S (sg, e, Ma, m, p, 0, many)) (h : vP (rv3 T s sg e Ma m p many) S g) : Z (nI 4) S := by
  refine hZ _ _ ?_
  unfold wp_X12_readsVersion_68B
  exact ⟨fun _ => pm_rv3 M hs hL ht h, fun e => absurd (nI_le (Nat.le_refl 4) (by decide)) e⟩
theorem pm_z3 {Z : Int32 → xm_S → Prop} {S : xm_S} {q L s sg e Ma m : Nat} {T : Nat → Nat} {g : Int32 → xm_S → Prop} (hZ : ∀ x1 S, wp_X12_readsVersion_68B 1000 x1 S g Z → Z x1 S) (M : MT S q T L) (hs : st_i S 1000 60 = nI s) (hL : s ≤ L) (ht : TD S (sg, e, Ma, m, 0, 0, 2)) (h : vP (rv2b T s sg e Ma m) S g) : Z (nI 3) S := by
  refine hZ _ _ ?_
  unfold wp_X12_readsVersion_68B
  unfold rv2b at h
  refine ⟨fun e => absurd e (nI_ge (by decide) (by decide)), fun _ => ⟨M.1.1, pm_takes (c := 46) M hs hL (by decide) (fun e1 hlt S1 F k1 k2 s1 => ⟨fun e => absurd e (by decide), fun _ => ?_⟩) (fun e1 S1 F k1 k2 s1 => ⟨fun _ => ?_, fun e => absurd rfl e⟩)⟩⟩
  · rw [if_pos e1] at h
    have M1 := MT_F M F
    have ht' := TD_k ht k1 k2
    refine ⟨M1.1.1, pm_digit (w := 3) M1 s1 hlt (by decide) (fun e2 hlt2 S2 F2 k3 k4 v4 s2 => ⟨fun _ => ⟨M1.1.1 ▸ F2.1 _, fun S14 e14 y ey => ?_⟩, fun e => absurd e (by decide)⟩) (fun e2 S2 F2 k3 s2 => ⟨fun e => absurd rfl e, fun _ => ?_⟩)⟩
    · rw [if_pos e2] at h
      have F3 : xf_F fA S S14 := by subst e14; exact xf_pi (xf_tr F F2) rfl
      rw [show y = nI 4 by rw [ey]; exact nI_1 3]
      have c1 : ∀ k, k ≠ 64 → st_i S14 1000 k = st_i S2 1000 k := fun k hk => by rw [e14]; exact st_i_pi_n _ _ _ _ _ _ fun hh => hk hh.2
      have c2 : ∀ k, st_i S14 1064 k = st_i S2 1064 k := fun k => by rw [e14]; exact st_i_pi_n _ _ _ _ _ _ fun hh => by omega
      refine pm_z4 hZ (MT_F M F3) ((c1 _ (by decide)).trans s2) hlt2 (many := 3) ⟨(c2 _).trans ((k4 _ (by decide)).trans ht'.1), (c2 _).trans ((k4 _ (by decide)).trans ht'.2.1), (c2 _).trans ((k4 _ (by decide)).trans ht'.2.2.1), (c2 _).trans v4, (c2 _).trans ((k4 _ (by decide)).trans ht'.2.2.2.2.1), ?_⟩ (vP_k h F3 ((c1 _ (by decide)).trans ((k3 _ (by decide)).trans (k1 _ (by decide)))))
      rw [e14, st_i_pi_s, (k3 64 (by decide)).trans ht'.2.2.2.2.2, nI_1]
    · rw [if_neg (by rw [e2]; decide)] at h
      exact vP_0 h (xf_tr F F2) ((k3 _ (by decide)).trans (k1 _ (by decide))) s2
  · rw [if_neg e1] at h
    exact pm_rv3 (MT_F M F) s1 hL (TD_k ht k1 k2) (vP_k h F (k1 _ (by decide)))
theorem pm_rv2 {S : xm_S} {q L s sg e Ma : Nat} {T : Nat → Nat} {g : Int32 → xm_S → Prop} (M : MT S q T L) (hs : st_i S 1000 60 = nI s) (hL : s ≤ L) (ht : TD S (sg, e, Ma, 0, 0, 0, 1)) (h : vP (rv2 T s sg e Ma) S g) : wp_X12_readsVersion_66 1000 S g := by
  unfold wp_X12_readsVersion_66 wp_X12_readsVersion_68
  intro Z hZ
  refine hZ _ _ ?_
  unfold wp_X12_readsVersion_68B
  unfold rv2 at h
  refine ⟨fun e => absurd e (nI_ge (by decide) (by decide)), fun _ => ⟨M.1.1, pm_takes (c := 46) M hs hL (by decide) (fun e1 hlt S1 F k1 k2 s1 => ⟨fun e => absurd e (by decide), fun _ => ?_⟩) (fun e1 S1 F k1 k2 s1 => ⟨fun _ => ?_, fun e => absurd rfl e⟩)⟩⟩
  · rw [if_pos e1] at h
    have M1 := MT_F M F
    have ht' := TD_k ht k1 k2
    refine ⟨M1.1.1, pm_digit (w := 2) M1 s1 hlt (by decide) (fun e2 hlt2 S2 F2 k3 k4 v4 s2 => ⟨fun _ => ⟨M1.1.1 ▸ F2.1 _, fun S14 e14 y ey => ?_⟩, fun e => absurd e (by decide)⟩) (fun e2 S2 F2 k3 s2 => ⟨fun e => absurd rfl e, fun _ => ?_⟩)⟩
    · rw [if_pos e2] at h
      have F3 : xf_F fA S S14 := by subst e14; exact xf_pi (xf_tr F F2) rfl
      rw [show y = nI 3 by rw [ey]; exact nI_1 2]
      have c1 : ∀ k, k ≠ 64 → st_i S14 1000 k = st_i S2 1000 k := fun k hk => by rw [e14]; exact st_i_pi_n _ _ _ _ _ _ fun hh => hk hh.2
      have c2 : ∀ k, st_i S14 1064 k = st_i S2 1064 k := fun k => by rw [e14]; exact st_i_pi_n _ _ _ _ _ _ fun hh => by omega
      refine pm_z3 hZ (MT_F M F3) ((c1 _ (by decide)).trans s2) hlt2 ⟨(c2 _).trans ((k4 _ (by decide)).trans ht'.1), (c2 _).trans ((k4 _ (by decide)).trans ht'.2.1), (c2 _).trans v4, (c2 _).trans ((k4 _ (by decide)).trans ht'.2.2.2.1), (c2 _).trans ((k4 _ (by decide)).trans ht'.2.2.2.2.1), ?_⟩ (vP_k h F3 ((c1 _ (by decide)).trans ((k3 _ (by decide)).trans (k1 _ (by decide)))))
      rw [e14, st_i_pi_s, (k3 64 (by decide)).trans ht'.2.2.2.2.2]; exact nI_1 1
    · rw [if_neg (by rw [e2]; decide)] at h
      exact vP_0 h (xf_tr F F2) ((k3 _ (by decide)).trans (k1 _ (by decide))) s2
  · rw [if_neg e1] at h
    exact pm_rv3 (MT_F M F) s1 hL (TD_k ht k1 k2) (vP_k h F (k1 _ (by decide)))
theorem pm_rv {S : xm_S} {q L s sg : Nat} {T : Nat → Nat} {g : Int32 → xm_S → Prop} (M : MT S q T L) (hs : st_i S 1000 60 = nI s) (hL : s ≤ L) (h : vP (rv T s sg) S g) : wp_X12_readsVersion 1000 S g := by
  unfold wp_X12_readsVersion wp_X12_readsVersion_2
  intro Z hZ
  have H : ∀ d k S1, k + d = 5 → xf_F fA S S1 → (∀ j, j ≠ 64 → st_i S1 1000 j = st_i S 1000 j) → (∀ j, j < k → st_i S1 1064 j = 0) → Z (nI k) S1 := by
    intro d
    induction d with
    | zero =>
      intro k S1 hk F k0 z
      have hk : k = 5 := by omega
      subst hk
      refine hZ _ _ ?_
      unfold wp_X12_readsVersion_2B
      have M1 := MT_F M F
      refine ⟨fun _ => ⟨M1.1.1, fun S19 e19 => ?_⟩, fun e => absurd (nI_le (Nat.le_refl 5) (by decide)) e⟩
      have F1 : xf_F fA S S19 := by subst e19; exact xf_pi F rfl
      have c1 : ∀ k, k ≠ 64 → st_i S19 1000 k = st_i S1 1000 k := fun k hk => by rw [e19]; exact st_i_pi_n _ _ _ _ _ _ fun hh => hk hh.2
      have c2 : ∀ k, st_i S19 1064 k = st_i S1 1064 k := fun k => by rw [e19]; exact st_i_pi_n _ _ _ _ _ _ fun hh => by omega
      have c3 : st_i S19 1000 64 = nI 1 := by rw [e19]; exact st_i_pi_s _ _ _ _
      have M2 := MT_F M F1
      have h0 := vP_k h F1 ((c1 62 (by decide)).trans (k0 62 (by decide)))
      have hs1 := (c1 60 (by decide)).trans ((k0 60 (by decide)).trans hs)
      have z0 : ∀ j, j < 5 → st_i S19 1064 j = nI 0 := fun j hj => (c2 j).trans (z j hj)
      unfold rv at h0
      refine pm_digit (w := 1) M2 hs1 hL (by decide) (fun e2 hlt2 S2 F2 k3 k4 v4 s2 => ⟨fun _ => ?_, fun e => absurd e (by decide)⟩) (fun e2 S2 F2 k3 s2 => ⟨fun e => absurd rfl e, fun _ => ?_⟩)
      · rw [if_pos e2] at h0
        have M3 := MT_F M2 F2
        refine ⟨M3.1.1, pm_takes (c := 58) M3 s2 hlt2 (by decide) (fun e3 hlt3 S3 F3 k5 k6 s3 => ⟨fun e => absurd e (by decide), fun _ => ?_⟩) (fun e3 S3 F3 k5 k6 s3 => ⟨fun _ => ?_, fun e => absurd rfl e⟩)⟩
        · rw [if_pos e3] at h0
          have M4 := MT_F M3 F3
          refine ⟨M4.1.1, _, MS_r M4.1 63, _, MS_t M4.1 63, vp_in_nI (n := 1) (show 1 < 5 by decide) (by decide), _, MS_r M4.1 63, _, MS_t M4.1 63, vp_in_nI (n := 0) (show 0 < 5 by decide) (by decide), fun S37 e37 => ?_⟩
          have F4 : xf_F fA S19 S37 := by subst e37; exact xf_pi (xf_tr F2 F3) rfl
          have d1 : ∀ k, st_i S37 1000 k = st_i S3 1000 k := fun k => by rw [e37]; exact st_i_pi_n _ _ _ _ _ _ fun hh => by omega
          have d2 : ∀ k, k ≠ 0 → st_i S37 1064 k = st_i S3 1064 k := fun k hk => by rw [e37]; exact st_i_pi_n _ _ _ _ _ _ fun hh => hk hh.2
          have d3 : st_i S37 1064 0 = nI (T s - 48) := by rw [e37]; exact (st_i_pi_s _ _ _ _).trans ((k6 1).trans v4)
          refine pm_digit (w := 1) (MT_F M2 F4) ((d1 60).trans s3) hlt3 (by decide) (fun e5 hlt5 S5 F5 k7 k8 v8 s5 => ⟨fun _ => ?_, fun e => absurd e (by decide)⟩) (fun e5 S5 F5 k7 s5 => ⟨fun e => absurd rfl e, fun _ => ?_⟩)
          · rw [if_pos e5] at h0
            have e62 : st_i S5 1000 62 = st_i S19 1000 62 := (k7 _ (by decide)).trans ((d1 _).trans ((k5 _ (by decide)).trans (k3 _ (by decide))))
            have e64 : st_i S5 1000 64 = st_i S19 1000 64 := (k7 _ (by decide)).trans ((d1 _).trans ((k5 _ (by decide)).trans (k3 _ (by decide))))
            have zz : ∀ j, 1 < j → j < 5 → st_i S5 1064 j = nI 0 := fun j hj hj5 => (k8 j (by omega)).trans ((d2 j (by omega)).trans ((k6 j).trans ((k4 j (by omega)).trans (z0 j hj5))))
            refine pm_rv2 (MT_F M2 (xf_tr F4 F5)) s5 hlt5 ⟨(k8 0 (by decide)).trans d3, v8, zz 2 (by decide) (by decide), zz 3 (by decide) (by decide), zz 4 (by decide) (by decide), e64.trans c3⟩ (vP_k h0 (xf_tr F4 F5) e62)
          · rw [if_neg (by rw [e5]; decide)] at h0
            exact vP_0 h0 (xf_tr F4 F5) ((k7 _ (by decide)).trans ((d1 _).trans ((k5 _ (by decide)).trans (k3 _ (by decide))))) s5
        · rw [if_neg e3] at h0
          have zz : ∀ j, j ≠ 1 → j < 5 → st_i S3 1064 j = nI 0 := fun j hj hj5 => (k6 j).trans ((k4 j hj).trans (z0 j hj5))
          refine pm_rv2 (MT_F M3 F3) s3 hlt2 ⟨zz 0 (by decide) (by decide), (k6 1).trans v4, zz 2 (by decide) (by decide), zz 3 (by decide) (by decide), zz 4 (by decide) (by decide), (k5 64 (by decide)).trans ((k3 64 (by decide)).trans c3)⟩ (vP_k h0 (xf_tr F2 F3) ((k5 62 (by decide)).trans (k3 62 (by decide))))
      · rw [if_neg (by rw [e2]; decide)] at h0
        exact vP_0 h0 F2 (k3 _ (by decide)) s2
    | succ d ih =>
      intro k S1 hk F k0 z
      refine hZ _ _ ?_
      unfold wp_X12_readsVersion_2B
      have M1 := MT_F M F
      refine ⟨fun e => absurd e (nI_ge (show k < 5 by omega) (by decide)), fun _ => ⟨M1.1.1, _, MS_r M1.1 63, _, MS_t M1.1 63, vp_in_nI (show k < 5 by omega) (by decide), fun S47 e47 y ey => ?_⟩⟩
      rw [ey, nI_1]
      rw [nI_clamp (by omega)] at e47
      refine ih (k + 1) S47 (by omega) (by subst e47; exact xf_pi F rfl) (fun j hj => by rw [e47, st_i_pi_n _ _ _ _ _ _ fun hh => by omega]; exact k0 j hj) fun j hj => ?_
      by_cases hjk : j = k
      · subst hjk; rw [e47]; exact st_i_pi_s _ _ _ _
      · rw [e47, st_i_pi_n _ _ _ _ _ _ fun hh => hjk hh.2]; exact z j (by omega)
  exact H 5 0 S rfl (xf_rfl _ _) (fun _ _ => rfl) (fun j hj => absurd hj (Nat.not_lt_zero j))
theorem rv3_sg {T : Nat → Nat} {s sg e M m p many : Nat} {t : tt} (h : (rv3 T s sg e M m p many).2 = some t) : t.1 = sg := by
  unfold rv3 at h
  split at h
  · split at h
    · rw [← Option.some.inj h]
    · cases h
  · rw [← Option.some.inj h]
theorem rv2b_sg {T : Nat → Nat} {s sg e M m : Nat} {t : tt} (h : (rv2b T s sg e M m).2 = some t) : t.1 = sg := by
  unfold rv2b at h
  split at h
  · split at h
    · exact rv3_sg h
    · cases h
  · exact rv3_sg h
theorem rv2_sg {T : Nat → Nat} {s sg e M : Nat} {t : tt} (h : (rv2 T s sg e M).2 = some t) : t.1 = sg := by
  unfold rv2 at h
  split at h
  · split at h
    · exact rv2b_sg h
    · cases h
  · exact rv3_sg h
theorem rv_sg {T : Nat → Nat} {s sg : Nat} {t : tt} (h : (rv T s sg).2 = some t) : t.1 = sg := by
  unfold rv at h
  split at h
  · split at h
    · split at h
      · exact rv2_sg h
      · cases h
    · exact rv2_sg h
  · cases h
def rP (r : Nat × Option tt) (S : xm_S) (g : Int32 → xm_S → Prop) : Prop := ∀ S', xf_F fA S S' → st_i S' 1000 60 = nI r.1 → (∀ t, r.2 = some t → TD S' t → st_i S' 1000 62 = nI t.1 → g 1 S') ∧ (r.2 = none → g 0 S')
theorem rP_k {r : Nat × Option tt} {S S1 : xm_S} {g : Int32 → xm_S → Prop} (h : rP r S g) (F : xf_F fA S S1) : rP r S1 g := fun S' F' => h S' (xf_tr F F')
theorem pm_116 {S : xm_S} {q L s a b : Nat} {T : Nat → Nat} {g : Int32 → xm_S → Prop} (M : MT S q T L) (hs : st_i S 1000 60 = nI s) (hL : s ≤ L) (h : rP (rv T s (a + b)) S g) {x y : Int32} (hx : x = nI b) (hy : y = nI a) : wp_X12_readsTest_116 1000 x y (some 1000) S g := by
  subst hx hy
  unfold wp_X12_readsTest_116
  refine ⟨_, rfl, M.1.1, fun S4 e4 => ?_⟩
  rw [nI_add] at e4
  have F : xf_F fA S S4 := by subst e4; exact xf_pi (xf_rfl _ _) rfl
  have c1 : ∀ k, k ≠ 62 → st_i S4 1000 k = st_i S 1000 k := fun k hk => by rw [e4]; exact st_i_pi_n _ _ _ _ _ _ fun hh => hk hh.2
  have c2 : st_i S4 1000 62 = nI (a + b) := by rw [e4]; exact st_i_pi_s _ _ _ _
  have M4 := MT_F M F
  refine ⟨M4.1.1, pm_rv (sg := a + b) M4 ((c1 60 (by decide)).trans hs) hL ?_⟩
  intro S' F' e62 sp
  have hh := h S' (xf_tr F F') sp
  exact ⟨fun t ht hd => ⟨.inr rfl, hh.1 t ht hd (by rw [e62, c2, rv_sg ht])⟩, fun hn => ⟨.inl rfl, hh.2 hn⟩⟩
theorem pm_58 {S : xm_S} {q L s a : Nat} {T : Nat → Nat} {g : Int32 → xm_S → Prop} (M : MT S q T L) (hs : st_i S 1000 60 = nI s) (hL : s < L) (ha : a < 7) (h1 : (a = 1 ∨ a = 2) → rP (if T (s + 1) = 61 then rv T (s + 2) (a + 2) else rv T (s + 1) a) S g) (h2 : ¬ (a = 1 ∨ a = 2) → rP (rv T (s + 1) a) S g) {x : Int32} (hx : x = nI a) : wp_X12_readsTest_58 1000 x (some 1000) S g := by
  subst hx
  unfold wp_X12_readsTest_58
  refine ⟨_, rfl, M.1.1, fun S15 e15 => ?_⟩
  have F : xf_F fA S S15 := by subst e15; exact xf_pi (xf_rfl _ _) rfl
  have c1 : ∀ k, k ≠ 62 → st_i S15 1000 k = st_i S 1000 k := fun k hk => by rw [e15]; exact st_i_pi_n _ _ _ _ _ _ fun hh => hk hh.2
  have c2 : st_i S15 1000 62 = nI a := by rw [e15]; exact st_i_pi_s _ _ _ _
  have M5 := MT_F M F
  refine ⟨M5.1.1, fun _ S18 e18 => ?_, fun e => ?_⟩
  · have F1 : xf_F fA S S18 := by subst e18; exact xf_pi F rfl
    have d1 : st_i S18 1000 62 = nI a := by rw [e18, st_i_pi_n _ _ _ _ _ _ fun hh => by omega]; exact c2
    have d2 : st_i S18 1000 60 = nI (s + 1) := by rw [e18, st_i_pi_s, c1 60 (by decide), hs, nI_1]
    have M6 := MT_F M F1
    have X : (a = 1 ∨ a = 2) → wp_X12_readsTest_102 1000 (nI a) (some 1000) S18 g := by
      intro ha'
      have h1 := rP_k (h1 ha') F1
      unfold wp_X12_readsTest_102
      refine ⟨M6.1.1, pm_takes (c := 61) M6 d2 hL (by decide) (fun e1 hlt S1 F k1 k2 s1 => ⟨fun e => absurd e (by decide), fun _ => ?_⟩) (fun e1 S1 F k1 k2 s1 => ⟨fun _ => ?_, fun e => absurd rfl e⟩)⟩
      · rw [if_pos e1] at h1
        exact pm_116 (a := a) (b := 2) (MT_F M6 F) s1 hlt (rP_k h1 F) rfl rfl
      · rw [if_neg e1] at h1
        unfold wp_X12_readsTest_115
        exact pm_116 (a := a) (b := 0) (MT_F M6 F) s1 hL (rP_k h1 F) rfl rfl
    rw [d1]
    refine ⟨fun e => X (.inl ?_), fun e1 => ⟨fun e2 => ?_, fun e2 => X (.inr ?_)⟩⟩
    · rw [show (1 : Int32) = nI 1 from rfl, nI_eq (by omega) (by omega)] at e; exact e
    · rw [show (1 : Int32) = nI 1 from rfl, nI_eq (by omega) (by omega)] at e1
      rw [nI_eq (by omega) (by omega)] at e2
      unfold wp_X12_readsTest_115
      exact pm_116 (a := a) (b := 0) M6 d2 hL (rP_k (h2 (fun hh => hh.elim e1 e2)) F1) rfl rfl
    · rw [nI_eq (by omega) (by omega)] at e2; exact e2
  · rw [c2] at e
    exact absurd e (fun e => absurd (e ▸ nI_pos (n := a) (by omega)) (by decide))
theorem pm_rt {S : xm_S} {q L s : Nat} {T : Nat → Nat} {g : Int32 → xm_S → Prop} (M : MT S q T L) (hs : st_i S 1000 60 = nI s) (hL : s ≤ L) (h : rP (rt T s) S g) : wp_X12_readsTest 1000 S g := by
  have hb := TX_b M.2.2.1 s
  unfold wp_X12_readsTest
  refine ⟨M.1.1, pm_next M hs hL ?_⟩
  have E : ∀ c, c < 1000 → (nI (T s) = nI c ↔ T s = c) := fun c hc => nI_eq (by omega) (by omega)
  have lt : T s ≠ 0 → s < L := fun e => TX_n M.2.2.1 e
  unfold rt at h
  refine ⟨fun e1 => ⟨fun e2 => ⟨fun e3 => ⟨fun e4 => ⟨fun e5 => ?_, fun e5 => ?_⟩, fun e4 => ?_⟩, fun e3 => ?_⟩, fun e2 => ?_⟩, fun e1 => ?_⟩
  · rw [E _ (by decide)] at e1 e2 e3 e4 e5
    rw [if_neg e1, if_neg e2, if_neg e3, if_neg e4, if_neg e5] at h
    unfold wp_X12_readsTest_58
    refine ⟨_, rfl, M.1.1, fun S15 e15 => ?_⟩
    have F : xf_F fA S S15 := by subst e15; exact xf_pi (xf_rfl _ _) rfl
    have c1 : ∀ k, k ≠ 62 → st_i S15 1000 k = st_i S 1000 k := fun k hk => by rw [e15]; exact st_i_pi_n _ _ _ _ _ _ fun hh => hk hh.2
    have c2 : st_i S15 1000 62 = -1 := by rw [e15]; exact st_i_pi_s _ _ _ _
    exact ⟨(MT_F M F).1.1, fun e => absurd c2 e, fun _ => (h S15 F ((c1 60 (by decide)).trans hs)).2 rfl⟩
  · rw [E _ (by decide)] at e1 e2 e3 e4 e5
    rw [if_neg e1, if_neg e2, if_neg e3, if_neg e4, if_pos e5] at h
    exact pm_58 (a := 6) M hs (lt (by omega)) (by decide) (fun hh => absurd hh (by decide)) (fun _ => h) rfl
  · rw [E _ (by decide)] at e1 e2 e3 e4
    rw [if_neg e1, if_neg e2, if_neg e3, if_pos e4] at h
    exact pm_58 (a := 5) M hs (lt (by omega)) (by decide) (fun hh => absurd hh (by decide)) (fun _ => h) rfl
  · rw [E _ (by decide)] at e1 e2 e3
    rw [if_neg e1, if_neg e2, if_pos e3] at h
    exact pm_58 (a := 2) M hs (lt (by omega)) (by decide) (fun _ => h) (fun hh => absurd (.inr rfl) hh) rfl
  · rw [E _ (by decide)] at e1 e2
    rw [if_neg e1, if_pos e2] at h
    exact pm_58 (a := 1) M hs (lt (by omega)) (by decide) (fun _ => h) (fun hh => absurd (.inl rfl) hh) rfl
  · rw [E _ (by decide)] at e1
    rw [if_pos e1] at h
    exact pm_58 (a := 0) M hs (lt (by omega)) (by decide) (fun hh => absurd hh (by decide)) (fun _ => h) rfl
