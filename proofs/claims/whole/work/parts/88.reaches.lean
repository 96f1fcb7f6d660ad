-- what the reference reaches: exact
abbrev RT : Type := Int32 × (Nat → Int32) × Bool
def meI (V : VV) (c : CH) (q : Nat) : Int32 := ob (mtc V c q) 6
def asF (V : VV) (c : CH) (q : Nat) (on : Nat → Int32) : Nat → Int32 := fun p => if p = nP V q then (if c p = 0 then on p else on p ||| nF V q) else on p
def stR (V : VV) (c : CH) (q : Nat) (s : RT) : RT := (s.1 ||| meI V c q, asF V c q s.2.1, s.2.2 && decide (meI V c q ≠ 0))
def aOn (V : VV) (pl : Nat) (on : Nat → Int32) (p q : Nat) : Bool := bt (V 11 q) pl && (decide (V 12 q = -1) || decide (¬ (on p &&& V 12 q) = 0))
def hnR (V : VV) (pl : Nat) (c : CH) (p a : Nat) : Nat → RT → RT
  | 0, s => s
  | j + 1, s => if aOn V pl (hnR V pl c p a j s).2.1 p (4 * a + j) then stR V c (4 * a + j) (hnR V pl c p a j s) else hnR V pl c p a j s
def paR (V : VV) (pl : Nat) (c : CH) : Nat → RT → RT
  | 0, s => s
  | p + 1, s => if bt (paR V pl c p s).1 p then hnR V pl c p (vi c p) (vn V 8 (vi c p)) (paR V pl c p s) else paR V pl c p s
def wiR (V : VV) (ask : Int32) (c : CH) : Nat → RT → RT
  | 0, s => s
  | k + 1, s => if bt ask k then stR V c (144 + k) (wiR V ask c k s) else wiR V ask c k s
def stK (s : RT) : Nat → Int32
  | 0 => s.1
  | k + 1 => stK s k ||| (s.2.1 k <<< (nI (6 + 4 * k) &&& 31))
def whR (V : VV) (pl : Nat) (c : CH) : Nat → RT → Option RT
  | 0, _ => none
  | n + 1, s => if s.2.2 then (if (paR V pl c 6 s).2.2 = true ∧ ¬ stK s 6 = stK (paR V pl c 6 s) 6 then whR V pl c n (paR V pl c 6 s) else some (paR V pl c 6 s)) else some s
def slR (s s' : RT) : Prop := (∀ i, bt s.1 i = true → bt s'.1 i = true) ∧ (∀ p i, bt (s.2.1 p) i = true → bt (s'.2.1 p) i = true) ∧ (s'.2.2 = true → s.2.2 = true)
theorem slR_r (s : RT) : slR s s := ⟨fun _ h => h, fun _ _ h => h, fun h => h⟩
theorem slR_t {s s1 s2 : RT} (h : slR s s1) (h2 : slR s1 s2) : slR s s2 := ⟨fun i e => h2.1 i (h.1 i e), fun p i e => h2.2.1 p i (h.2.1 p i e), fun e => h.2.2 (h2.2.2 e)⟩
theorem slR_a {s s' : RT} (h : slR s s') (h2 : slR s' s) : s' = s := Prod.ext (bt_eq h2.1 h.1) (Prod.ext (funext fun p => bt_eq (h2.2.1 p) (h.2.1 p)) (Bool.eq_iff_iff.mpr ⟨h.2.2, h2.2.2⟩))
theorem st_le {V : VV} {c : CH} {q : Nat} {s : RT} : slR s (stR V c q s) := by
  refine ⟨fun i e => ?_, fun p i e => ?_, fun e => ?_⟩
  · show bt (s.1 ||| meI V c q) i = true
    rw [bt_or, e]; rfl
  · show bt (asF V c q s.2.1 p) i = true
    unfold asF
    split
    · split
      · exact e
      · rw [bt_or, e]; rfl
    · exact e
  · have e : (s.2.2 && decide (meI V c q ≠ 0)) = true := e
    rw [Bool.and_eq_true] at e; exact e.1
theorem hnR_le {V : VV} {pl p a : Nat} {c : CH} {s : RT} : ∀ n, slR s (hnR V pl c p a n s) := by
  intro n
  induction n with
  | zero => exact slR_r s
  | succ n ih =>
    unfold hnR
    split
    · exact slR_t ih st_le
    · exact ih
theorem paR_le {V : VV} {pl : Nat} {c : CH} {s : RT} : ∀ n, slR s (paR V pl c n s) := by
  intro n
  induction n with
  | zero => exact slR_r s
  | succ n ih =>
    unfold paR
    split
    · exact slR_t ih (hnR_le _)
    · exact ih
theorem wiR_le {V : VV} {ask : Int32} {c : CH} {s : RT} : ∀ n, slR s (wiR V ask c n s) := by
  intro n
  induction n with
  | zero => exact slR_r s
  | succ n ih =>
    unfold wiR
    split
    · exact slR_t ih st_le
    · exact ih
def UR (V : VV) (pl : Nat) (ask : Int32) (c : CH) (s : RT) : Prop := (∀ p, p < 6 → bt s.1 p = true → Rs V pl ask c p) ∧ (∀ p, p < 6 → c p ≠ 0 → ∀ b, b < 4 → bt (s.2.1 p) b = true → Fs V pl ask c p b) ∧ (∀ i, 6 ≤ i → bt s.1 i = false) ∧ (∀ p i, 4 ≤ i → bt (s.2.1 p) i = false) ∧ (∀ p, 6 ≤ p → s.2.1 p = 0) ∧ (s.2.2 = false → ¬ AllMet V pl ask c)
theorem bt_me {V : VV} {c : CH} {q i : Nat} : bt (meI V c q) i = true ↔ i < 6 ∧ mtc V c q i = true := by
  unfold meI
  rw [bt_ob 6 (by decide), Bool.and_eq_true, decide_eq_true_eq]
theorem me_z {V : VV} {c : CH} {q : Nat} : meI V c q ≠ 0 ↔ met V c q := by
  rw [ne_eq, bt_nz]
  constructor
  · intro ⟨i, _, e⟩; exact ⟨i, (bt_me.mp e).1, (bt_me.mp e).2⟩
  · intro ⟨p, hp, m⟩; exact ⟨p, by omega, bt_me.mpr ⟨hp, m⟩⟩
theorem st_us {V : VV} {pl q : Nat} {ask : Int32} {c : CH} {s : RT} (I : Iv V) (hq : q < 148) (l : led V c (Rs V pl ask c) (Fs V pl ask c) q) (m : AllMet V pl ask c → met V c q) (U : UR V pl ask c s) : UR V pl ask c (stR V c q s) := by
  obtain ⟨u1, u2, u3, u4, u5, u6⟩ := U
  refine ⟨fun p hp e => ?_, fun p hp h0 b hb e => ?_, fun i hi => ?_, fun p i hi => ?_, fun p hp => ?_, fun e => ?_⟩
  · have e : bt (s.1 ||| meI V c q) p = true := e
    rw [bt_or, Bool.or_eq_true, bt_me] at e
    exact e.elim (u1 p hp) fun e => l.1 p hp e.2
  · have e : bt (asF V c q s.2.1 p) b = true := e
    unfold asF at e
    split at e
    next ep =>
      subst ep
      rw [bt_or, Bool.or_eq_true] at e
      exact e.elim (u2 _ hp h0 b hb) fun e => l.2 b hb h0 e
    next => exact u2 p hp h0 b hb e
  · show bt (s.1 ||| meI V c q) i = false
    rw [bt_or, u3 i hi, Bool.false_or]
    cases e : bt (meI V c q) i
    · rfl
    · have := (bt_me.mp e).1; omega
  · show bt (asF V c q s.2.1 p) i = false
    unfold asF
    split
    · split
      · exact u4 p i hi
      · rw [bt_or, u4 p i hi, Bool.false_or]
        cases e : bt (nF V q) i
        · rfl
        · have := nF_4 I hq e; omega
    · exact u4 p i hi
  · show asF V c q s.2.1 p = 0
    unfold asF
    rw [if_neg (by have := nP_6 I hq; omega)]
    exact u5 p hp
  · have e : (s.2.2 && decide (meI V c q ≠ 0)) = false := e
    intro A
    rw [decide_eq_true (me_z.mpr (m A)), Bool.and_true] at e
    exact u6 e A
theorem aOn_a {V : VV} {pl p q : Nat} {on : Nat → Int32} (I : Iv V) (hq : q < 96) : aOn V pl on p q = true ↔ act V pl (fun p b => bt (on p) b = true) p q := by
  unfold aOn act
  rw [Bool.and_eq_true, Bool.or_eq_true, decide_eq_true_eq, decide_eq_true_eq]
  refine and_congr Iff.rfl ?_
  by_cases hn : V 12 q = -1
  · exact ⟨fun _ => .inl hn, fun _ => .inl hn⟩
  have ow := ((I.2.1.1 q hq).2.2.2).resolve_left hn
  constructor
  · intro h
    refine .inr ?_
    obtain ⟨i, hi, h⟩ := bt_nz.mp (h.resolve_left hn)
    rw [bt_and, Bool.and_eq_true] at h
    refine ⟨i, ?_, h.1, h.2⟩
    rcases Nat.lt_or_ge i 4 with h2 | h2
    · exact h2
    · rw [ow.1, bt_15 _ ow.2 i h2 hi] at h; cases h.2
  · intro h
    obtain ⟨b, hb, h1, h2⟩ := h.resolve_left hn
    refine .inr (bt_nz.mpr ⟨b, by omega, ?_⟩)
    rw [bt_and, h1, h2]; rfl
theorem hnR_us {V : VV} {pl p : Nat} {ask : Int32} {c : CH} {s : RT} (I : Iv V) (o : okc V c) (p6 : p < 6) (h0 : c p ≠ 0) (hR : Rs V pl ask c p) (U : UR V pl ask c s) : ∀ n, n ≤ vn V 8 (vi c p) → UR V pl ask c (hnR V pl c p (vi c p) n s) := by
  obtain ⟨v1, v2, v3, v4, v5⟩ := vi_4 I o p6 h0
  have b8 := (I.1.2.2.1 _ v2).1.2
  intro n
  induction n with
  | zero => intro _; exact U
  | succ n ih =>
    intro hn
    have U1 := ih (by omega)
    unfold hnR
    split
    next e =>
      have ac := act_m ((aOn_a I (by omega)).mp e) (fun b hb f => U1.2.1 p p6 h0 b hb f)
      exact st_us I (by omega) (Cls_s.2 p p6 h0 hR n (by omega) ac) (fun A => A.2 p p6 h0 hR n (by omega) ac) U1
    next => exact U1
theorem paR_us {V : VV} {pl : Nat} {ask : Int32} {c : CH} {s : RT} (I : Iv V) (o : okc V c) (U : UR V pl ask c s) : ∀ n, n ≤ 6 → UR V pl ask c (paR V pl c n s) := by
  intro n
  induction n with
  | zero => intro _; exact U
  | succ n ih =>
    intro hn
    have U1 := ih (by omega)
    unfold paR
    split
    next e =>
      have hR := U1.1 n (by omega) e
      exact hnR_us I o (by omega) (Rs_c hR) hR U1 _ (Nat.le_refl _)
    next => exact U1
def Rq (s : RT) : RP := fun p => bt s.1 p = true
def Fq (s : RT) : FP := fun p b => bt (s.2.1 p) b = true
theorem ledR_m {V : VV} {c : CH} {s s' : RT} {q : Nat} (h : led V c (Rq s) (Fq s) q) (l : slR s s') : led V c (Rq s') (Fq s') q := ⟨fun p hp m => l.1 _ (h.1 p hp m), fun b hb h1 h2 => l.2.1 _ _ (h.2 b hb h1 h2)⟩
theorem st_led {V : VV} {c : CH} {s : RT} {q : Nat} : led V c (Rq (stR V c q s)) (Fq (stR V c q s)) q ∧ ((stR V c q s).2.2 = true → met V c q) := by
  refine ⟨⟨fun p hp m => ?_, fun b hb h1 h2 => ?_⟩, fun e => ?_⟩
  · show bt (s.1 ||| meI V c q) p = true
    rw [bt_or, bt_me.mpr ⟨hp, m⟩, Bool.or_true]
  · show bt (asF V c q s.2.1 (nP V q)) b = true
    unfold asF
    rw [if_pos rfl, if_neg h1, bt_or, h2, Bool.or_true]
  · have e : (s.2.2 && decide (meI V c q ≠ 0)) = true := e
    rw [Bool.and_eq_true, decide_eq_true_eq] at e
    exact me_z.mp e.2
theorem wiR_us {V : VV} {pl : Nat} {ask : Int32} {c : CH} {s : RT} (I : Iv V) (U : UR V pl ask c s) : ∀ n, n ≤ vn V 18 0 → UR V pl ask c (wiR V ask c n s) ∧ ∀ k, k < n → bt ask k = true → led V c (Rq (wiR V ask c n s)) (Fq (wiR V ask c n s)) (144 + k) ∧ ((wiR V ask c n s).2.2 = true → met V c (144 + k)) := by
  have w4 := I.2.2.1.1.2
  intro n
  induction n with
  | zero => intro _; exact ⟨U, fun k hk => absurd hk (Nat.not_lt_zero _)⟩
  | succ n ih =>
    intro hn
    obtain ⟨U1, k1⟩ := ih (by omega)
    unfold wiR
    by_cases e : bt ask n = true
    · rw [if_pos e]
      refine ⟨st_us I (by omega) (Cls_s.1 n (by omega) e) (fun A => A.1 n (by omega) e) U1, fun k hk ek => ?_⟩
      by_cases en : k = n
      · rw [en]; exact st_led
      · exact ⟨ledR_m (k1 k (by omega) ek).1 st_le, fun ok => (k1 k (by omega) ek).2 (st_le.2.2 ok)⟩
    · rw [if_neg e]
      refine ⟨U1, fun k hk ek => ?_⟩
      by_cases en : k = n
      · rw [en] at ek; exact absurd ek e
      · exact k1 k (by omega) ek
-- the state as one number
theorem bt_st {s : RT} (h4 : ∀ p i, 4 ≤ i → bt (s.2.1 p) i = false) : ∀ n, n ≤ 6 → ∀ i, bt (stK s n) i = true ↔ bt s.1 i = true ∨ ∃ k, k < n ∧ ∃ b, b < 4 ∧ i = 6 + 4 * k + b ∧ bt (s.2.1 k) b = true := by
  intro n
  induction n with
  | zero => intro _ i; exact ⟨.inl, fun h => h.elim id fun ⟨k, hk, _⟩ => absurd hk (Nat.not_lt_zero _)⟩
  | succ n ih =>
    intro hn i
    unfold stK
    rw [bt_or, Bool.or_eq_true, ih (by omega) i, bt_sl (by omega), Bool.and_eq_true, Bool.and_eq_true, decide_eq_true_eq, decide_eq_true_eq]
    constructor
    · intro h
      rcases h with h | ⟨⟨h1, h2⟩, h3⟩
      · exact h.elim .inl fun ⟨k, hk, r⟩ => .inr ⟨k, by omega, r⟩
      · refine .inr ⟨n, by omega, i - (6 + 4 * n), ?_, by omega, h3⟩
        rcases Nat.lt_or_ge (i - (6 + 4 * n)) 4 with q | q
        · exact q
        · rw [h4 _ _ q] at h3; cases h3
    · intro h
      rcases h with h | ⟨k, hk, b, hb, e, f⟩
      · exact .inl (.inl h)
      · by_cases ek : k = n
        · refine .inr ⟨⟨by omega, by omega⟩, ?_⟩
          rw [e, ek, show 6 + 4 * n + b - (6 + 4 * n) = b by omega, ← ek]; exact f
        · exact .inl (.inr ⟨k, by omega, b, hb, e, f⟩)
theorem st_inj {V : VV} {pl : Nat} {ask : Int32} {c : CH} {s t : RT} (U : UR V pl ask c s) (W : UR V pl ask c t) (l : slR s t) (ok : t.2.2 = true) (e : stK s 6 = stK t 6) : t = s := by
  refine slR_a l ⟨fun i h => ?_, fun p i h => ?_, fun _ => ok⟩
  · have i6 : i < 6 := by
      rcases Nat.lt_or_ge i 6 with q | q
      · exact q
      · rw [W.2.2.1 i q] at h; cases h
    have := (bt_st W.2.2.2.1 6 (Nat.le_refl _) i).mpr (.inl h)
    rw [← e] at this
    exact ((bt_st U.2.2.2.1 6 (Nat.le_refl _) i).mp this).resolve_right fun ⟨k, _, b, _, q, _⟩ => by omega
  · have p6 : p < 6 := by
      rcases Nat.lt_or_ge p 6 with q | q
      · exact q
      · rw [W.2.2.2.2.1 p q, bt_0] at h; cases h
    have i4 : i < 4 := by
      rcases Nat.lt_or_ge i 4 with q | q
      · exact q
      · rw [W.2.2.2.1 p i q] at h; cases h
    have := (bt_st W.2.2.2.1 6 (Nat.le_refl _) (6 + 4 * p + i)).mpr (.inr ⟨p, p6, i, i4, rfl, h⟩)
    rw [← e] at this
    rcases (bt_st U.2.2.2.1 6 (Nat.le_refl _) _).mp this with q | ⟨k, hk, b, hb, q, f⟩
    · rw [U.2.2.1 _ (by omega)] at q; cases q
    · have e1 : k = p := by omega
      have e2 : b = i := by omega
      rw [← e1, ← e2]; exact f
theorem st_cb {V : VV} {pl : Nat} {ask : Int32} {c : CH} {s t : RT} (U : UR V pl ask c s) (W : UR V pl ask c t) (l : slR s t) (ne : ¬ stK s 6 = stK t 6) : cb (bt (stK s 6)) 30 < cb (bt (stK t 6)) 30 := by
  have m : ∀ i, bt (stK s 6) i = true → bt (stK t 6) i = true := fun i h => (bt_st W.2.2.2.1 6 (Nat.le_refl _) i).mpr (((bt_st U.2.2.2.1 6 (Nat.le_refl _) i).mp h).elim (fun h => .inl (l.1 i h)) fun ⟨k, hk, b, hb, e, f⟩ => .inr ⟨k, hk, b, hb, e, l.2.1 k b f⟩)
  have : ∃ i, bt (stK t 6) i = true ∧ bt (stK s 6) i = false := Classical.byContradiction fun hh => ne (bt_eq m fun i hy => by
    cases hx : bt (stK s 6) i
    · exact absurd ⟨i, hy, hx⟩ hh
    · rfl)
  obtain ⟨i, h1, h2⟩ := this
  refine cb_lt m h1 h2 30 ?_
  rcases (bt_st W.2.2.2.1 6 (Nat.le_refl _) i).mp h1 with q | ⟨k, hk, b, hb, e, f⟩
  · rcases Nat.lt_or_ge i 6 with q2 | q2
    · omega
    · rw [W.2.2.1 i q2] at q; cases q
  · omega
theorem wh_x {V : VV} {pl : Nat} {ask : Int32} {c : CH} (I : Iv V) (o : okc V c) : ∀ n s, UR V pl ask c s → 31 ≤ n + cb (bt (stK s 6)) 30 → ∃ t, whR V pl c n s = some t ∧ UR V pl ask c t ∧ slR s t ∧ (t.2.2 = true → paR V pl c 6 t = t) := by
  intro n
  induction n with
  | zero =>
    intro s U h
    have := cb_n (bt (stK s 6)) 30
    omega
  | succ n ih =>
    intro s U h
    unfold whR
    by_cases ok : s.2.2 = true
    · rw [if_pos ok]
      have U1 := paR_us I o U 6 (Nat.le_refl _)
      have l1 := paR_le (V := V) (pl := pl) (c := c) (s := s) 6
      by_cases e : (paR V pl c 6 s).2.2 = true ∧ ¬ stK s 6 = stK (paR V pl c 6 s) 6
      · rw [if_pos e]
        have := st_cb U U1 l1 e.2
        obtain ⟨t, a, b, d, f⟩ := ih (paR V pl c 6 s) U1 (by omega)
        exact ⟨t, a, b, slR_t l1 d, f⟩
      · rw [if_neg e]
        refine ⟨_, rfl, U1, l1, fun k => ?_⟩
        have e2 : stK s 6 = stK (paR V pl c 6 s) 6 := Classical.byContradiction fun hh => e ⟨k, hh⟩
        have e3 := st_inj U U1 l1 k e2
        rw [e3]; exact e3
    · rw [if_neg ok]
      exact ⟨s, rfl, U, slR_r s, fun k => absurd k ok⟩
-- where nothing changes
theorem hnR_fix {V : VV} {pl p a : Nat} {c : CH} {s : RT} : ∀ n, hnR V pl c p a n s = s → ∀ j, j < n → aOn V pl s.2.1 p (4 * a + j) = true → stR V c (4 * a + j) s = s := by
  intro n
  induction n with
  | zero => intro _ j hj; omega
  | succ n ih =>
    intro h j hj e
    have l : slR (hnR V pl c p a n s) (hnR V pl c p a (n + 1) s) := by
      show slR (hnR V pl c p a n s) (if aOn V pl (hnR V pl c p a n s).2.1 p (4 * a + n) then stR V c (4 * a + n) (hnR V pl c p a n s) else hnR V pl c p a n s)
      split
      · exact st_le
      · exact slR_r _
    rw [h] at l
    have et : hnR V pl c p a n s = s := slR_a (hnR_le n) l
    unfold hnR at h
    rw [et] at h
    by_cases ej : j = n
    · rw [ej] at e ⊢
      rw [if_pos e] at h; exact h
    · exact ih et j (by omega) e
theorem paR_fix {V : VV} {pl : Nat} {c : CH} {s : RT} : ∀ n, paR V pl c n s = s → ∀ p, p < n → bt s.1 p = true → hnR V pl c p (vi c p) (vn V 8 (vi c p)) s = s := by
  intro n
  induction n with
  | zero => intro _ j hj; omega
  | succ n ih =>
    intro h p hp e
    have l : slR (paR V pl c n s) (paR V pl c (n + 1) s) := by
      show slR (paR V pl c n s) (if bt (paR V pl c n s).1 n then hnR V pl c n (vi c n) (vn V 8 (vi c n)) (paR V pl c n s) else paR V pl c n s)
      split
      · exact hnR_le _
      · exact slR_r _
    rw [h] at l
    have et : paR V pl c n s = s := slR_a (paR_le n) l
    unfold paR at h
    rw [et] at h
    by_cases ej : p = n
    · rw [ej] at e ⊢
      rw [if_pos e] at h; exact h
    · exact ih et p (by omega) e
def chP (c : CH) : Int32 := ob (fun p => decide (c p ≠ 0)) 6
def reR (V : VV) (pl : Nat) (ask : Int32) (c : CH) : Option RT := whR V pl c 31 (wiR V ask c (vn V 18 0) (0, fun _ => 0, true))
theorem re_x {V : VV} {pl : Nat} {ask : Int32} {c : CH} (I : Iv V) (o : okc V c) : ∃ t, reR V pl ask c = some t ∧ ((if t.2.2 then t.1 else -1) = chP c ↔ AllMet V pl ask c ∧ ∀ p, p < 6 → c p ≠ 0 → Rs V pl ask c p) := by
  have U0 : UR V pl ask c (0, fun _ => 0, true) := ⟨fun p _ e => (by rw [bt_0] at e; cases e), fun p _ _ b _ e => (by rw [bt_0] at e; cases e), fun i _ => bt_0 i, fun p i _ => bt_0 i, fun _ _ => rfl, fun e => by cases e⟩
  obtain ⟨U1, k1⟩ := wiR_us I U0 (vn V 18 0) (Nat.le_refl _)
  obtain ⟨t, e, U, l, fx⟩ := wh_x I o 31 _ U1 (by omega)
  refine ⟨t, e, ?_⟩
  have T : t.2.2 = true → Cls V pl ask c (Rq t) (Fq t) ∧ AllMet V pl ask c := fun ok => by
    have fx := fx ok
    have N : ∀ p, p < 6 → c p ≠ 0 → Rq t p → ∀ j, j < vn V 8 (vi c p) → act V pl (Fq t) p (4 * vi c p + j) → led V c (Rq t) (Fq t) (4 * vi c p + j) ∧ met V c (4 * vi c p + j) := fun p p6 h0 hR j hj ac => by
      obtain ⟨v1, v2, v3, v4, v5⟩ := vi_4 I o p6 h0
      have b8 := (I.1.2.2.1 _ v2).1.2
      have q := hnR_fix _ (paR_fix 6 fx p p6 hR) j hj ((aOn_a I (by omega)).mpr ac)
      have r := st_led (V := V) (c := c) (s := t) (q := 4 * vi c p + j)
      rw [q] at r
      exact ⟨r.1, r.2 ok⟩
    have C : Cls V pl ask c (Rq t) (Fq t) := ⟨fun k hk ek => ledR_m (k1 k hk ek).1 l, fun p p6 h0 hR j hj ac => (N p p6 h0 hR j hj ac).1⟩
    exact ⟨C, fun k hk ek => (k1 k hk ek).2 (l.2.2 ok), fun p p6 h0 hR j hj ac => (N p p6 h0 (hR _ _ C) j hj (act_m ac fun b _ f => f _ _ C)).2⟩
  have B : ∀ i, bt (chP c) i = true ↔ i < 6 ∧ c i ≠ 0 := fun i => by
    unfold chP
    rw [bt_ob 6 (by decide), Bool.and_eq_true, decide_eq_true_eq, decide_eq_true_eq]
  constructor
  · intro h
    by_cases ok : t.2.2 = true
    · rw [if_pos ok] at h
      exact ⟨(T ok).2, fun p p6 h0 => U.1 p p6 (by rw [h]; exact (B p).mpr ⟨p6, h0⟩)⟩
    · rw [if_neg ok] at h
      have b : bt (-1) 10 = bt (chP c) 10 := by rw [h]
      have b2 := (B 10).mp (by rw [← b]; decide)
      omega
  · intro ⟨A, hR⟩
    have ok : t.2.2 = true := by
      cases h : t.2.2
      · exact absurd A (U.2.2.2.2.2 h)
      · rfl
    rw [if_pos ok]
    refine bt_eq (fun i h => ?_) fun i h => ?_
    · have i6 : i < 6 := by
        rcases Nat.lt_or_ge i 6 with q | q
        · exact q
        · rw [U.2.2.1 i q] at h; cases h
      exact (B i).mpr ⟨i6, Rs_c (U.1 i i6 h)⟩
    · obtain ⟨i6, h0⟩ := (B i).mp h
      exact hR i i6 h0 _ _ (T ok).1
