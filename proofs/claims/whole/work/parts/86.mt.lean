-- choices of versions: what meets what, what is reached
def usb (V : VV) (i : Nat) : Bool := decide (i % 4 < vn V 2 (i / 4))
/-- of a need, a conflict or a wish, by the place of its range: its package, its features -/
def nP (V : VV) (q : Nat) : Nat := if q < 96 then vn V 9 q else if q < 144 then vn V 14 (q - 96) else vn V 19 (q - 144)
def nF (V : VV) (q : Nat) : Int32 := if q < 96 then V 10 q else if q < 144 then 0 else V 20 (q - 144)
def pvK (V : VV) (q pk i : Nat) : Nat → Bool
  | 0 => false
  | k + 1 => pvK V q pk i k || (decide (vn V 16 (2 * i + k) = pk) && hf (vn V 1 pk) (vn V 17 (2 * i + k)) false false (itm V q))
def mt (V : VV) (q i : Nat) : Bool := decide (i < 24) && (usb V i && (if i / 4 = nP V q then decide (V 4 i &&& nF V q = nF V q) && inc V q (nP V q) (i % 4) else decide (nF V q = 0) && pvK V q (nP V q) i (vn V 15 i)))
def ob (f : Nat → Bool) : Nat → Int32
  | 0 => 0
  | n + 1 => if f n then ob f n ||| ((1 : Int32) <<< (nI n &&& 31)) else ob f n
theorem bt_ob {f : Nat → Bool} : ∀ n, n ≤ 32 → ∀ i, bt (ob f n) i = (decide (i < n) && f i) := by
  intro n
  induction n with
  | zero => intro _ i; rw [decide_eq_false (Nat.not_lt_zero i)]; exact bt_0 i
  | succ n ih =>
    intro hn i
    have ih := ih (by omega) i
    unfold ob
    by_cases e : f n = true
    · rw [if_pos e, bt_or, bt_one (by omega), ih]
      by_cases e2 : i = n
      · subst e2; rw [decide_eq_true (show i < i + 1 by omega), decide_eq_true (rfl : i = i), e]; simp
      · rw [decide_eq_false e2, Bool.or_false]
        by_cases e3 : i < n
        · rw [decide_eq_true e3, decide_eq_true (show i < n + 1 by omega)]
        · rw [decide_eq_false e3, decide_eq_false (show ¬ i < n + 1 by omega)]
    · rw [if_neg e, ih]
      by_cases e2 : i = n
      · subst e2
        have e' : f i = false := by cases h : f i; rfl; exact absurd h e
        rw [e', Bool.and_false, Bool.and_false]
      · by_cases e3 : i < n
        · rw [decide_eq_true e3, decide_eq_true (show i < n + 1 by omega)]
        · rw [decide_eq_false e3, decide_eq_false (show ¬ i < n + 1 by omega)]
abbrev CH : Type := Nat → Nat
def vi (c : CH) (p : Nat) : Nat := 4 * p + (c p - 1)
def mtc (V : VV) (c : CH) (q p : Nat) : Bool := decide (c p ≠ 0) && mt V q (vi c p)
def met (V : VV) (c : CH) (q : Nat) : Prop := ∃ p, p < 6 ∧ mtc V c q p = true
abbrev RP : Type := Nat → Prop
abbrev FP : Type := Nat → Nat → Prop
def act (V : VV) (pl : Nat) (F : FP) (p q : Nat) : Prop := bt (V 11 q) pl = true ∧ (V 12 q = -1 ∨ ∃ b, b < 4 ∧ F p b ∧ bt (V 12 q) b = true)
/-- what a need or wish leads to is there -/
def led (V : VV) (c : CH) (R : RP) (F : FP) (q : Nat) : Prop := (∀ p, p < 6 → mtc V c q p = true → R p) ∧ ∀ b, b < 4 → c (nP V q) ≠ 0 → bt (nF V q) b = true → F (nP V q) b
def Cls (V : VV) (pl : Nat) (ask : Int32) (c : CH) (R : RP) (F : FP) : Prop := (∀ k, k < vn V 18 0 → bt ask k = true → led V c R F (144 + k)) ∧ ∀ p, p < 6 → c p ≠ 0 → R p → ∀ j, j < vn V 8 (vi c p) → act V pl F p (4 * vi c p + j) → led V c R F (4 * vi c p + j)
def Rs (V : VV) (pl : Nat) (ask : Int32) (c : CH) : RP := fun p => ∀ R F, Cls V pl ask c R F → R p
def Fs (V : VV) (pl : Nat) (ask : Int32) (c : CH) : FP := fun p b => ∀ R F, Cls V pl ask c R F → F p b
theorem act_m {V : VV} {pl p q : Nat} {F F' : FP} (h : act V pl F p q) (m : ∀ b, b < 4 → F p b → F' p b) : act V pl F' p q := ⟨h.1, h.2.elim .inl fun ⟨b, hb, f, o⟩ => .inr ⟨b, hb, m b hb f, o⟩⟩
theorem Cls_s {V : VV} {pl : Nat} {ask : Int32} {c : CH} : Cls V pl ask c (Rs V pl ask c) (Fs V pl ask c) := by
  refine ⟨fun k hk ha => ⟨fun p hp m R F C => (C.1 k hk ha).1 p hp m, fun b hb h1 h2 R F C => (C.1 k hk ha).2 b hb h1 h2⟩, fun p hp h0 hR j hj ha => ⟨fun p' hp' m R F C => ?_, fun b hb h1 h2 R F C => ?_⟩⟩
  · exact (C.2 p hp h0 (hR R F C) j hj (act_m ha fun b _ f => f R F C)).1 p' hp' m
  · exact (C.2 p hp h0 (hR R F C) j hj (act_m ha fun b _ f => f R F C)).2 b hb h1 h2
theorem Rs_c {V : VV} {pl : Nat} {ask : Int32} {c : CH} {p : Nat} (h : Rs V pl ask c p) : c p ≠ 0 := by
  refine h (fun p => c p ≠ 0) (fun _ _ => True) ⟨fun k hk ha => ⟨fun p hp m => ?_, fun _ _ _ _ => trivial⟩, fun p hp h0 _ j hj ha => ⟨fun p' hp' m => ?_, fun _ _ _ _ => trivial⟩⟩
  · unfold mtc at m; rw [Bool.and_eq_true] at m; exact of_decide_eq_true m.1
  · unfold mtc at m; rw [Bool.and_eq_true] at m; exact of_decide_eq_true m.1
def AllMet (V : VV) (pl : Nat) (ask : Int32) (c : CH) : Prop := (∀ k, k < vn V 18 0 → bt ask k = true → met V c (144 + k)) ∧ ∀ p, p < 6 → c p ≠ 0 → Rs V pl ask c p → ∀ j, j < vn V 8 (vi c p) → act V pl (Fs V pl ask c) p (4 * vi c p + j) → met V c (4 * vi c p + j)
def cfK (V : VV) (i k : Nat) : Nat → Bool
  | 0 => false
  | j + 1 => cfK V i k j || (mt V (96 + (2 * i + j)) k && decide (k / 4 ≠ i / 4))
/-- a conflict of i with k -/
def cf (V : VV) (i k : Nat) : Bool := cfK V i k (vn V 13 i)
def cnI (V : VV) (pl : Nat) (ul : Nat → Bool) (p : Nat) : Int32 := if ul p then -1 else V 29 (6 * pl + p)
def pm (V : VV) (pl : Nat) (ul : Nat → Bool) (i : Nat) : Bool := decide (i < 24) && (usb V i && (bt (V 26 0) (vn V 5 i) && (decide (V 7 i = 0) || decide (cnI V pl ul (i / 4) = nI (i % 4)))))
def okc (V : VV) (c : CH) : Prop := ∀ p, p < 6 → c p ≤ vn V 2 p
def Clo (V : VV) (pl : Nat) (ul : Nat → Bool) (ask : Int32) (c : CH) : Prop := (∀ p, p < 6 → c p ≠ 0 → pm V pl ul (vi c p) = true) ∧ (∀ p p', p < 6 → p' < 6 → p ≠ p' → c p ≠ 0 → c p' ≠ 0 → cf V (vi c p) (vi c p') = false) ∧ AllMet V pl ask c ∧ ∀ p, p < 6 → c p ≠ 0 → Rs V pl ask c p
-- the class's way: what is reached and which features are on, two ints
abbrev RF : Type := Int32 × Int32
def mbI (V : VV) (q : Nat) : Int32 := ob (mt V q) 24
theorem bt_mb {V : VV} {q i : Nat} : bt (mbI V q) i = mt V q i := by
  unfold mbI
  rw [bt_ob 24 (by decide)]
  unfold mt
  by_cases e : i < 24
  · rw [decide_eq_true e, Bool.true_and, Bool.true_and]
  · rw [decide_eq_false e]; rfl
def imF (V : VV) (pool : Int32) (q : Nat) (s : RF) : Option RF := if mbI V q &&& pool = 0 then none else some (s.1 ||| (mbI V q &&& pool), s.2 ||| (nF V q <<< (nI (4 * nP V q) &&& 31)))
def isOn (V : VV) (pl : Nat) (o : Int32) (p q : Nat) : Bool := (decide (V 12 q = -1) || decide (¬ ((o >>> (nI (4 * p) &&& 31)) &&& V 12 q) = 0)) && decide (¬ (V 11 q &&& ((1 : Int32) <<< (nI pl &&& 31))) = 0)
def hnF (V : VV) (pl : Nat) (pool : Int32) (p a : Nat) : Nat → RF → Option RF
  | 0, s => some s
  | j + 1, s => (hnF V pl pool p a j s).bind fun s => if isOn V pl s.2 p (4 * a + j) then imF V pool (4 * a + j) s else some s
def paF (V : VV) (pl : Nat) (pool : Int32) (c : CH) : Nat → RF → Option RF
  | 0, s => some s
  | p + 1, s => (paF V pl pool c p s).bind fun s => if (decide (c p ≠ 0) && bt s.1 (vi c p)) then hnF V pl pool p (vi c p) (vn V 8 (vi c p)) s else some s
def itF (V : VV) (pl : Nat) (pool : Int32) (c : CH) : Nat → RF → Option RF
  | 0, s => some s
  | n + 1, s => (paF V pl pool c 6 s).bind fun s' => if s'.1 = s.1 ∧ s'.2 = s.2 then some s' else itF V pl pool c n s'
def wiF (V : VV) (pool ask : Int32) : Nat → RF → Option RF
  | 0, s => some s
  | k + 1, s => (wiF V pool ask k s).bind fun s => if bt ask k then imF V pool (144 + k) s else some s
def amF (V : VV) (pl : Nat) (pool ask : Int32) (c : CH) (r0 : Int32) : Option RF := (wiF V pool ask (vn V 18 0) (r0, 0)).bind (itF V pl pool c 64)
-- features as bits
theorem bt_15x : ∀ n, n < 16 → ∀ i, i < 32 → 4 ≤ i → bt (nI n) i = false := by decide +kernel
theorem bt_15 (n : Nat) (hn : n ≤ 15) (i : Nat) (h4 : 4 ≤ i) (hi : i < 32) : bt (nI n) i = false := bt_15x n (by omega) i hi h4
theorem nF_15 {V : VV} {q : Nat} (I : Iv V) (hq : q < 148) : ∃ n, n ≤ 15 ∧ nF V q = nI n := by
  unfold nF
  by_cases e : q < 96
  · rw [if_pos e]
    have := (I.2.1.1 q e).2.1
    exact ⟨_, this.2, this.1⟩
  · rw [if_neg e]
    by_cases e2 : q < 144
    · rw [if_pos e2]; exact ⟨0, by decide, rfl⟩
    · rw [if_neg e2]
      have := (I.2.2.1.2.1 (q - 144) (by omega)).2
      exact ⟨_, this.2, this.1⟩
theorem nP_6 {V : VV} {q : Nat} (I : Iv V) (hq : q < 148) : nP V q < 6 := by
  unfold nP
  split
  next e => have := (I.2.1.1 q e).1.2; omega
  next e =>
    split
    · have := (I.2.1.2.1 (q - 96) (by omega)).1.2; omega
    · have := (I.2.2.1.2.1 (q - 144) (by omega)).1.2; omega
theorem nF_4 {V : VV} {q i : Nat} (I : Iv V) (hq : q < 148) (h : bt (nF V q) i = true) : i < 4 := by
  obtain ⟨n, hn, e⟩ := nF_15 I hq
  rw [e] at h
  rcases Nat.lt_or_ge i 4 with h2 | h2
  · exact h2
  · rcases Nat.lt_or_ge i 32 with h3 | h3
    · rw [bt_15 n hn i h2 h3] at h; cases h
    · rw [bt_ge h3] at h; cases h
theorem bt_nF {V : VV} {q p b : Nat} (I : Iv V) (hq : q < 148) (hp : p < 6) (hb : b < 4) : bt (nF V q <<< (nI (4 * nP V q) &&& 31)) (4 * p + b) = (decide (nP V q = p) && bt (nF V q) b) := by
  have hP := nP_6 I hq
  rw [bt_sl (by omega), decide_eq_true (show 4 * p + b < 32 by omega), Bool.true_and]
  by_cases e : nP V q = p
  · rw [decide_eq_true e, decide_eq_true (by omega), show 4 * p + b - 4 * nP V q = b by omega]
  · rw [decide_eq_false e, Bool.false_and]
    by_cases e2 : 4 * nP V q ≤ 4 * p + b
    · rw [decide_eq_true e2, Bool.true_and]
      cases h : bt (nF V q) (4 * p + b - 4 * nP V q)
      · rfl
      · have := nF_4 I hq h
        omega
    · rw [decide_eq_false e2, Bool.false_and]
theorem nF_hi {V : VV} {q i : Nat} (I : Iv V) (hq : q < 148) (hi : 24 ≤ i) : bt (nF V q <<< (nI (4 * nP V q) &&& 31)) i = false := by
  have hP := nP_6 I hq
  rw [bt_sl (by omega)]
  cases h : bt (nF V q) (i - 4 * nP V q)
  · rw [Bool.and_false]
  · have := nF_4 I hq h
    omega
theorem mt_24 {V : VV} {q i : Nat} (h : mt V q i = true) : i < 24 := by
  unfold mt at h
  rw [Bool.and_eq_true] at h
  exact of_decide_eq_true h.1
/-- features are met by a version of that very package -/
theorem mt_f {V : VV} {q i : Nat} (h : mt V q i = true) (hf : nF V q ≠ 0) : i / 4 = nP V q := by
  unfold mt at h
  rw [Bool.and_eq_true, Bool.and_eq_true] at h
  refine Classical.byContradiction fun e => ?_
  rw [if_neg e, decide_eq_false hf] at h
  exact absurd h.2.2 (by simp)
theorem vi_4 {V : VV} {c : CH} {p : Nat} (I : Iv V) (o : okc V c) (hp : p < 6) (h : c p ≠ 0) : vi c p / 4 = p ∧ vi c p < 24 ∧ vi c p % 4 = c p - 1 ∧ c p - 1 < vn V 2 p ∧ vn V 2 p ≤ 4 := by
  have a := o p hp
  have b := (I.1.1 p hp).2.2
  unfold vi
  omega
theorem isOn_a {V : VV} {pl p q : Nat} {o : Int32} (I : Iv V) (hp : p < 6) (hq : q < 96) (hl : pl < 3) : isOn V pl o p q = true ↔ act V pl (fun p b => bt o (4 * p + b) = true) p q := by
  unfold isOn act
  have e1 : decide (¬ (V 11 q &&& ((1 : Int32) <<< (nI pl &&& 31))) = 0) = bt (V 11 q) pl := by
    cases h : bt (V 11 q) pl
    · refine decide_eq_false fun hh => hh (bt_and_z.mpr fun i hi e => ?_)
      rw [bt_one (by omega)]
      refine decide_eq_false fun e2 => ?_
      rw [e2, h] at e; cases e
    · refine decide_eq_true fun hh => ?_
      have := bt_and_z.mp hh pl (by omega) h
      rw [bt_one (by omega), decide_eq_true rfl] at this
      cases this
  rw [e1, Bool.and_eq_true, Bool.or_eq_true, decide_eq_true_eq, decide_eq_true_eq, and_comm]
  refine and_congr Iff.rfl ?_
  by_cases hn : V 12 q = -1
  · exact ⟨fun _ => .inl hn, fun _ => .inl hn⟩
  have ow := ((I.2.1.1 q hq).2.2.2).resolve_left hn
  constructor
  · intro h
    refine .inr ?_
    obtain ⟨i, hi, h⟩ := bt_nz.mp (h.resolve_left hn)
    rw [bt_and, Bool.and_eq_true, ow.1] at h
    have i4 : i < 4 := by
      rcases Nat.lt_or_ge i 4 with h2 | h2
      · exact h2
      · rw [bt_15 _ ow.2 i h2 hi] at h; cases h.2
    rw [bt_sr (by omega) (by omega), Nat.add_comm] at h
    exact ⟨i, i4, h.1, by rw [ow.1]; exact h.2⟩
  · intro h
    refine .inr (bt_nz.mpr ?_)
    obtain ⟨b, hb, h1, h2⟩ := h.resolve_left hn
    refine ⟨b, by omega, ?_⟩
    rw [bt_and, bt_sr (by omega) (by omega), Nat.add_comm b, h1, h2]; rfl
