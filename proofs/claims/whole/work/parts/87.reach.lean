-- what the class reaches: sound for pruning, exact for a whole choice
def sle (s s' : RF) : Prop := (∀ i, bt s.1 i = true → bt s'.1 i = true) ∧ ∀ i, bt s.2 i = true → bt s'.2 i = true
theorem sle_r (s : RF) : sle s s := ⟨fun _ h => h, fun _ h => h⟩
theorem sle_t {s s1 s2 : RF} (h : sle s s1) (h2 : sle s1 s2) : sle s s2 := ⟨fun i e => h2.1 i (h.1 i e), fun i e => h2.2 i (h.2 i e)⟩
theorem bt_eq {x y : Int32} (h : ∀ i, bt x i = true → bt y i = true) (h2 : ∀ i, bt y i = true → bt x i = true) : x = y := bt_ext fun i _ => by
  cases e : bt x i
  · cases e2 : bt y i
    · rfl
    · rw [h2 i e2] at e; cases e
  · rw [h i e]
theorem sle_a {s s' : RF} (h : sle s s') (h2 : sle s' s) : s' = s := Prod.ext (bt_eq h2.1 h.1) (bt_eq h2.2 h.2)
theorem im_x {V : VV} {pool : Int32} {q : Nat} {s s' : RF} (h : imF V pool q s = some s') : ¬ mbI V q &&& pool = 0 ∧ s'.1 = s.1 ||| (mbI V q &&& pool) ∧ s'.2 = s.2 ||| (nF V q <<< (nI (4 * nP V q) &&& 31)) := by
  unfold imF at h
  split at h
  · cases h
  next e => rw [← Option.some.inj h]; exact ⟨e, rfl, rfl⟩
theorem im_le {V : VV} {pool : Int32} {q : Nat} {s s' : RF} (h : imF V pool q s = some s') : sle s s' := by
  obtain ⟨_, a, b⟩ := im_x h
  refine ⟨fun i e => ?_, fun i e => ?_⟩
  · rw [a, bt_or, e]; rfl
  · rw [b, bt_or, e]; rfl
theorem hn_le {V : VV} {pl : Nat} {pool : Int32} {p a : Nat} : ∀ n s s', hnF V pl pool p a n s = some s' → sle s s' := by
  intro n
  induction n with
  | zero => intro s s' h; rw [← Option.some.inj h]; exact sle_r s
  | succ n ih =>
    intro s s' h
    unfold hnF at h
    obtain ⟨t, h1, h2⟩ := Option.bind_eq_some_iff.mp h
    refine sle_t (ih s t h1) ?_
    split at h2
    · exact im_le h2
    · rw [← Option.some.inj h2]; exact sle_r t
theorem pa_le {V : VV} {pl : Nat} {pool : Int32} {c : CH} : ∀ n s s', paF V pl pool c n s = some s' → sle s s' := by
  intro n
  induction n with
  | zero => intro s s' h; rw [← Option.some.inj h]; exact sle_r s
  | succ n ih =>
    intro s s' h
    unfold paF at h
    obtain ⟨t, h1, h2⟩ := Option.bind_eq_some_iff.mp h
    refine sle_t (ih s t h1) ?_
    split at h2
    · exact hn_le _ _ _ h2
    · rw [← Option.some.inj h2]; exact sle_r t
theorem it_le {V : VV} {pl : Nat} {pool : Int32} {c : CH} : ∀ n s s', itF V pl pool c n s = some s' → sle s s' := by
  intro n
  induction n with
  | zero => intro s s' h; rw [← Option.some.inj h]; exact sle_r s
  | succ n ih =>
    intro s s' h
    unfold itF at h
    obtain ⟨t, h1, h2⟩ := Option.bind_eq_some_iff.mp h
    refine sle_t (pa_le _ _ _ h1) ?_
    split at h2
    · rw [← Option.some.inj h2]; exact sle_r t
    · exact ih _ _ h2
-- sound: what a closure c' leads to is within the pool
def Kf (V : VV) (pl : Nat) (ask : Int32) (c : CH) (s : RF) : Prop := ∀ p, p < 6 → c p ≠ 0 → ∀ b, b < 4 → bt s.2 (4 * p + b) = true → Fs V pl ask c p b
theorem im_snd {V : VV} {pl q : Nat} {pool ask : Int32} {c : CH} {s : RF} (I : Iv V) (hq : q < 148) (m : met V c q) (l : led V c (Rs V pl ask c) (Fs V pl ask c) q) (hp : ∀ p, p < 6 → c p ≠ 0 → bt pool (vi c p) = true) (K : Kf V pl ask c s) : ∃ s', imF V pool q s = some s' ∧ Kf V pl ask c s' := by
  obtain ⟨p, p6, m⟩ := m
  unfold mtc at m
  rw [Bool.and_eq_true, decide_eq_true_eq] at m
  have nz : ¬ mbI V q &&& pool = 0 := fun e => by
    have := bt_and_z.mp e (vi c p) (by have := mt_24 m.2; omega) (by rw [bt_mb]; exact m.2)
    rw [hp p p6 m.1] at this; cases this
  refine ⟨_, by unfold imF; rw [if_neg nz], fun p' p6' h0 b hb h => ?_⟩
  dsimp only at h
  rw [bt_or, Bool.or_eq_true, bt_nF I hq p6' hb, Bool.and_eq_true, decide_eq_true_eq] at h
  rcases h with h | h
  · exact K p' p6' h0 b hb h
  · have e := h.1
    subst e
    exact l.2 b hb h0 h.2
theorem hn_snd {V : VV} {pl p : Nat} {pool ask : Int32} {c : CH} (I : Iv V) (hl : pl < 3) (o : okc V c) (A : AllMet V pl ask c) (hp : ∀ p, p < 6 → c p ≠ 0 → bt pool (vi c p) = true) (p6 : p < 6) (h0 : c p ≠ 0) (hR : Rs V pl ask c p) : ∀ n s, n ≤ vn V 8 (vi c p) → Kf V pl ask c s → ∃ s', hnF V pl pool p (vi c p) n s = some s' ∧ Kf V pl ask c s' := by
  obtain ⟨v1, v2, v3, v4, v5⟩ := vi_4 I o p6 h0
  have b8 := (I.1.2.2.1 _ v2).1.2
  intro n
  induction n with
  | zero => intro s _ K; exact ⟨s, rfl, K⟩
  | succ n ih =>
    intro s hn K
    obtain ⟨t, h1, K1⟩ := ih s (by omega) K
    unfold hnF
    rw [h1]
    show ∃ s', (if isOn V pl t.2 p (4 * vi c p + n) then imF V pool (4 * vi c p + n) t else some t) = some s' ∧ _
    by_cases e : isOn V pl t.2 p (4 * vi c p + n) = true
    · rw [if_pos e]
      have ac := act_m ((isOn_a I p6 (by omega) hl).mp e) (fun b hb f => K1 p p6 h0 b hb f)
      exact im_snd I (by omega) (A.2 p p6 h0 hR n (by omega) ac) (Cls_s.2 p p6 h0 hR n (by omega) ac) hp K1
    · rw [if_neg e]; exact ⟨t, rfl, K1⟩
theorem pa_snd {V : VV} {pl : Nat} {pool ask : Int32} {c c' : CH} (I : Iv V) (hl : pl < 3) (o : okc V c) (A : AllMet V pl ask c) (hR : ∀ p, p < 6 → c p ≠ 0 → Rs V pl ask c p) (hp : ∀ p, p < 6 → c p ≠ 0 → bt pool (vi c p) = true) (hc : ∀ p, p < 6 → c' p ≠ 0 → c' p = c p) : ∀ n s, n ≤ 6 → Kf V pl ask c s → ∃ s', paF V pl pool c' n s = some s' ∧ Kf V pl ask c s' := by
  intro n
  induction n with
  | zero => intro s _ K; exact ⟨s, rfl, K⟩
  | succ n ih =>
    intro s hn K
    obtain ⟨t, h1, K1⟩ := ih s (by omega) K
    unfold paF
    rw [h1]
    show ∃ s', (if (decide (c' n ≠ 0) && bt t.1 (vi c' n)) = true then hnF V pl pool n (vi c' n) (vn V 8 (vi c' n)) t else some t) = some s' ∧ _
    by_cases e : (decide (c' n ≠ 0) && bt t.1 (vi c' n)) = true
    · rw [if_pos e]
      rw [Bool.and_eq_true, decide_eq_true_eq] at e
      have ec := hc n (by omega) e.1
      have ev : vi c' n = vi c n := by unfold vi; rw [ec]
      rw [ev]
      have h0 : c n ≠ 0 := fun h => e.1 (ec.trans h)
      exact hn_snd I hl o A hp (by omega) h0 (hR n (by omega) h0) _ t (Nat.le_refl _) K1
    · rw [if_neg e]; exact ⟨t, rfl, K1⟩
theorem it_snd {V : VV} {pl : Nat} {pool ask : Int32} {c c' : CH} (I : Iv V) (hl : pl < 3) (o : okc V c) (A : AllMet V pl ask c) (hR : ∀ p, p < 6 → c p ≠ 0 → Rs V pl ask c p) (hp : ∀ p, p < 6 → c p ≠ 0 → bt pool (vi c p) = true) (hc : ∀ p, p < 6 → c' p ≠ 0 → c' p = c p) : ∀ n s, Kf V pl ask c s → ∃ s', itF V pl pool c' n s = some s' := by
  intro n
  induction n with
  | zero => intro s _; exact ⟨s, rfl⟩
  | succ n ih =>
    intro s K
    obtain ⟨t, h1, K1⟩ := pa_snd I hl o A hR hp hc 6 s (Nat.le_refl _) K
    unfold itF
    rw [h1]
    show ∃ s', (if t.1 = s.1 ∧ t.2 = s.2 then some t else itF V pl pool c' n t) = some s'
    split
    · exact ⟨t, rfl⟩
    · exact ih t K1
theorem wi_snd {V : VV} {pl : Nat} {pool ask : Int32} {c : CH} (I : Iv V) (A : AllMet V pl ask c) (hp : ∀ p, p < 6 → c p ≠ 0 → bt pool (vi c p) = true) : ∀ n s, n ≤ vn V 18 0 → Kf V pl ask c s → ∃ s', wiF V pool ask n s = some s' ∧ Kf V pl ask c s' := by
  have w4 := I.2.2.1.1.2
  intro n
  induction n with
  | zero => intro s _ K; exact ⟨s, rfl, K⟩
  | succ n ih =>
    intro s hn K
    obtain ⟨t, h1, K1⟩ := ih s (by omega) K
    unfold wiF
    rw [h1]
    show ∃ s', (if bt ask n then imF V pool (144 + n) t else some t) = some s' ∧ _
    by_cases e : bt ask n = true
    · rw [if_pos e]
      exact im_snd I (by omega) (A.1 n (by omega) e) (Cls_s.1 n (by omega) e) hp K1
    · rw [if_neg e]; exact ⟨t, rfl, K1⟩
theorem am_snd {V : VV} {pl : Nat} {pool ask r0 : Int32} {c c' : CH} (I : Iv V) (hl : pl < 3) (o : okc V c) (A : AllMet V pl ask c) (hR : ∀ p, p < 6 → c p ≠ 0 → Rs V pl ask c p) (hp : ∀ p, p < 6 → c p ≠ 0 → bt pool (vi c p) = true) (hc : ∀ p, p < 6 → c' p ≠ 0 → c' p = c p) : ∃ s, amF V pl pool ask c' r0 = some s := by
  obtain ⟨t, h1, K1⟩ := wi_snd (pool := pool) I A hp (vn V 18 0) (r0, 0) (Nat.le_refl _) (fun p _ _ b _ h => by rw [bt_0] at h; cases h)
  obtain ⟨s, h2⟩ := it_snd I hl o A hR hp hc 64 t K1
  exact ⟨s, by unfold amF; rw [h1]; exact h2⟩
-- counting
def cb (f : Nat → Bool) : Nat → Nat
  | 0 => 0
  | n + 1 => cb f n + (if f n then 1 else 0)
theorem cb_n (f : Nat → Bool) : ∀ n, cb f n ≤ n := by
  intro n
  induction n with
  | zero => exact Nat.le_refl _
  | succ n ih => unfold cb; split <;> omega
theorem cb_le {f g : Nat → Bool} (h : ∀ i, f i = true → g i = true) : ∀ n, cb f n ≤ cb g n := by
  intro n
  induction n with
  | zero => exact Nat.le_refl _
  | succ n ih =>
    unfold cb
    by_cases e : f n = true
    · rw [if_pos e, if_pos (h n e)]; omega
    · rw [if_neg e]; split <;> omega
theorem cb_lt {f g : Nat → Bool} (h : ∀ i, f i = true → g i = true) {j : Nat} (h1 : g j = true) (h2 : f j = false) : ∀ n, j < n → cb f n < cb g n := by
  intro n
  induction n with
  | zero => intro hj; omega
  | succ n ih =>
    intro hj
    unfold cb
    by_cases e : j = n
    · subst e
      rw [if_pos h1, if_neg (by rw [h2]; decide)]
      have := cb_le h j
      omega
    · have ih := ih (by omega)
      by_cases e : f n = true
      · rw [if_pos e, if_pos (h n e)]; omega
      · rw [if_neg e]; split <;> omega
def lo24 (s : RF) : Prop := ∀ i, 24 ≤ i → bt s.1 i = false ∧ bt s.2 i = false
def cn24 (s : RF) : Nat := cb (bt s.1) 24 + cb (bt s.2) 24
theorem cn_lt {s s' : RF} (l : lo24 s') (h : sle s s') (ne : ¬ (s'.1 = s.1 ∧ s'.2 = s.2)) : cn24 s < cn24 s' := by
  have a := cb_le h.1 24
  have b := cb_le h.2 24
  unfold cn24
  have X : ∀ x y : Int32, (∀ i, bt x i = true → bt y i = true) → (∀ i, 24 ≤ i → bt y i = false) → y ≠ x → cb (bt x) 24 < cb (bt y) 24 := fun x y hxy hl hne => by
    have : ∃ i, bt y i = true ∧ bt x i = false := Classical.byContradiction fun hh => hne (bt_eq (fun i hy => by
      cases hx : bt x i
      · exact absurd ⟨i, hy, hx⟩ hh
      · rfl) hxy)
    obtain ⟨i, h1, h2⟩ := this
    have i24 : i < 24 := by
      rcases Nat.lt_or_ge i 24 with q | q
      · exact q
      · rw [hl i q] at h1; cases h1
    exact cb_lt hxy h1 h2 24 i24
  by_cases e : s'.1 = s.1
  · have := X s.2 s'.2 h.2 (fun i hi => (l i hi).2) (fun e2 => ne ⟨e, e2⟩)
    omega
  · have := X s.1 s'.1 h.1 (fun i hi => (l i hi).1) e
    omega
theorem im_lo {V : VV} {pool : Int32} {q : Nat} {s s' : RF} (I : Iv V) (hq : q < 148) (l : lo24 s) (h : imF V pool q s = some s') : lo24 s' := by
  obtain ⟨_, a, b⟩ := im_x h
  intro i hi
  rw [a, b, bt_or, bt_or, bt_and, bt_mb, (l i hi).1, (l i hi).2, nF_hi I hq hi]
  refine ⟨?_, rfl⟩
  cases e : mt V q i
  · rfl
  · have := mt_24 e; omega
/-- the chosen ones as bits -/
def chB (c : CH) : Int32 := ob (fun i => decide (c (i / 4) ≠ 0) && decide (i % 4 = c (i / 4) - 1)) 24
theorem bt_ch {V : VV} {c : CH} {i : Nat} (I : Iv V) (o : okc V c) : bt (chB c) i = true ↔ ∃ p, p < 6 ∧ c p ≠ 0 ∧ i = vi c p := by
  unfold chB
  rw [bt_ob 24 (by decide), Bool.and_eq_true, Bool.and_eq_true, decide_eq_true_eq, decide_eq_true_eq, decide_eq_true_eq]
  constructor
  · intro ⟨h1, h2, h3⟩
    exact ⟨i / 4, by omega, h2, by unfold vi; omega⟩
  · intro ⟨p, hp, h0, e⟩
    obtain ⟨v1, v2, v3, v4, v5⟩ := vi_4 I o hp h0
    rw [e, v1]
    exact ⟨v2, h0, v3⟩
-- exact: of a whole choice
def Rb (c : CH) (s : RF) : RP := fun p => c p ≠ 0 ∧ bt s.1 (vi c p) = true
def Fb (c : CH) (s : RF) : FP := fun p b => c p ≠ 0 ∧ bt s.2 (4 * p + b) = true
theorem led_m {V : VV} {c : CH} {s s' : RF} {q : Nat} (h : led V c (Rb c s) (Fb c s) q) (l : sle s s') : led V c (Rb c s') (Fb c s') q := ⟨fun p hp m => ⟨(h.1 p hp m).1, l.1 _ (h.1 p hp m).2⟩, fun b hb h1 h2 => ⟨h1, l.2 _ (h.2 b hb h1 h2).2⟩⟩
theorem im_led {V : VV} {c : CH} {s s' : RF} {q : Nat} (I : Iv V) (o : okc V c) (hq : q < 148) (h : imF V (chB c) q s = some s') : led V c (Rb c s') (Fb c s') q ∧ met V c q := by
  obtain ⟨nz, a, b⟩ := im_x h
  refine ⟨⟨fun p hp m => ?_, fun b' hb h1 h2 => ⟨h1, ?_⟩⟩, ?_⟩
  · unfold mtc at m
    rw [Bool.and_eq_true, decide_eq_true_eq] at m
    refine ⟨m.1, ?_⟩
    rw [a, bt_or, bt_and, bt_mb, m.2, (bt_ch I o).mpr ⟨p, hp, m.1, rfl⟩]; simp
  · rw [b, bt_or, bt_nF I hq (nP_6 I hq) hb, decide_eq_true rfl, h2]; simp
  · obtain ⟨i, hi, e⟩ := bt_nz.mp nz
    rw [bt_and, bt_mb, Bool.and_eq_true, bt_ch I o] at e
    obtain ⟨m, p, hp, h0, ei⟩ := e
    exact ⟨p, hp, by unfold mtc; rw [decide_eq_true h0, ← ei, m]; rfl⟩
/-- what is reached is within what is due -/
def Us (V : VV) (pl : Nat) (ask : Int32) (c : CH) (s : RF) : Prop := (∀ p, p < 6 → c p ≠ 0 → bt s.1 (vi c p) = true → Rs V pl ask c p) ∧ Kf V pl ask c s ∧ (∀ i, bt s.1 i = true → bt (chB c) i = true) ∧ lo24 s
theorem im_us {V : VV} {pl q : Nat} {ask : Int32} {c : CH} {s s' : RF} (I : Iv V) (o : okc V c) (hq : q < 148) (l : led V c (Rs V pl ask c) (Fs V pl ask c) q) (U : Us V pl ask c s) (h : imF V (chB c) q s = some s') : Us V pl ask c s' := by
  obtain ⟨nz, a, b⟩ := im_x h
  refine ⟨fun p hp h0 e => ?_, fun p' p6' h0 b' hb h => ?_, fun i e => ?_, im_lo I hq U.2.2.2 h⟩
  · rw [a, bt_or, Bool.or_eq_true, bt_and, bt_mb, Bool.and_eq_true] at e
    rcases e with e | e
    · exact U.1 p hp h0 e
    · exact l.1 p hp (by unfold mtc; rw [decide_eq_true h0, e.1, Bool.and_true])
  · rw [b, bt_or, Bool.or_eq_true, bt_nF I hq p6' hb, Bool.and_eq_true, decide_eq_true_eq] at h
    rcases h with h | h
    · exact U.2.1 p' p6' h0 b' hb h
    · have e := h.1
      subst e
      exact l.2 b' hb h0 h.2
  · rw [a, bt_or, Bool.or_eq_true, bt_and, Bool.and_eq_true] at e
    rcases e with e | e
    · exact U.2.2.1 i e
    · exact e.2
theorem hn_us {V : VV} {pl p : Nat} {ask : Int32} {c : CH} (I : Iv V) (hl : pl < 3) (o : okc V c) (p6 : p < 6) (h0 : c p ≠ 0) (hR : Rs V pl ask c p) : ∀ n s s', n ≤ vn V 8 (vi c p) → Us V pl ask c s → hnF V pl (chB c) p (vi c p) n s = some s' → Us V pl ask c s' := by
  obtain ⟨v1, v2, v3, v4, v5⟩ := vi_4 I o p6 h0
  have b8 := (I.1.2.2.1 _ v2).1.2
  intro n
  induction n with
  | zero => intro s s' _ U h; rw [← Option.some.inj h]; exact U
  | succ n ih =>
    intro s s' hn U h
    unfold hnF at h
    obtain ⟨t, h1, h2⟩ := Option.bind_eq_some_iff.mp h
    have U1 := ih s t (by omega) U h1
    by_cases e : isOn V pl t.2 p (4 * vi c p + n) = true
    · rw [if_pos e] at h2
      have ac := act_m ((isOn_a I p6 (by omega) hl).mp e) (fun b hb f => U1.2.1 p p6 h0 b hb f)
      exact im_us I o (by omega) (Cls_s.2 p p6 h0 hR n (by omega) ac) U1 h2
    · rw [if_neg e] at h2; rw [← Option.some.inj h2]; exact U1
theorem pa_us {V : VV} {pl : Nat} {ask : Int32} {c : CH} (I : Iv V) (hl : pl < 3) (o : okc V c) : ∀ n s s', n ≤ 6 → Us V pl ask c s → paF V pl (chB c) c n s = some s' → Us V pl ask c s' := by
  intro n
  induction n with
  | zero => intro s s' _ U h; rw [← Option.some.inj h]; exact U
  | succ n ih =>
    intro s s' hn U h
    unfold paF at h
    obtain ⟨t, h1, h2⟩ := Option.bind_eq_some_iff.mp h
    have U1 := ih s t (by omega) U h1
    by_cases e : (decide (c n ≠ 0) && bt t.1 (vi c n)) = true
    · rw [if_pos e] at h2
      rw [Bool.and_eq_true, decide_eq_true_eq] at e
      exact hn_us I hl o (by omega) e.1 (U1.1 n (by omega) e.1 e.2) _ t s' (Nat.le_refl _) U1 h2
    · rw [if_neg e] at h2; rw [← Option.some.inj h2]; exact U1
theorem it_us {V : VV} {pl : Nat} {ask : Int32} {c : CH} (I : Iv V) (hl : pl < 3) (o : okc V c) : ∀ n s s', Us V pl ask c s → itF V pl (chB c) c n s = some s' → Us V pl ask c s' ∧ (paF V pl (chB c) c 6 s' = some s' ∨ n + cn24 s ≤ cn24 s') := by
  intro n
  induction n with
  | zero => intro s s' U h; rw [← Option.some.inj h]; exact ⟨U, .inr (by omega)⟩
  | succ n ih =>
    intro s s' U h
    unfold itF at h
    obtain ⟨t, h1, h2⟩ := Option.bind_eq_some_iff.mp h
    have U1 := pa_us I hl o 6 s t (Nat.le_refl _) U h1
    by_cases e : t.1 = s.1 ∧ t.2 = s.2
    · rw [if_pos e] at h2
      have et : t = s := Prod.ext e.1 e.2
      rw [← Option.some.inj h2]
      refine ⟨U1, .inl ?_⟩
      rw [et] at h1 ⊢
      exact h1
    · rw [if_neg e] at h2
      have l := cn_lt U1.2.2.2 (pa_le _ _ _ h1) e
      obtain ⟨a, b⟩ := ih t s' U1 h2
      exact ⟨a, b.elim .inl fun b => .inr (by omega)⟩
theorem wi_us {V : VV} {pl : Nat} {ask : Int32} {c : CH} (I : Iv V) (o : okc V c) : ∀ n s s', n ≤ vn V 18 0 → Us V pl ask c s → wiF V (chB c) ask n s = some s' → Us V pl ask c s' ∧ sle s s' ∧ ∀ k, k < n → bt ask k = true → led V c (Rb c s') (Fb c s') (144 + k) ∧ met V c (144 + k) := by
  have w4 := I.2.2.1.1.2
  intro n
  induction n with
  | zero => intro s s' _ U h; rw [← Option.some.inj h]; exact ⟨U, sle_r _, fun k hk => absurd hk (Nat.not_lt_zero _)⟩
  | succ n ih =>
    intro s s' hn U h
    unfold wiF at h
    obtain ⟨t, h1, h2⟩ := Option.bind_eq_some_iff.mp h
    obtain ⟨U1, l1, k1⟩ := ih s t (by omega) U h1
    by_cases e : bt ask n = true
    · rw [if_pos e] at h2
      have q := im_led I o (show 144 + n < 148 by omega) h2
      refine ⟨im_us I o (by omega) (Cls_s.1 n (by omega) e) U1 h2, sle_t l1 (im_le h2), fun k hk ek => ?_⟩
      by_cases en : k = n
      · rw [en]; exact q
      · exact ⟨led_m (k1 k (by omega) ek).1 (im_le h2), (k1 k (by omega) ek).2⟩
    · rw [if_neg e] at h2
      rw [← Option.some.inj h2]
      refine ⟨U1, l1, fun k hk ek => ?_⟩
      by_cases en : k = n
      · rw [en] at ek; exact absurd ek e
      · exact k1 k (by omega) ek
-- where nothing changes
theorem hn_fix {V : VV} {pl p a : Nat} {pool : Int32} {s : RF} : ∀ n, hnF V pl pool p a n s = some s → ∀ j, j < n → isOn V pl s.2 p (4 * a + j) = true → imF V pool (4 * a + j) s = some s := by
  intro n
  induction n with
  | zero => intro _ j hj; omega
  | succ n ih =>
    intro h j hj e
    unfold hnF at h
    obtain ⟨t, h1, h2⟩ := Option.bind_eq_some_iff.mp h
    have l2 : sle t s := by
      split at h2
      · exact im_le h2
      · rw [← Option.some.inj h2]; exact sle_r t
    have et : t = s := sle_a (hn_le _ _ _ h1) l2
    rw [et] at h1 h2
    by_cases ej : j = n
    · rw [ej] at e ⊢
      rw [if_pos e] at h2; exact h2
    · exact ih h1 j (by omega) e
theorem pa_fix {V : VV} {pl : Nat} {pool : Int32} {c : CH} {s : RF} : ∀ n, paF V pl pool c n s = some s → ∀ p, p < n → c p ≠ 0 → bt s.1 (vi c p) = true → hnF V pl pool p (vi c p) (vn V 8 (vi c p)) s = some s := by
  intro n
  induction n with
  | zero => intro _ j hj; omega
  | succ n ih =>
    intro h p hp h0 e
    unfold paF at h
    obtain ⟨t, h1, h2⟩ := Option.bind_eq_some_iff.mp h
    have l2 : sle t s := by
      split at h2
      · exact hn_le _ _ _ h2
      · rw [← Option.some.inj h2]; exact sle_r t
    have et : t = s := sle_a (pa_le _ _ _ h1) l2
    rw [et] at h1 h2
    by_cases ej : p = n
    · rw [ej] at e h0 ⊢
      rw [if_pos (by rw [decide_eq_true h0, e]; rfl)] at h2; exact h2
    · exact ih h1 p (by omega) h0 e
theorem am_x {V : VV} {pl : Nat} {ask : Int32} {c : CH} {s : RF} (I : Iv V) (hl : pl < 3) (o : okc V c) (h : amF V pl (chB c) ask c 0 = some s) : Us V pl ask c s ∧ Cls V pl ask c (Rb c s) (Fb c s) ∧ AllMet V pl ask c := by
  unfold amF at h
  obtain ⟨t, h1, h2⟩ := Option.bind_eq_some_iff.mp h
  have U0 : Us V pl ask c (0, 0) := ⟨fun p _ _ e => (by rw [bt_0] at e; cases e), fun p _ _ b _ e => (by rw [bt_0] at e; cases e), fun i e => (by rw [bt_0] at e; cases e), fun i _ => ⟨bt_0 i, bt_0 i⟩⟩
  obtain ⟨U1, _, k1⟩ := wi_us I o _ _ _ (Nat.le_refl _) U0 h1
  have l := it_le _ _ _ h2
  obtain ⟨U, fx⟩ := it_us I hl o 64 t s U1 h2
  have fx : paF V pl (chB c) c 6 s = some s := fx.resolve_right fun hh => by
    have a := cb_n (bt s.1) 24
    have b := cb_n (bt s.2) 24
    unfold cn24 at hh
    omega
  have N : ∀ p, p < 6 → c p ≠ 0 → bt s.1 (vi c p) = true → ∀ j, j < vn V 8 (vi c p) → act V pl (Fb c s) p (4 * vi c p + j) → led V c (Rb c s) (Fb c s) (4 * vi c p + j) ∧ met V c (4 * vi c p + j) := fun p p6 h0 e j hj ac => by
    obtain ⟨v1, v2, v3, v4, v5⟩ := vi_4 I o p6 h0
    have b8 := (I.1.2.2.1 _ v2).1.2
    have on : isOn V pl s.2 p (4 * vi c p + j) = true := (isOn_a I p6 (by omega) hl).mpr (act_m ac fun b _ f => f.2)
    exact im_led I o (by omega) (hn_fix _ (pa_fix 6 fx p p6 h0 e) j hj on)
  have C : Cls V pl ask c (Rb c s) (Fb c s) := ⟨fun k hk ek => led_m (k1 k hk ek).1 l, fun p p6 h0 hR j hj ac => (N p p6 h0 hR.2 j hj ac).1⟩
  refine ⟨U, C, fun k hk ek => (k1 k hk ek).2, fun p p6 h0 hR j hj ac => ?_⟩
  exact (N p p6 h0 (hR _ _ C).2 j hj (act_m ac fun b _ f => f _ _ C)).2
theorem am_full {V : VV} {pl : Nat} {ask : Int32} {c : CH} (I : Iv V) (hl : pl < 3) (o : okc V c) : (∃ s, amF V pl (chB c) ask c 0 = some s ∧ s.1 = chB c) ↔ AllMet V pl ask c ∧ ∀ p, p < 6 → c p ≠ 0 → Rs V pl ask c p := by
  constructor
  · intro ⟨s, h, e⟩
    obtain ⟨U, C, A⟩ := am_x I hl o h
    exact ⟨A, fun p p6 h0 => U.1 p p6 h0 (by rw [e]; exact (bt_ch I o).mpr ⟨p, p6, h0, rfl⟩)⟩
  · intro ⟨A, hR⟩
    obtain ⟨s, h⟩ := am_snd (pool := chB c) (r0 := 0) (c' := c) I hl o A hR (fun p p6 h0 => (bt_ch I o).mpr ⟨p, p6, h0, rfl⟩) (fun _ _ _ => rfl)
    obtain ⟨U, C, _⟩ := am_x I hl o h
    refine ⟨s, h, bt_eq U.2.2.1 fun i e => ?_⟩
    obtain ⟨p, p6, h0, ei⟩ := (bt_ch I o).mp e
    rw [ei]
    exact (hR p p6 h0 _ _ C).2
