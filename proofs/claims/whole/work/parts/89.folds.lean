-- within reach; the fold over choices; the order of versions
def ldI (V : VV) (pl i : Nat) : Nat → Int32
  | 0 => 0
  | j + 1 => if (V 11 (4 * i + j) &&& ((1 : Int32) <<< (nI pl &&& 31))) = 0 then ldI V pl i j else ldI V pl i j ||| mbI V (4 * i + j)
def wpF (V : VV) (pl : Nat) (pmv : Int32) : Nat → Int32 → Int32
  | 0, x => x
  | i + 1, x => if bt (wpF V pl pmv i x) i then wpF V pl pmv i x ||| (ldI V pl i (vn V 8 i) &&& pmv) else wpF V pl pmv i x
def wtF (V : VV) (pl : Nat) (pmv : Int32) : Nat → Int32 → Int32
  | 0, x => x
  | n + 1, x => if wpF V pl pmv 24 x = x then wpF V pl pmv 24 x else wtF V pl pmv n (wpF V pl pmv 24 x)
def w0F (V : VV) (ask pmv : Int32) : Nat → Int32
  | 0 => 0
  | k + 1 => if bt ask k then w0F V ask pmv k ||| (mbI V (144 + k) &&& pmv) else w0F V ask pmv k
def pmI (V : VV) (pl : Nat) (ul : Nat → Bool) : Int32 := ob (pm V pl ul) 24
theorem bt_pm {V : VV} {pl i : Nat} {ul : Nat → Bool} : bt (pmI V pl ul) i = pm V pl ul i := by
  unfold pmI
  rw [bt_ob 24 (by decide)]
  unfold pm
  by_cases e : i < 24
  · rw [decide_eq_true e, Bool.true_and, Bool.true_and]
  · rw [decide_eq_false e]; rfl
def wrF (V : VV) (pl : Nat) (ask pmv : Int32) : Int32 := wtF V pl pmv 64 (w0F V ask pmv (vn V 18 0))
def ble (x y : Int32) : Prop := ∀ i, bt x i = true → bt y i = true
theorem ble_o {x y : Int32} : ble x (x ||| y) := fun i e => by rw [bt_or, e]; rfl
theorem wp_le {V : VV} {pl : Nat} {pmv x : Int32} : ∀ n, ble x (wpF V pl pmv n x) := by
  intro n
  induction n with
  | zero => exact fun _ h => h
  | succ n ih =>
    unfold wpF
    split
    · exact fun i h => ble_o i (ih i h)
    · exact ih
theorem wt_le {V : VV} {pl : Nat} {pmv : Int32} : ∀ n x, ble x (wtF V pl pmv n x) := by
  intro n
  induction n with
  | zero => exact fun x _ h => h
  | succ n ih =>
    intro x
    unfold wtF
    split
    · exact wp_le 24
    · exact fun i h => ih _ i (wp_le 24 i h)
theorem wp_fix {V : VV} {pl : Nat} {pmv x : Int32} : ∀ n, wpF V pl pmv n x = x → ∀ i, i < n → bt x i = true → ble (ldI V pl i (vn V 8 i) &&& pmv) x := by
  intro n
  induction n with
  | zero => intro _ i hi; omega
  | succ n ih =>
    intro h i hi e
    have l : ble (wpF V pl pmv n x) (wpF V pl pmv (n + 1) x) := by
      show ble (wpF V pl pmv n x) (if bt (wpF V pl pmv n x) n then wpF V pl pmv n x ||| (ldI V pl n (vn V 8 n) &&& pmv) else wpF V pl pmv n x)
      split
      · exact ble_o
      · exact fun _ h => h
    rw [h] at l
    have et : wpF V pl pmv n x = x := bt_eq l (wp_le n)
    unfold wpF at h
    rw [et] at h
    by_cases ej : i = n
    · rw [ej] at e ⊢
      rw [if_pos e] at h
      intro k hk
      rw [← h, bt_or, hk, Bool.or_true]
    · exact ih et i (by omega) e
theorem wp_24 {V : VV} {pl : Nat} {ul : Nat → Bool} {x : Int32} (h : ble x (pmI V pl ul)) : ∀ n, ble (wpF V pl (pmI V pl ul) n x) (pmI V pl ul) := by
  intro n
  induction n with
  | zero => exact h
  | succ n ih =>
    unfold wpF
    split
    · intro i e
      rw [bt_or, Bool.or_eq_true, bt_and, Bool.and_eq_true] at e
      exact e.elim (ih i) fun e => e.2
    · exact ih
theorem pm_24 {V : VV} {pl i : Nat} {ul : Nat → Bool} (h : pm V pl ul i = true) : i < 24 ∧ usb V i = true := by
  unfold pm at h
  rw [Bool.and_eq_true, Bool.and_eq_true] at h
  exact ⟨of_decide_eq_true h.1, h.2.1⟩
theorem wt_fix {V : VV} {pl : Nat} {ul : Nat → Bool} : ∀ n x, ble x (pmI V pl ul) → ble (wtF V pl (pmI V pl ul) n x) (pmI V pl ul) ∧ (wpF V pl (pmI V pl ul) 24 (wtF V pl (pmI V pl ul) n x) = wtF V pl (pmI V pl ul) n x ∨ n + cb (bt x) 24 ≤ cb (bt (wtF V pl (pmI V pl ul) n x)) 24) := by
  intro n
  induction n with
  | zero => intro x h; exact ⟨h, .inr (by rw [Nat.zero_add]; exact Nat.le_refl _)⟩
  | succ n ih =>
    intro x h
    have p := wp_24 h 24
    unfold wtF
    by_cases e : wpF V pl (pmI V pl ul) 24 x = x
    · rw [if_pos e, e]; exact ⟨h, .inl e⟩
    · rw [if_neg e]
      obtain ⟨a, b⟩ := ih _ p
      refine ⟨a, b.elim .inl fun b => .inr ?_⟩
      have l := wp_le (V := V) (pl := pl) (pmv := pmI V pl ul) (x := x) 24
      have : ∃ i, bt (wpF V pl (pmI V pl ul) 24 x) i = true ∧ bt x i = false := Classical.byContradiction fun hh => e (bt_eq (fun i hy => by
        cases hx : bt x i
        · exact absurd ⟨i, hy, hx⟩ hh
        · rfl) l)
      obtain ⟨i, h1, h2⟩ := this
      have := cb_lt l h1 h2 24 (pm_24 (bt_pm.symm.trans (p i h1))).1
      omega
theorem w0_le {V : VV} {ask pmv : Int32} : ∀ n, ble (w0F V ask pmv n) pmv ∧ ∀ k, k < n → bt ask k = true → ble (mbI V (144 + k) &&& pmv) (w0F V ask pmv n) := by
  intro n
  induction n with
  | zero => exact ⟨fun i e => by (have e : bt 0 i = true := e; rw [bt_0] at e; cases e), fun k hk => absurd hk (Nat.not_lt_zero _)⟩
  | succ n ih =>
    obtain ⟨a, b⟩ := ih
    unfold w0F
    by_cases e : bt ask n = true
    · rw [if_pos e]
      refine ⟨fun i e => ?_, fun k hk ek i hi => ?_⟩
      · rw [bt_or, Bool.or_eq_true, bt_and, Bool.and_eq_true] at e
        exact e.elim (a i) fun e => e.2
      · rw [bt_or]
        by_cases en : k = n
        · rw [en] at hi; rw [hi, Bool.or_true]
        · rw [b k (by omega) ek i hi]; rfl
    · rw [if_neg e]
      refine ⟨a, fun k hk ek => ?_⟩
      by_cases en : k = n
      · rw [en] at ek; exact absurd ek e
      · exact b k (by omega) ek
theorem ld_i {V : VV} {pl i : Nat} (hl : pl < 3) : ∀ n j, j < n → bt (V 11 (4 * i + j)) pl = true → ble (mbI V (4 * i + j)) (ldI V pl i n) := by
  intro n
  induction n with
  | zero => intro j hj; omega
  | succ n ih =>
    intro j hj e k hk
    unfold ldI
    have nz : ∀ x : Int32, bt x pl = true → ¬ (x &&& ((1 : Int32) <<< (nI pl &&& 31))) = 0 := fun x h hh => by
      have := bt_and_z.mp hh pl (by omega) h
      rw [bt_one (by omega), decide_eq_true rfl] at this
      cases this
    by_cases ej : j = n
    · rw [ej] at e hk
      rw [if_neg (nz _ e), bt_or, hk, Bool.or_true]
    · have := ih j (by omega) e k hk
      split
      · exact this
      · rw [bt_or, this]; rfl
theorem wr_snd {V : VV} {pl : Nat} {ul : Nat → Bool} {ask : Int32} {c : CH} (I : Iv V) (hl : pl < 3) (o : okc V c) (C : Clo V pl ul ask c) : ble (wrF V pl ask (pmI V pl ul)) (pmI V pl ul) ∧ ∀ p, p < 6 → c p ≠ 0 → bt (wrF V pl ask (pmI V pl ul)) (vi c p) = true := by
  obtain ⟨C1, C2, C3, C4⟩ := C
  have w0 := w0_le (V := V) (ask := ask) (pmv := pmI V pl ul) (vn V 18 0)
  obtain ⟨a, b⟩ := wt_fix 64 _ w0.1
  have l := wt_le (V := V) (pl := pl) (pmv := pmI V pl ul) 64 (w0F V ask (pmI V pl ul) (vn V 18 0))
  have fx := b.resolve_right fun hh => by
    have := cb_n (bt (wtF V pl (pmI V pl ul) 64 (w0F V ask (pmI V pl ul) (vn V 18 0)))) 24
    omega
  unfold wrF
  refine ⟨a, fun p p6 h0 => ?_⟩
  refine (C4 p p6 h0 (fun p => c p ≠ 0 ∧ bt (wtF V pl (pmI V pl ul) 64 (w0F V ask (pmI V pl ul) (vn V 18 0))) (vi c p) = true) (fun _ _ => True) ⟨fun k hk ek => ⟨fun p' hp' m => ?_, fun _ _ _ _ => trivial⟩, fun p' hp' h0' hR j hj ac => ⟨fun p2 hp2 m => ?_, fun _ _ _ _ => trivial⟩⟩).2
  · unfold mtc at m
    rw [Bool.and_eq_true, decide_eq_true_eq] at m
    refine ⟨m.1, l _ (w0.2 k hk ek _ ?_)⟩
    rw [bt_and, bt_mb, m.2, bt_pm, C1 p' hp' m.1]; rfl
  · unfold mtc at m
    rw [Bool.and_eq_true, decide_eq_true_eq] at m
    obtain ⟨v1, v2, v3, v4, v5⟩ := vi_4 I o hp' h0'
    refine ⟨m.1, wp_fix 24 fx _ v2 hR.2 _ ?_⟩
    rw [bt_and, bt_pm, C1 p2 hp2 m.1, Bool.and_true]
    exact ld_i hl _ j hj ac.1 _ (by rw [bt_mb]; exact m.2)
-- folds
def fl {σ : Type} (f : Nat → σ → σ) : Nat → σ → σ
  | 0, s => s
  | n + 1, s => f n (fl f n s)
theorem fl_add {σ : Type} (f : Nat → σ → σ) (m : Nat) (s : σ) : ∀ n, fl f (m + n) s = fl (fun j => f (m + j)) n (fl f m s) := by
  intro n
  induction n with
  | zero => rfl
  | succ n ih =>
    show f (m + n) (fl f (m + n) s) = _
    rw [ih]; rfl
theorem fl_c {σ : Type} {f g : Nat → σ → σ} {s : σ} : ∀ n, (∀ j, j < n → ∀ s, f j s = g j s) → fl f n s = fl g n s := by
  intro n
  induction n with
  | zero => intro _; rfl
  | succ n ih =>
    intro h
    show f n (fl f n s) = g n (fl g n s)
    rw [ih fun j hj => h j (by omega), h n (by omega)]
theorem fl_mul {σ : Type} (f : Nat → σ → σ) (b : Nat) (s : σ) : ∀ a, fl f (a * b) s = fl (fun i s => fl (fun j => f (i * b + j)) b s) a s := by
  intro a
  induction a with
  | zero => rw [Nat.zero_mul]; rfl
  | succ a ih =>
    rw [Nat.succ_mul, fl_add, ih]; rfl
theorem fl_id {σ : Type} {f : Nat → σ → σ} {s : σ} : ∀ n, (∀ j, j < n → f j s = s) → fl f n s = s := by
  intro n
  induction n with
  | zero => intro _; rfl
  | succ n ih =>
    intro h
    show f n (fl f n s) = s
    rw [ih fun j hj => h j (by omega)]; exact h n (by omega)
-- the order of versions
def Ky (V : VV) (p k : Nat) : Nat := 4 * kyN (vn V 1 p) (vn V 3 (4 * p + k)) + k
def abv (V : VV) (p k : Nat) : Nat := cb (fun j => decide (Ky V p k < Ky V p j)) (vn V 2 p)
def odK (V : VV) (p d : Nat) : Nat → Nat
  | 0 => 0
  | k + 1 => if abv V p k = d then k else odK V p d k
def od (V : VV) (p d : Nat) : Nat := odK V p d (vn V 2 p)
theorem cb_1 : ∀ n, cb (fun _ => true) n = n := by
  intro n
  induction n with
  | zero => rfl
  | succ n ih => unfold cb; rw [ih]; rfl
theorem abv_b {V : VV} {p k : Nat} (hk : k < vn V 2 p) : abv V p k < vn V 2 p := by
  unfold abv
  have := cb_lt (f := fun j => decide (Ky V p k < Ky V p j)) (g := fun _ => true) (fun _ _ => rfl) (j := k) rfl (decide_eq_false (Nat.lt_irrefl _)) (vn V 2 p) hk
  rw [cb_1] at this
  exact this
theorem abv_lt {V : VV} {p k k' : Nat} (hk : k < vn V 2 p) (h : Ky V p k' < Ky V p k) : abv V p k < abv V p k' := by
  unfold abv
  refine cb_lt (fun i e => ?_) (j := k) (decide_eq_true h) (decide_eq_false (Nat.lt_irrefl _)) _ hk
  have := of_decide_eq_true e
  exact decide_eq_true (by omega)
theorem Ky_i {V : VV} {p k k' : Nat} (hk : k < 4) (hk' : k' < 4) (h : Ky V p k = Ky V p k') : k = k' := by
  unfold Ky at h
  omega
theorem abv_i {V : VV} {p k k' : Nat} (h4 : vn V 2 p ≤ 4) (hk : k < vn V 2 p) (hk' : k' < vn V 2 p) (h : abv V p k = abv V p k') : k = k' := by
  refine Ky_i (V := V) (p := p) (by omega) (by omega) ?_
  rcases Nat.lt_trichotomy (Ky V p k) (Ky V p k') with q | q | q
  · have := abv_lt hk' q; omega
  · exact q
  · have := abv_lt hk q; omega
def pgb (a b c e d : Nat) : Bool := a == b || (a == c || (a == e || (b == c || (b == e || (c == e || (d == a || (d == b || (d == c || d == e))))))))
theorem pgx : ∀ x, x < 1024 → pgb (x % 4) (x / 4 % 4) (x / 16 % 4) (x / 64 % 4) (x / 256 % 4) = true := by decide +kernel
theorem pg4 (a : Nat) (ha : a < 4) (b : Nat) (hb : b < 4) (c : Nat) (hc : c < 4) (e : Nat) (he : e < 4) (d : Nat) (hd : d < 4) : a = b ∨ a = c ∨ a = e ∨ b = c ∨ b = e ∨ c = e ∨ d = a ∨ d = b ∨ d = c ∨ d = e := by
  have h := pgx (a + 4 * b + 16 * c + 64 * e + 256 * d) (by omega)
  rw [show (a + 4 * b + 16 * c + 64 * e + 256 * d) % 4 = a by omega, show (a + 4 * b + 16 * c + 64 * e + 256 * d) / 4 % 4 = b by omega, show (a + 4 * b + 16 * c + 64 * e + 256 * d) / 16 % 4 = c by omega, show (a + 4 * b + 16 * c + 64 * e + 256 * d) / 64 % 4 = e by omega, show (a + 4 * b + 16 * c + 64 * e + 256 * d) / 256 % 4 = d by omega] at h
  unfold pgb at h
  simpa only [Bool.or_eq_true, beq_iff_eq] using h
def pgc (a b c d : Nat) : Bool := a == b || (a == c || (b == c || (d == a || (d == b || d == c))))
theorem pgy : ∀ x, x < 81 → pgc (x % 3) (x / 3 % 3) (x / 9 % 3) (x / 27 % 3) = true := by decide +kernel
theorem pg3 (a : Nat) (ha : a < 3) (b : Nat) (hb : b < 3) (c : Nat) (hc : c < 3) (d : Nat) (hd : d < 3) : a = b ∨ a = c ∨ b = c ∨ d = a ∨ d = b ∨ d = c := by
  have h := pgy (a + 3 * b + 9 * c + 27 * d) (by omega)
  rw [show (a + 3 * b + 9 * c + 27 * d) % 3 = a by omega, show (a + 3 * b + 9 * c + 27 * d) / 3 % 3 = b by omega, show (a + 3 * b + 9 * c + 27 * d) / 9 % 3 = c by omega, show (a + 3 * b + 9 * c + 27 * d) / 27 % 3 = d by omega] at h
  unfold pgc at h
  simpa only [Bool.or_eq_true, beq_iff_eq] using h
theorem abv_s {V : VV} {p d : Nat} (h4 : vn V 2 p ≤ 4) (hd : d < vn V 2 p) : ∃ k, k < vn V 2 p ∧ abv V p k = d := by
  have i : ∀ k k', k < vn V 2 p → k' < vn V 2 p → abv V p k = abv V p k' → k = k' := fun k k' a b => abv_i h4 a b
  have b : ∀ k, k < vn V 2 p → abv V p k < vn V 2 p := fun k hk => abv_b hk
  generalize vn V 2 p = n at h4 hd i b
  have hn : n = 1 ∨ n = 2 ∨ n = 3 ∨ n = 4 := by omega
  have e : ∀ k, k < n → d = abv V p k → ∃ k, k < n ∧ abv V p k = d := fun k hk e => ⟨k, hk, e.symm⟩
  have x : ∀ k k', k < n → k' < n → k ≠ k' → abv V p k = abv V p k' → ∃ k, k < n ∧ abv V p k = d := fun k k' h h' hne e => absurd (i k k' h h' e) hne
  rcases hn with hn | hn | hn | hn
  · subst hn
    exact e 0 (by decide) (by have := b 0 (by decide); omega)
  · subst hn
    have b0 := b 0 (by decide)
    have b1 := b 1 (by decide)
    have ne : abv V p 0 ≠ abv V p 1 := fun h => absurd (i 0 1 (by decide) (by decide) h) (by decide)
    by_cases h : d = abv V p 0
    · exact e 0 (by decide) h
    · exact e 1 (by decide) (by omega)
  · subst hn
    rcases pg3 _ (b 0 (by decide)) _ (b 1 (by decide)) _ (b 2 (by decide)) d hd with h | h | h | h | h | h
    · exact x 0 1 (by decide) (by decide) (by decide) h
    · exact x 0 2 (by decide) (by decide) (by decide) h
    · exact x 1 2 (by decide) (by decide) (by decide) h
    · exact e 0 (by decide) h
    · exact e 1 (by decide) h
    · exact e 2 (by decide) h
  · subst hn
    rcases pg4 _ (b 0 (by decide)) _ (b 1 (by decide)) _ (b 2 (by decide)) _ (b 3 (by decide)) d hd with h | h | h | h | h | h | h | h | h | h
    · exact x 0 1 (by decide) (by decide) (by decide) h
    · exact x 0 2 (by decide) (by decide) (by decide) h
    · exact x 0 3 (by decide) (by decide) (by decide) h
    · exact x 1 2 (by decide) (by decide) (by decide) h
    · exact x 1 3 (by decide) (by decide) (by decide) h
    · exact x 2 3 (by decide) (by decide) (by decide) h
    · exact e 0 (by decide) h
    · exact e 1 (by decide) h
    · exact e 2 (by decide) h
    · exact e 3 (by decide) h
theorem od_x {V : VV} {p d : Nat} (h4 : vn V 2 p ≤ 4) (hd : d < vn V 2 p) : od V p d < vn V 2 p ∧ abv V p (od V p d) = d := by
  obtain ⟨k, hk, e⟩ := abv_s h4 hd
  have : ∀ n, k < n → odK V p d n < n ∧ abv V p (odK V p d n) = d := by
    intro n
    induction n with
    | zero => intro h; omega
    | succ n ih =>
      intro h
      unfold odK
      by_cases e2 : abv V p n = d
      · rw [if_pos e2]; exact ⟨by omega, e2⟩
      · rw [if_neg e2]
        have : k ≠ n := fun h => e2 (by rw [← h]; exact e)
        have := ih (by omega)
        exact ⟨by omega, this.2⟩
  exact this _ hk
theorem od_a {V : VV} {p k : Nat} (h4 : vn V 2 p ≤ 4) (hk : k < vn V 2 p) : od V p (abv V p k) = k := by
  obtain ⟨a, b⟩ := od_x h4 (abv_b hk)
  exact abv_i h4 a hk b
/-- the versions in the order of trials: 0 for none -/
def dgt (V : VV) (p d : Nat) : Nat := if d = 0 then 0 else od V p (d - 1) + 1
theorem dgt_b {V : VV} {p d : Nat} (h4 : vn V 2 p ≤ 4) (hd : d ≤ vn V 2 p) : dgt V p d ≤ vn V 2 p := by
  unfold dgt
  split
  · omega
  · have := (od_x (V := V) (p := p) (d := d - 1) h4 (by omega)).1; omega
def ud (c : CH) (p x : Nat) : CH := fun j => if j = p then x else c j
theorem ud_s (c : CH) (p x : Nat) : ud c p x p = x := if_pos rfl
theorem ud_n (c : CH) (p x : Nat) {j : Nat} (h : j ≠ p) : ud c p x j = c j := if_neg h
def gF {σ : Type} (V : VV) (step : CH → σ → σ) : Nat → Nat → CH → σ → σ
  | 0, _, c, s => step c s
  | n + 1, p, c, s => fl (fun d s => gF V step n (p + 1) (ud c p (dgt V p d)) s) (vn V 2 p + 1) s
theorem gF_id {σ : Type} {V : VV} {step : CH → σ → σ} (I : Iv V) {s : σ} : ∀ n p c, p + n = 6 → (∀ c' : CH, (∀ j, j < p → c' j = c j) → (∀ j, p ≤ j → j < 6 → c' j ≤ vn V 2 j) → step c' s = s) → gF V step n p c s = s := by
  intro n
  induction n with
  | zero => intro p c hp h; exact h c (fun _ _ => rfl) (fun j a b => by omega)
  | succ n ih =>
    intro p c hp h
    have h4 := (I.1.1 p (by omega)).2.2
    unfold gF
    refine fl_id _ fun d hd => ih (p + 1) _ (by omega) fun c' a b => h c' (fun j hj => (a j (by omega)).trans (ud_n _ _ _ (by omega))) fun j h1 h2 => ?_
    by_cases e : j = p
    · rw [e, a p (by omega), ud_s]; exact dgt_b h4 (by omega)
    · exact b j (by omega) h2
-- codes
def dOK (V : VV) : Nat → Nat → Nat → Bool
  | 0, _, _ => true
  | n + 1, p, code => decide (code / 5 ^ n ≤ vn V 2 p) && dOK V n (p + 1) (code % 5 ^ n)
def cOf (V : VV) : Nat → Nat → CH → Nat → CH
  | 0, _, c, _ => c
  | n + 1, p, c, code => cOf V n (p + 1) (ud c p (dgt V p (code / 5 ^ n))) (code % 5 ^ n)
theorem gF_code {σ : Type} {V : VV} {step : CH → σ → σ} (I : Iv V) : ∀ n p c s, p + n = 6 → fl (fun code s => if dOK V n p code then step (cOf V n p c code) s else s) (5 ^ n) s = gF V step n p c s := by
  intro n
  induction n with
  | zero => intro p c s _; rfl
  | succ n ih =>
    intro p c s hp
    have h4 := (I.1.1 p (by omega)).2.2
    have pos : 0 < 5 ^ n := Nat.pow_pos (by decide)
    rw [Nat.pow_succ, Nat.mul_comm, fl_mul]
    have X : ∀ d s, fl (fun j => (fun code s => if dOK V (n + 1) p code then step (cOf V (n + 1) p c code) s else s) (d * 5 ^ n + j)) (5 ^ n) s = if d ≤ vn V 2 p then gF V step n (p + 1) (ud c p (dgt V p d)) s else s := fun d s => by
      have e1 : ∀ j, j < 5 ^ n → (d * 5 ^ n + j) / 5 ^ n = d ∧ (d * 5 ^ n + j) % 5 ^ n = j := fun j hj => by
        rw [Nat.mul_comm, Nat.mul_add_div pos, Nat.div_eq_of_lt hj, Nat.mul_add_mod, Nat.mod_eq_of_lt hj]
        exact ⟨rfl, rfl⟩
      by_cases h : d ≤ vn V 2 p
      · rw [if_pos h, ← ih (p + 1) (ud c p (dgt V p d)) s (by omega)]
        refine fl_c _ fun j hj s => ?_
        show (if (decide ((d * 5 ^ n + j) / 5 ^ n ≤ vn V 2 p) && dOK V n (p + 1) ((d * 5 ^ n + j) % 5 ^ n)) = true then step (cOf V n (p + 1) (ud c p (dgt V p ((d * 5 ^ n + j) / 5 ^ n))) ((d * 5 ^ n + j) % 5 ^ n)) s else s) = _
        rw [(e1 j hj).1, (e1 j hj).2, decide_eq_true h, Bool.true_and]
      · rw [if_neg h]
        refine fl_id _ fun j hj => ?_
        show (if (decide ((d * 5 ^ n + j) / 5 ^ n ≤ vn V 2 p) && dOK V n (p + 1) ((d * 5 ^ n + j) % 5 ^ n)) = true then step (cOf V n (p + 1) (ud c p (dgt V p ((d * 5 ^ n + j) / 5 ^ n))) ((d * 5 ^ n + j) % 5 ^ n)) s else s) = s
        rw [(e1 j hj).1, decide_eq_false h, Bool.false_and]
        exact if_neg (by decide)
    rw [fl_c 5 (fun d _ s => X d s)]
    show fl (fun d s => if d ≤ vn V 2 p then gF V step n (p + 1) (ud c p (dgt V p d)) s else s) 5 s = fl (fun d s => gF V step n (p + 1) (ud c p (dgt V p d)) s) (vn V 2 p + 1) s
    rw [show 5 = (vn V 2 p + 1) + (4 - vn V 2 p) by omega, fl_add]
    refine (fl_id _ fun j hj => ?_).trans (fl_c _ fun d hd s => if_pos (by omega))
    exact if_neg (by omega)
