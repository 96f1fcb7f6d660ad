-- the class studies: what is known behind it
/-- the solver's own cells, and what a need keeps of it -/
def SF (S S1 : xm_S) : Prop := (∀ n, st_t S1 n = st_t S n) ∧ (∀ n k, ¬ (n = 16 ∧ k < 2) → st_r S1 n k = st_r S n k) ∧ (∀ n k, st_l S1 n k = st_l S n k) ∧ ∀ n k, ¬ (16 ≤ n ∧ n ≤ 21) → ¬ (k = 5 ∧ st_t S n = some (4, 0) ∧ ¬ (1000 ≤ n ∧ n < 1200)) → st_i S1 n k = st_i S n k
theorem SF_r (S : xm_S) : SF S S := ⟨fun _ => rfl, fun _ _ _ => rfl, fun _ _ => rfl, fun _ _ _ _ => rfl⟩
theorem SF_t {S S1 S2 : xm_S} (h : SF S S1) (h2 : SF S1 S2) : SF S S2 := ⟨fun n => (h2.1 n).trans (h.1 n), fun n k e => (h2.2.1 n k e).trans (h.2.1 n k e), fun n k => (h2.2.2.1 n k).trans (h.2.2.1 n k), fun n k e1 e2 => (h2.2.2.2 n k e1 (fun hh => e2 ⟨hh.1, (h.1 n).symm.trans hh.2.1, hh.2.2⟩)).trans (h.2.2.2 n k e1 e2)⟩
theorem SF_i {S S1 : xm_S} {n k : Nat} {v : Int32} (h : SF S S1) (hn : 16 ≤ n ∧ n ≤ 21) : SF S (st_pi S1 n k v) := SF_t h ⟨fun _ => rfl, fun _ _ _ => rfl, fun _ _ => rfl, fun m j e1 _ => st_i_pi_n _ _ _ _ _ _ (fun hh => e1 (by rw [hh.1]; exact hn))⟩
theorem SF_5 {S S1 : xm_S} {n : Nat} {v : Int32} (h : SF S S1) (ht : st_t S1 n = some (4, 0)) (hn : ¬ (1000 ≤ n ∧ n < 1200)) : SF S (st_pi S1 n 5 v) := SF_t h ⟨fun _ => rfl, fun _ _ _ => rfl, fun _ _ => rfl, fun m j _ e2 => st_i_pi_n _ _ _ _ _ _ (fun hh => e2 (by rw [hh.1]; exact ⟨hh.2, ht, hn⟩))⟩
theorem SF_p {S S1 : xm_S} {k : Nat} {v : Option Nat} (h : SF S S1) (hk : k < 2) : SF S (st_pr S1 16 k v) := SF_t h ⟨fun _ => rfl, fun m j e => st_r_pr_n _ _ _ _ _ _ (fun hh => e ⟨hh.1, by rw [hh.2]; exact hk⟩), fun _ _ => rfl, fun _ _ _ _ => rfl⟩
theorem SF_CR {S S1 : xm_S} {V : VV} {N : Nat} (h : SF S S1) (C : CR S V N) (I : Iv V) : CR S1 V N := by
  refine CR_X C I (fun n hn => ⟨KX_ty (h.1 n), fun k hk => h.2.1 n k fun hh => ?_, fun k hk => ?_⟩) (Nat.le_refl _) (fun n hn => (h.1 n).trans (C.2.1 n hn))
  · unfold ERs at hk
    rw [hh.1] at hk
    have : k = 0 ∨ k = 1 := by omega
    rcases this with e | e
    · rw [e] at hk; cases hk
    · rw [e] at hk; cases hk
  · by_cases e : k = 5 ∧ st_t S n = some (4, 0)
    · exact .inl e
    · refine .inr (h.2.2.2 n k (fun hh => ?_) fun hh => e ⟨hh.1, hh.2.1⟩)
      unfold EIs at hk
      rw [decide_eq_true hh, Bool.or_true, Bool.true_or] at hk
      cases hk
theorem SF_RR {S S1 : xm_S} {V W : VV} {N : Nat} (h : SF S S1) (R : RR S V W N) (I : Iv V) : RR S1 V W N := ⟨SF_CR h R.1 I, MR_K R.2.1 (fun n a b => ⟨h.1 n, fun k => h.2.1 n k (by omega), fun k => h.2.2.1 n k, fun k => h.2.2.2 n k (by omega) (fun hh => hh.2.2 ⟨a, b⟩)⟩), (h.1 _).trans R.2.2⟩
-- enemies
/-- of each version's conflicts the first ones are looked at -/
def enC (V : VV) (S : xm_S) (ct : Nat → Nat) : Prop := ∀ i, i < 24 → ∀ k, bt (st_i S 17 i) k = (cfK V i k (ct i) || cfK V k i (ct k))
def bI15 : ∀ k, k < 32 → bt (nI 15) k = decide (k < 4) := by decide +kernel
theorem bt_bits {p k : Nat} (hp : p < 6) : bt ((nI 15) <<< (nI (4 * p) &&& 31)) k = decide (k / 4 = p) := by
  rw [bt_sl (by omega)]
  by_cases h : k < 32
  · rw [decide_eq_true h, Bool.true_and]
    by_cases h2 : 4 * p ≤ k
    · rw [decide_eq_true h2, Bool.true_and, bI15 _ (by omega)]
      by_cases h3 : k / 4 = p
      · rw [decide_eq_true h3, decide_eq_true (by omega)]
      · rw [decide_eq_false h3, decide_eq_false (by omega)]
    · rw [decide_eq_false h2, Bool.false_and, decide_eq_false (by omega)]
  · rw [decide_eq_false h, Bool.false_and, Bool.false_and, decide_eq_false (by omega)]
theorem c_part {S : xm_S} {p v : Nat} {x : Int32} {g : xm_S → Prop} (s16 : st_t S 16 = some (7, 0)) (r4 : st_r S 16 4 = some 17) (t17 : st_t S 17 = some (100, 24)) (hp : p < 6) (hv : v < 4) (h : ∀ S', SF S S' → (∀ n k, n ≠ 17 → st_i S' n k = st_i S n k) → (∀ n k, st_r S' n k = st_r S n k) → (∀ i, i < 24 → ∀ k, bt (st_i S' 17 i) k = (bt (st_i S 17 i) k || (decide (i = 4 * p + v) && bt x k) || (decide (k = 4 * p + v) && bt x i))) → g S') : wp_X7_part 16 (nI p) (nI v) x S g := by
  unfold wp_X7_part
  rw [pk_mul, nI_add, nI_clamp (show p * 4 + v < 2 ^ 31 by omega), show p * 4 + v = 4 * p + v by omega]
  refine ⟨s16, 17, r4, _, t17, vp_in_nI (show 4 * p + v < 24 by omega) (by decide), 17, r4, _, t17, vp_in_nI (show 4 * p + v < 24 by omega) (by decide), fun S29 e29 => ?_⟩
  unfold wp_X7_part_17
  intro Z hZ
  have H : ∀ d i S1, i + d = 24 → SF S S1 → (∀ n k, n ≠ 17 → st_i S1 n k = st_i S n k) → (∀ n k, st_r S1 n k = st_r S n k) → (∀ j, j < 24 → ∀ k, bt (st_i S1 17 j) k = (bt (st_i S 17 j) k || (decide (j = 4 * p + v) && bt x k) || (decide (k = 4 * p + v) && (decide (j < i) && bt x j)))) → Z (nI p) (nI v) x (nI i) S1 := by
    intro d
    induction d with
    | zero =>
      intro i S1 hi F f1 f2 f3
      refine hZ _ _ _ _ _ ?_
      unfold wp_X7_part_17B
      rw [show i = 24 by omega] at f3 ⊢
      refine ⟨fun _ => h S1 F f1 f2 fun j hj k => ?_, fun e => absurd (nI_le (Nat.le_refl 24) (by decide)) e⟩
      rw [f3 j hj k, decide_eq_true hj, Bool.true_and]
    | succ d ih =>
      intro i S1 hi F f1 f2 f3
      have ih := fun S' => ih (i + 1) S' (by omega)
      refine hZ _ _ _ _ _ ?_
      unfold wp_X7_part_17B wp_X7_part_48 wp_X7_bitOf
      rw [b1_z (show i < 32 by omega), nI_clamp (show i < 2 ^ 31 by omega), pk_mul, nI_add, show p * 4 + v = 4 * p + v by omega]
      refine ⟨fun e => absurd e (nI_ge (show i < 24 by omega) (by decide)), fun _ => ⟨fun e y ey => ?_, fun e => ⟨(F.1 _).trans s16, 17, (f2 _ _).trans r4, _, (F.1 _).trans t17, vp_in_nI (show i < 24 by omega) (by decide), 17, (f2 _ _).trans r4, _, (F.1 _).trans t17, vp_in_nI (show i < 24 by omega) (by decide), fun S16 e16 y ey => ?_⟩⟩⟩
      · rw [ey, nI_1]
        refine ih S1 F f1 f2 fun j hj k => ?_
        rw [f3 j hj k]
        by_cases ej : j = i
        · rw [ej, e, Bool.and_false, Bool.and_false, Bool.and_false, Bool.and_false]
        · rw [show decide (j < i + 1) = decide (j < i) by by_cases h3 : j < i; rw [decide_eq_true h3, decide_eq_true (by omega)]; rw [decide_eq_false h3, decide_eq_false (by omega)]]
      · rw [ey, nI_1]
        have e : bt x i = true := by cases h2 : bt x i; exact absurd h2 e; rfl
        refine ih S16 (by rw [e16]; exact SF_i F (by decide)) (fun n k hn => by rw [e16, st_i_pi_n _ _ _ _ _ _ (by omega)]; exact f1 n k hn) (fun n k => by rw [e16, st_r_pi]; exact f2 n k) fun j hj k => ?_
        by_cases ej : j = i
        · rw [ej, e16, st_i_pi_s, bt_or, f3 i (by omega) k, bt_one (by omega), decide_eq_false (Nat.lt_irrefl i), decide_eq_true (show i < i + 1 by omega), e]
          simp
        · rw [e16, st_i_pi_n _ _ _ _ _ _ (by omega), f3 j hj k]
          rw [show decide (j < i + 1) = decide (j < i) by by_cases h3 : j < i; rw [decide_eq_true h3, decide_eq_true (by omega)]; rw [decide_eq_false h3, decide_eq_false (by omega)]]
  refine H 24 0 S29 rfl (by rw [e29]; exact SF_i (SF_r S) (by decide)) (fun n k hn => by rw [e29, st_i_pi_n _ _ _ _ _ _ (by omega)]) (fun n k => by rw [e29]; rfl) fun j hj k => ?_
  rw [decide_eq_false (Nat.not_lt_zero j), Bool.false_and, Bool.and_false, Bool.or_false]
  by_cases ej : j = 4 * p + v
  · rw [ej, e29, st_i_pi_s, bt_or, decide_eq_true rfl, Bool.true_and]
  · rw [e29, st_i_pi_n _ _ _ _ _ _ (by omega), decide_eq_false ej, Bool.false_and, Bool.or_false]
/-- what is known behind the study -/
def ST1 (S : xm_S) (V : VV) (pl : Nat) : Prop := st_r S 16 0 = some 4 ∧ st_r S 16 1 = some 5 ∧ st_i S 16 2 = V 18 0 ∧ st_i S 16 3 = (1 : Int32) <<< (nI pl &&& 31)
def STw (S : xm_S) (V : VV) (w : Nat) : Prop := ∀ j, j < w → ∀ n, st_r S 5 j = some n → st_i S n 5 = mbI V (144 + j)
def STn (S : xm_S) (V : VV) (ct : Nat → Nat) : Prop := ∀ a, a < 24 → ∀ j, j < ct a → st_i S (200 + 20 * a + 9 + j) 5 = mbI V (4 * a + j)
def ctA (V : VV) (f B a : Nat) : Nat := if a < B then vn V f a else 0
def ctB (V : VV) (f A j a : Nat) : Nat := if a < A then vn V f a else if a = A then j else 0
theorem ctA_l {V : VV} {f B a : Nat} (h : a < B) : ctA V f B a = vn V f a := if_pos h
theorem ctA_g {V : VV} {f B a : Nat} (h : ¬ a < B) : ctA V f B a = 0 := if_neg h
theorem ctB_0 {V : VV} {f A : Nat} : ctB V f A 0 = ctA V f A := by
  funext a
  unfold ctB ctA
  split
  · rfl
  · split <;> rfl
theorem ctB_n {V : VV} {f A : Nat} : ctB V f A (vn V f A) = ctA V f (A + 1) := by
  funext a
  unfold ctB ctA
  by_cases e : a < A
  · rw [if_pos e, if_pos (by omega)]
  · rw [if_neg e]
    by_cases e2 : a = A
    · rw [if_pos e2, if_pos (by omega), e2]
    · rw [if_neg e2, if_neg (by omega)]
theorem ctA_u {V : VV} {f B B' : Nat} (h : ∀ a, B ≤ a → a < B' → vn V f a = 0) (l : B ≤ B') : ctA V f B = ctA V f B' := by
  funext a
  unfold ctA
  by_cases e : a < B
  · rw [if_pos e, if_pos (by omega)]
  · rw [if_neg e]
    by_cases e2 : a < B'
    · rw [if_pos e2, h a (by omega) e2]
    · rw [if_neg e2]
theorem ctA_z {V : VV} {f : Nat} : ctA V f 0 = fun _ => 0 := by
  funext a
  exact ctA_g (Nat.not_lt_zero a)
theorem ctB_x {V : VV} {f A j i b : Nat} (h : i < ctB V f A (j + 1) b) (ne : ¬ (b = A ∧ i = j)) : i < ctB V f A j b := by
  unfold ctB at h ⊢
  by_cases e : b < A
  · rw [if_pos e] at h ⊢; exact h
  · rw [if_neg e] at h ⊢
    by_cases e2 : b = A
    · rw [if_pos e2] at h ⊢; omega
    · rw [if_neg e2] at h ⊢; exact h
theorem ctB_4 {V : VV} {f A j i b : Nat} (h : i < ctB V f A j b) : i < vn V f b ∨ (b = A ∧ i < j) := by
  unfold ctB at h
  by_cases e : b < A
  · rw [if_pos e] at h; exact .inl h
  · rw [if_neg e] at h
    by_cases e2 : b = A
    · rw [if_pos e2] at h; exact .inr ⟨e2, h⟩
    · rw [if_neg e2] at h; omega
theorem cfK_s {V : VV} {a j x y : Nat} : cfK V x y (ctB V 13 a (j + 1) x) = (cfK V x y (ctB V 13 a j x) || (decide (x = a) && (mt V (96 + (2 * a + j)) y && decide (y / 4 ≠ a / 4)))) := by
  unfold ctB
  by_cases e : x < a
  · rw [if_pos e, if_pos e, decide_eq_false (show ¬ x = a by omega), Bool.false_and, Bool.or_false]
  · rw [if_neg e, if_neg e]
    by_cases e2 : x = a
    · subst e2
      rw [if_pos rfl, if_pos rfl, decide_eq_true rfl, Bool.true_and]; rfl
    · rw [if_neg e2, if_neg e2, decide_eq_false e2, Bool.false_and, Bool.or_false]
theorem nm_q {V : VV} {a j : Nat} (ha : a < 24) (hj : j < 4) : nP V (4 * a + j) = vn V 9 (4 * a + j) ∧ nF V (4 * a + j) = V 10 (4 * a + j) := by
  unfold nP nF
  rw [if_pos (by omega), if_pos (by omega)]; exact ⟨rfl, rfl⟩
theorem nm_c {V : VV} {a j : Nat} (ha : a < 24) (hj : j < 2) : nP V (96 + (2 * a + j)) = vn V 14 (2 * a + j) ∧ nF V (96 + (2 * a + j)) = 0 := by
  unfold nP nF
  rw [if_neg (by omega), if_pos (by omega), if_neg (by omega), if_pos (by omega), show 96 + (2 * a + j) - 96 = 2 * a + j by omega]; exact ⟨rfl, rfl⟩
theorem nm_w {V : VV} {j : Nat} : nP V (144 + j) = vn V 19 j ∧ nF V (144 + j) = V 20 j := by
  unfold nP nF
  rw [if_neg (by omega), if_neg (by omega), if_neg (by omega), if_neg (by omega), show 144 + j - 144 = j by omega]; exact ⟨rfl, rfl⟩
theorem c_study {S : xm_S} {V : VV} {N pl : Nat} {g : xm_S → Prop} (C : CR S V N) (I : Iv V) (h : ∀ S', SF S S' → ST1 S' V pl → STw S' V (vn V 18 0) → STn S' V (vn V 8) → (∀ i, i < 24 → ∀ k, bt (st_i S' 17 i) k = (decide (k < 24) && (cf V i k || cf V k i))) → g S') : wp_X7_study 16 (some 4) (some 5) (V 18 0) (nI pl) S g := by
  have c1 := C.2.2.1
  have s16 := gS_16 c1
  have o5 := C.2.2.2.2.1
  have w18 := I.2.2.1.1
  have w182 := w18.2
  unfold wp_X7_study
  refine ⟨s16.2, fun S107 e107 S109 e109 S111 e111 S113 e113 => ?_⟩
  have F13 : SF S S113 := by rw [e113, e111, e109, e107]; exact SF_i (SF_i (SF_p (SF_p (SF_r S) (by decide)) (by decide)) (by decide)) (by decide)
  have T13 : ST1 S113 V pl := by
    rw [e113, e111, e109, e107]
    refine ⟨?_, ?_, ?_, ?_⟩
    · rw [st_r_pi, st_r_pi, st_r_pr_n _ _ _ _ _ _ (by omega), st_r_pr_s]
    · rw [st_r_pi, st_r_pi, st_r_pr_s]
    · rw [st_i_pi_n _ _ _ _ _ _ (by omega), st_i_pi_s]
    · rw [st_i_pi_s]
  have keep1 : ∀ S1 S2, ST1 S1 V pl → (∀ n k, n = 16 → st_r S2 n k = st_r S1 n k) → (∀ n k, n = 16 → st_i S2 n k = st_i S1 n k) → ST1 S2 V pl := fun S1 S2 T a b => ⟨(a _ _ rfl).trans T.1, (a _ _ rfl).trans T.2.1, (b _ _ rfl).trans T.2.2.1, (b _ _ rfl).trans T.2.2.2⟩
  -- the last stage: the versions
  have ST3 : ∀ S3, SF S S3 → ST1 S3 V pl → STw S3 V (vn V 18 0) → STn S3 V (fun _ => 0) → enC V S3 (fun _ => 0) → wp_X7_study_80 16 (some 4) (0 : Int32) S3 g := fun S3 F3 T3 W3 N3 E3 => by
    unfold wp_X7_study_80
    intro Z hZ
    have H : ∀ d p S1, p + d = 6 → SF S S1 → ST1 S1 V pl → STw S1 V (vn V 18 0) → STn S1 V (ctA V 8 (4 * p)) → enC V S1 (ctA V 13 (4 * p)) → Z (some 4) (nI p) S1 := by
      intro d
      induction d with
      | zero =>
        intro p S1 hp F1 T1 W1 N1 E1
        refine hZ _ _ _ ?_
        unfold wp_X7_study_80B
        rw [show p = 6 by omega] at N1 E1 ⊢
        refine ⟨fun _ => h S1 F1 T1 W1 (fun a ha j hj => N1 a ha j (by rw [ctA_l (by omega)]; exact hj)) fun i hi k => ?_, fun e => absurd (nI_le (Nat.le_refl 6) (by decide)) e⟩
        rw [E1 i hi k, ctA_l (by omega)]
        by_cases hk : k < 24
        · rw [ctA_l (by omega), decide_eq_true hk, Bool.true_and]; rfl
        · rw [ctA_g (by omega), decide_eq_false hk, Bool.false_and]
          have z : ∀ n, cfK V i k n = false := fun n => by
            induction n with
            | zero => rfl
            | succ n ih =>
              show (cfK V i k n || (mt V (96 + (2 * i + n)) k && _)) = false
              rw [ih]
              cases e : mt V (96 + (2 * i + n)) k
              · rfl
              · exact absurd (mt_24 e) hk
          rw [z]; rfl
      | succ d ih =>
        intro p S1 hp F1 T1 W1 N1 E1
        have ih := fun S' => ih (p + 1) S' (by omega)
        have cn := (I.1.1 p (by omega)).2
        have cn2 := cn.2
        refine hZ _ _ _ ?_
        unfold wp_X7_study_80B wp_X7_study_90
        refine ⟨fun e => absurd e (nI_ge (show p < 6 by omega) (by decide)), fun _ Z2 hZ2 => ?_⟩
        have H2 : ∀ d v S1, v + d = vn V 2 p → SF S S1 → ST1 S1 V pl → STw S1 V (vn V 18 0) → STn S1 V (ctA V 8 (4 * p + v)) → enC V S1 (ctA V 13 (4 * p + v)) → Z2 (some 4) (nI p) (nI v) S1 := by
          intro d
          induction d with
          | zero =>
            intro v S1 hv F1 T1 W1 N1 E1
            have C1 := SF_CR F1 C I
            have P1 := CR_gP C1 p (by omega)
            have c4 := gS_4 C1.2.2.1
            refine hZ2 _ _ _ _ ?_
            unfold wp_X7_study_90B
            rw [nI_clamp (show p < 2 ^ 31 by omega)]
            refine ⟨4, rfl, _, c4.2, vp_in_nI (show p < 6 by omega) (by decide), _, P1.2.1, P1.1, ?_⟩
            rw [P1.2.2.2.2.2.1, cn.1]
            rw [show v = vn V 2 p by omega] at N1 E1 ⊢
            have uu : ∀ a, 4 * p + vn V 2 p ≤ a → a < 4 * (p + 1) → vn V 8 a = 0 ∧ vn V 13 a = 0 := fun a h1 h2 => by
              have := I.1.2.2.2 a (by omega) (by unfold used; rw [show a / 4 = p by omega]; omega)
              exact ⟨this.1, this.2.1⟩
            refine ⟨fun _ y ey => ?_, fun e => absurd (nI_le (Nat.le_refl _) (by omega)) e⟩
            rw [ey, nI_1]
            rw [ctA_u (B' := 4 * (p + 1)) (fun a h1 h2 => (uu a h1 h2).1) (by omega)] at N1
            rw [ctA_u (B' := 4 * (p + 1)) (fun a h1 h2 => (uu a h1 h2).2) (by omega)] at E1
            exact ih S1 F1 T1 W1 N1 E1
          | succ d ih2 =>
            intro v S1 hv F1 T1 W1 N1 E1
            have ih2 := fun S' => ih2 (v + 1) S' (by omega)
            have C1 := SF_CR F1 C I
            have P1 := CR_gP C1 p (by omega)
            have c4 := gS_4 C1.2.2.1
            have vk := CR_ver C1 I (show p < 6 by omega) (show v < vn V 2 p by omega)
            have ha : 4 * p + v < 24 := by omega
            have hv4 : v < 4 := by omega
            have k8 := (I.1.2.2.1 _ ha).1
            have k82 := k8.2
            have k13 := (I.1.2.2.1 _ ha).2.1
            have k132 := k13.2
            refine hZ2 _ _ _ _ ?_
            unfold wp_X7_study_90B
            rw [nI_clamp (show p < 2 ^ 31 by omega), nI_clamp (show v < 2 ^ 31 by omega)]
            refine ⟨4, rfl, _, c4.2, vp_in_nI (show p < 6 by omega) (by decide), _, P1.2.1, P1.1, ?_⟩
            rw [P1.2.2.2.2.2.1, cn.1]
            refine ⟨fun e => absurd e (nI_ge (show v < vn V 2 p by omega) (by omega)), fun _ => ⟨4, rfl, _, c4.2, vp_in_nI (show p < 6 by omega) (by decide), _, P1.2.1, P1.1, _, P1.2.2.1, _, P1.2.2.2.1, vp_in_nI hv4 (by decide), ?_⟩⟩
            rw [vk.1]
            generalize hA : 4 * p + v = a at *
            have ea : a / 4 = p := by omega
            unfold wp_X7_study_117
            intro Z3 hZ3
            -- the conflicts
            have X4 : ∀ S1, SF S S1 → ST1 S1 V pl → STw S1 V (vn V 18 0) → STn S1 V (ctA V 8 (a + 1)) → enC V S1 (ctA V 13 a) → wp_X7_study_159 16 (some 4) (nI p) (nI v) (some (200 + 20 * a)) (0 : Int32) S1 g Z Z2 := fun S1 F1 T1 W1 N1 E1 => by
              unfold wp_X7_study_159
              intro Z4 hZ4
              have H4 : ∀ d j S1, j + d = vn V 13 a → SF S S1 → ST1 S1 V pl → STw S1 V (vn V 18 0) → STn S1 V (ctA V 8 (a + 1)) → enC V S1 (ctB V 13 a j) → Z4 (some 4) (nI p) (nI v) (some (200 + 20 * a)) (nI j) S1 := by
                intro d
                induction d with
                | zero =>
                  intro j S1 hj F1 T1 W1 N1 E1
                  have C1 := SF_CR F1 C I
                  have vk := CR_ver C1 I (show p < 6 by omega) (show v < vn V 2 p by omega)
                  rw [hA] at vk
                  refine hZ4 _ _ _ _ _ _ ?_
                  unfold wp_X7_study_159B
                  refine ⟨_, rfl, vk.2.1.1, ?_⟩
                  rw [vk.2.2.1.2.2.2.2.2.2.2.1, k13.1]
                  rw [show j = vn V 13 a by omega] at E1 ⊢
                  refine ⟨fun _ y ey => ?_, fun e => absurd (nI_le (Nat.le_refl _) (by omega)) e⟩
                  rw [ey, nI_1]
                  rw [ctB_n] at E1
                  rw [show 4 * p + (v + 1) = a + 1 by omega] at ih2
                  exact ih2 S1 F1 T1 W1 N1 E1
                | succ d ih4 =>
                  intro j S1 hj F1 T1 W1 N1 E1
                  have ih4 := fun S' => ih4 (j + 1) S' (by omega)
                  have C1 := SF_CR F1 C I
                  have o1 := C1.2.2.2.2.1
                  have vk := CR_ver C1 I (show p < 6 by omega) (show v < vn V 2 p by omega)
                  rw [hA] at vk
                  obtain ⟨w0, w1, w2, w3, w4⟩ := vk
                  have nn := w4.2.1 j (by omega)
                  have nm := nm_c (V := V) ha (show j < 2 by omega)
                  have q14 := (I.2.1.2.1 (2 * a + j) (by omega)).1
                  have q142 := q14.2
                  refine hZ4 _ _ _ _ _ _ ?_
                  unfold wp_X7_study_159B
                  refine ⟨_, rfl, w1.1, ?_⟩
                  rw [w2.2.2.2.2.2.2.2.1, k13.1, nI_clamp (show j < 2 ^ 31 by omega)]
                  refine ⟨fun e => absurd e (nI_ge (show j < vn V 13 a by omega) (by omega)), fun _ => ⟨_, rfl, w1.1, _, w1.2.2.2.1, _, w1.2.2.2.2.1, vp_in_nI (show j < 2 by omega) (by decide), (gS_16 C1.2.2.1).2, ?_⟩⟩
                  rw [nn.1]
                  refine c_meet (q := 96 + (2 * a + j)) C1 I (by rw [nm.1]; omega) T1.1 (by rw [nm.1, nm.2, ← q14.1]; exact nn.2) ?_
                  unfold wp_X7_bitsOf
                  rw [pk_mul, show p * 4 = 4 * p by omega]
                  refine ⟨(gS_16 C1.2.2.1).2, c_part (gS_16 C1.2.2.1).2 o1.1 o1.2.1 (show p < 6 by omega) hv4 fun S2 F2 f1 f2 f3 y ey => ?_⟩
                  rw [ey, nI_1]
                  rw [hA] at f3
                  refine ih4 S2 (SF_t F1 F2) (keep1 S1 S2 T1 (fun n k _ => f2 n k) (fun n k hn => f1 n k (by omega))) (fun j hj n hn => ?_) (fun b hb j hj => ?_) fun i hi k => ?_
                  · rw [f2] at hn
                    obtain ⟨w, g1, g2⟩ := C1.2.2.2.2.2.2.2.2.1
                    have gw := g1 j hj
                    have : n = w j := Option.some.inj (hn.symm.trans gw.1)
                    rw [f1 _ _ (by omega)]; exact W1 j hj n hn
                  · rw [f1 _ _ (by omega)]; exact N1 b hb j hj
                  · have eB : ∀ x, bt (mbI V (96 + (2 * a + j)) &&& (((nI 15) <<< (nI (4 * p) &&& 31)) ^^^ (-1 : Int32))) x = (mt V (96 + (2 * a + j)) x && decide (x / 4 ≠ a / 4)) := fun x => by
                      rw [bt_and, bt_mb]
                      cases e : mt V (96 + (2 * a + j)) x
                      · rfl
                      · rw [bt_not _ (by have := mt_24 e; omega), bt_bits (by omega), ea]
                        by_cases e2 : x / 4 = p
                        · rw [decide_eq_true e2, decide_eq_false (p := x / 4 ≠ p) (fun hh => hh e2)]; rfl
                        · rw [decide_eq_false e2, decide_eq_true (p := x / 4 ≠ p) e2]; rfl
                    rw [f3 i hi k, E1 i hi k, eB, eB]
                    rw [cfK_s, cfK_s]
                    generalize cfK V i k _ = b1
                    generalize cfK V k i _ = b2
                    generalize (decide (i = a) && _) = b3
                    generalize (decide (k = a) && _) = b4
                    cases b1 <;> cases b2 <;> cases b3 <;> cases b4 <;> rfl
              exact H4 (vn V 13 a) 0 S1 (by omega) F1 T1 W1 N1 (by rw [ctB_0]; exact E1)
            have H3 : ∀ d j S1, j + d = vn V 8 a → SF S S1 → ST1 S1 V pl → STw S1 V (vn V 18 0) → STn S1 V (ctB V 8 a j) → enC V S1 (ctA V 13 a) → Z3 (some 4) (nI p) (nI v) (some (200 + 20 * a)) (nI j) S1 := by
              intro d
              induction d with
              | zero =>
                intro j S1 hj F1 T1 W1 N1 E1
                have C1 := SF_CR F1 C I
                have vk := CR_ver C1 I (show p < 6 by omega) (show v < vn V 2 p by omega)
                rw [hA] at vk
                refine hZ3 _ _ _ _ _ _ ?_
                unfold wp_X7_study_117B
                refine ⟨_, rfl, vk.2.1.1, ?_⟩
                rw [vk.2.2.1.2.2.2.2.2.2.1, k8.1]
                rw [show j = vn V 8 a by omega] at N1 ⊢
                rw [ctB_n] at N1
                exact ⟨fun _ => X4 S1 F1 T1 W1 N1 E1, fun e => absurd (nI_le (Nat.le_refl _) (by omega)) e⟩
              | succ d ih3 =>
                intro j S1 hj F1 T1 W1 N1 E1
                have ih3 := fun S' => ih3 (j + 1) S' (by omega)
                have C1 := SF_CR F1 C I
                have vk := CR_ver C1 I (show p < 6 by omega) (show v < vn V 2 p by omega)
                rw [hA] at vk
                obtain ⟨w0, w1, w2, w3, w4⟩ := vk
                have nn := w4.1 j (by omega)
                have nm := nm_q (V := V) ha (show j < 4 by omega)
                have q9 := (I.2.1.1 (4 * a + j) (by omega)).1
                have q92 := q9.2
                have T0 := nn.2.1
                refine hZ3 _ _ _ _ _ _ ?_
                unfold wp_X7_study_117B
                refine ⟨_, rfl, w1.1, ?_⟩
                rw [w2.2.2.2.2.2.2.1, k8.1, nI_clamp (show j < 2 ^ 31 by omega)]
                refine ⟨fun e => absurd e (nI_ge (show j < vn V 8 a by omega) (by omega)), fun _ => ⟨_, rfl, w1.1, _, w1.2.1, _, w1.2.2.1, vp_in_nI (show j < 4 by omega) (by decide), _, rfl, w1.1, _, w1.2.1, _, w1.2.2.1, vp_in_nI (show j < 4 by omega) (by decide), (gS_16 C1.2.2.1).2, ?_⟩⟩
                rw [nn.1]
                refine c_meet (q := 4 * a + j) C1 I (by rw [nm.1]; omega) T1.1 (by rw [nm.1, nm.2, ← q9.1]; exact nn.2) ⟨_, rfl, T0, fun S49 e49 y ey => ?_⟩
                rw [ey, nI_1]
                refine ih3 S49 (by rw [e49]; exact SF_5 F1 T0 (by omega)) (keep1 S1 S49 T1 (fun n k _ => by rw [e49]; rfl) (fun n k hn => by rw [e49, st_i_pi_n _ _ _ _ _ _ (by omega)])) (fun i hi n hn => ?_) (fun b hb i hi => ?_) fun i hi k => ?_
                · have hn : st_r S1 5 i = some n := by rw [e49] at hn; exact hn
                  obtain ⟨w, g1, g2⟩ := C1.2.2.2.2.2.2.2.2.1
                  have gw := g1 i hi
                  have : n = w i := Option.some.inj (hn.symm.trans gw.1)
                  rw [e49, st_i_pi_n _ _ _ _ _ _ (by omega)]; exact W1 i hi n hn
                · by_cases e : b = a ∧ i = j
                  · rw [e.1, e.2, e49, st_i_pi_s]
                  · have b8 := (I.1.2.2.1 b hb).1.2
                    have hi4 := ctB_4 hi
                    rw [e49, st_i_pi_n _ _ _ _ _ _ (by omega)]
                    exact N1 b hb i (ctB_x hi e)
                · rw [e49, st_i_pi_n _ _ _ _ _ _ (by omega)]; exact E1 i hi k
            exact H3 (vn V 8 a) 0 S1 (by omega) F1 T1 W1 (by rw [ctB_0]; exact N1) E1
        exact H2 (vn V 2 p) 0 S1 (by omega) F1 T1 W1 N1 E1
    exact H 6 0 S3 rfl F3 T3 W3 (by rw [ctA_z]; exact N3) (by rw [ctA_z]; exact E3)
  -- the wishes
  have ST2 : ∀ S2, SF S S2 → ST1 S2 V pl → enC V S2 (fun _ => 0) → wp_X7_study_50 16 (some 4) (some 5) (V 18 0) (0 : Int32) S2 g := fun S2 F2 T2 E2 => by
    unfold wp_X7_study_50
    intro Z hZ
    have H : ∀ d j S1, j + d = vn V 18 0 → SF S S1 → ST1 S1 V pl → STw S1 V j → enC V S1 (fun _ => 0) → Z (some 4) (some 5) (V 18 0) (nI j) S1 := by
      intro d
      induction d with
      | zero =>
        intro j S1 hj F1 T1 W1 E1
        refine hZ _ _ _ _ _ ?_
        unfold wp_X7_study_50B
        rw [w18.1, show j = vn V 18 0 by omega] at *
        exact ⟨fun _ => ST3 S1 F1 T1 W1 (fun a ha i hi => absurd hi (Nat.not_lt_zero _)) E1, fun e => absurd (nI_le (Nat.le_refl _) (by omega)) e⟩
      | succ d ih =>
        intro j S1 hj F1 T1 W1 E1
        have ih := fun S' => ih (j + 1) S' (by omega)
        have C1 := SF_CR F1 C I
        obtain ⟨w, g1, g2⟩ := C1.2.2.2.2.2.2.2.2.1
        have gw := g1 j (by omega)
        have nm := nm_w (V := V) (j := j)
        have q19 := (I.2.2.1.2.1 j (by omega)).1
        have q192 := q19.2
        have T0 := gw.2.2.2.1
        have c5 := gS_5 C1.2.2.1
        refine hZ _ _ _ _ _ ?_
        unfold wp_X7_study_50B
        rw [w18.1, nI_clamp (show j < 2 ^ 31 by omega)]
        refine ⟨fun e => absurd e (nI_ge (show j < vn V 18 0 by omega) (by omega)), fun _ => ⟨5, rfl, _, c5.2, vp_in_nI (show j < 4 by omega) (by decide), 5, rfl, _, c5.2, vp_in_nI (show j < 4 by omega) (by decide), (gS_16 C1.2.2.1).2, ?_⟩⟩
        rw [gw.1]
        refine c_meet (q := 144 + j) C1 I (by rw [nm.1]; omega) T1.1 (by rw [nm.1, nm.2, ← q19.1]; exact gw.2.2.2) ⟨_, rfl, T0, fun S92 e92 y ey => ?_⟩
        rw [ey, nI_1, ← w18.1]
        refine ih S92 (by rw [e92]; exact SF_5 F1 T0 (by omega)) (keep1 S1 S92 T1 (fun n k _ => by rw [e92]; rfl) (fun n k hn => by rw [e92, st_i_pi_n _ _ _ _ _ _ (by omega)])) (fun i hi n hn => ?_) fun i hi k => ?_
        · have hn : st_r S1 5 i = some n := by rw [e92] at hn; exact hn
          have gi := g1 i (by omega)
          have en : n = w i := Option.some.inj (hn.symm.trans gi.1)
          by_cases e : i = j
          · rw [en, e, e92, st_i_pi_s]
          · have : w i ≠ w j := by
              rcases Nat.lt_or_ge i j with q | q
              · exact g2 i j q (by omega)
              · exact fun hh => g2 j i (by omega) (by omega) hh.symm
            rw [e92, st_i_pi_n _ _ _ _ _ _ (fun hh => this (en.symm.trans hh.1))]; exact W1 i (by omega) n hn
        · rw [e92, st_i_pi_n _ _ _ _ _ _ (by omega)]; exact E1 i hi k
    exact H (vn V 18 0) 0 S2 (by omega) F2 T2 (fun j hj => absurd hj (Nat.not_lt_zero _)) E2
  unfold wp_X7_study_26
  intro Z hZ
  have H : ∀ d i S1, i + d = 24 → SF S S1 → ST1 S1 V pl → (∀ j, j < i → st_i S1 17 j = 0) → Z (some 4) (some 5) (V 18 0) (nI i) S1 := by
    intro d
    induction d with
    | zero =>
      intro i S1 hi F1 T1 z1
      refine hZ _ _ _ _ _ ?_
      unfold wp_X7_study_26B
      rw [show i = 24 by omega] at z1 ⊢
      refine ⟨fun _ => ST2 S1 F1 T1 fun j hj k => ?_, fun e => absurd (nI_le (Nat.le_refl 24) (by decide)) e⟩
      rw [z1 j hj, bt_0]; rfl
    | succ d ih =>
      intro i S1 hi F1 T1 z1
      have C1 := SF_CR F1 C I
      have o1 := C1.2.2.2.2.1
      refine hZ _ _ _ _ _ ?_
      unfold wp_X7_study_26B
      rw [nI_clamp (show i < 2 ^ 31 by omega)]
      refine ⟨fun e => absurd e (nI_ge (show i < 24 by omega) (by decide)), fun _ => ⟨(gS_16 C1.2.2.1).2, 17, o1.1, _, o1.2.1, vp_in_nI (show i < 24 by omega) (by decide), fun S102 e102 y ey => ?_⟩⟩
      rw [ey, nI_1]
      refine ih (i + 1) S102 (by omega) (by rw [e102]; exact SF_i F1 (by decide)) (keep1 S1 S102 T1 (fun n k _ => by rw [e102]; rfl) (fun n k hn => by rw [e102, st_i_pi_n _ _ _ _ _ _ (by omega)])) fun j hj => ?_
      by_cases e : j = i
      · rw [e, e102, st_i_pi_s]
      · rw [e102, st_i_pi_n _ _ _ _ _ _ (by omega)]; exact z1 j (by omega)
  exact H 24 0 S113 rfl F13 T13 (fun j hj => absurd hj (Nat.not_lt_zero _))
