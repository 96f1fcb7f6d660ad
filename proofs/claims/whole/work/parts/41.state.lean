-- scans: what they are and where they end
theorem sc_le {T : Nat → Nat} {L : Nat} (hT : TX T L) : ∀ f s o, s ≤ L → (sc f T s o).1 ≤ L := by
  intro f
  induction f with
  | zero => intro s o h; exact h
  | succ f ih =>
    intro s o h
    by_cases h1 : o = true ∧ T s = 42
    · obtain ⟨ho, h2⟩ := h1
      subst ho
      have hs := TX_n hT (s := s) (by omega)
      rw [sc_star h2]
      split
      next h3 =>
        have hs1 := TX_n hT (s := s + 1) (by omega)
        exact ih (s + 2) true hs1
      next => exact hs
    · have hle := rt_le hT h
      cases hr : rt T s with
      | mk s' b =>
        rw [hr] at hle
        cases b with
        | none => rw [sc_bad h1 hr]; exact hle.2.1
        | some t =>
          rw [sc_good h1 hr]
          unfold sAT
          split
          next h3 => exact ih (s' + 1) false (TX_n hT (by omega))
          next =>
            split
            next h3 => exact ih (s' + 1) true (TX_n hT (by omega))
            next => exact hle.2.1
theorem sc_ok {T : Nat → Nat} : ∀ f s o e l, sc f T s o = (e, some l) → lOK l := by
  intro f
  induction f with
  | zero => intro s o e l h; exact absurd (congrArg Prod.snd h) (fun hh => by cases hh)
  | succ f ih =>
    intro s o e l h
    obtain ⟨f', x, l', ef, el, hx, h9⟩ := sc_some h
    have ef : f = f' := by omega
    subst ef el
    have X : lOK l' → (∀ t, x.2 = some t → tOK t) → lOK (x :: l') := fun h1 h2 y hy => by
      rcases List.mem_cons.mp hy with e | e
      · subst e; exact h2
      · exact h1 y e
    rcases h9 with ⟨_, _, hn, hr⟩ | ⟨_, s', t, hrt, hx2, hsat⟩
    · refine X ?_ (fun t ht => by rw [hn] at ht; cases ht)
      split at hr
      · exact ih _ _ _ _ hr
      · rw [← Option.some.inj (congrArg Prod.snd hr)]; exact fun y hy => absurd hy List.not_mem_nil
    · refine X ?_ (fun t' ht => by rw [hx2] at ht; rw [← Option.some.inj ht]; exact rt_ok (s := s) (T := T) (by rw [hrt]))
      obtain ⟨l2, e2, h3⟩ := sAT_some hsat
      have e2 : l' = l2 := (List.cons.inj e2).2
      subst e2
      rcases h3 with ⟨_, h3⟩ | ⟨_, h3⟩
      · exact ih _ _ _ _ h3
      · split at h3
        · exact ih _ _ _ _ h3
        · rw [← Option.some.inj (congrArg Prod.snd h3)]; exact fun y hy => absurd hy List.not_mem_nil
theorem tOf_ok {T : Nat → Nat} {L : Nat} {l : List xit} (h : tOf T L l) : lOK l := sc_ok _ _ _ _ _ h
theorem tOf_one {T : Nat → Nat} {L : Nat} {l l2 : List xit} (h : tOf T L l) (h2 : tOf T L l2) : l = l2 := Option.some.inj (congrArg Prod.snd (h.symm.trans h2))
-- the abstract state: field of the reference, place
abbrev VV : Type := Nat → Nat → Int32
def uV (V : VV) (f k : Nat) (x : Int32) : VV := fun f' k' => if f' = f ∧ k' = k then x else V f' k'
theorem uV_s (V : VV) (f k : Nat) (x : Int32) : uV V f k x f k = x := if_pos ⟨rfl, rfl⟩
theorem uV_n (V : VV) (f k : Nat) (x : Int32) (f' k' : Nat) (h : ¬ (f' = f ∧ k' = k)) : uV V f k x f' k' = V f' k' := if_neg h
def vn (V : VV) (f k : Nat) : Nat := (V f k).toNatClampNeg
def In (V : VV) (f k b : Nat) : Prop := V f k = nI (vn V f k) ∧ vn V f k ≤ b
def Im (V : VV) (f k b : Nat) : Prop := V f k = -1 ∨ In V f k b
theorem In_nI {V : VV} {f k b n : Nat} (h : V f k = nI n) (hn : n ≤ b) (hb : n < 2 ^ 31) : In V f k b ∧ vn V f k = n := by
  have e : vn V f k = n := by unfold vn; rw [h, nI_clamp hb]
  exact ⟨⟨by rw [e]; exact h, by omega⟩, e⟩
def tL (V : VV) (q : Nat) : Nat := vn V 25 q
def tT (V : VV) (q : Nat) : Nat → Nat := fun s => if s < tL V q then vn V 24 (40 * q + s) else 0
def VT (V : VV) (q : Nat) : Prop := V 25 q = nI (tL V q) ∧ TX (tT V q) (tL V q) ∧ ∀ s, s < tL V q → V 24 (40 * q + s) = nI (tT V q s)
/-- a range that is kept: its text has no fault -/
def VR (V : VV) (q : Nat) : Prop := VT V q ∧ ∃ l, tOf (tT V q) (tL V q) l
def used (V : VV) (at_ : Nat) : Prop := at_ % 4 < vn V 2 (at_ / 4)
/-- what always holds of the abstract state -/
def Iv1 (V : VV) : Prop := (∀ p, p < 6 → In V 1 p 2 ∧ In V 2 p 4) ∧ (∀ a, a < 24 → In V 3 a 99999 ∧ In V 4 a 15 ∧ In V 5 a 3 ∧ In V 6 a 999 ∧ In V 7 a 1 ∧ In V 42 a 1) ∧
  (∀ a, a < 24 → In V 8 a 4 ∧ In V 13 a 2 ∧ In V 15 a 2 ∧ In V 44 a 3) ∧ (∀ a, a < 24 → ¬ used V a → vn V 8 a = 0 ∧ vn V 13 a = 0 ∧ vn V 15 a = 0 ∧ vn V 44 a = 0 ∧ V 7 a = 0 ∧ V 42 a = 0 ∧ ∀ j, j < 3 → V 40 (24 * j + a) = -1)
def Iv2 (V : VV) : Prop := (∀ k, k < 96 → In V 9 k 5 ∧ In V 10 k 15 ∧ In V 11 k 7 ∧ Im V 12 k 15) ∧ (∀ k, k < 48 → In V 14 k 5 ∧ In V 16 k 5 ∧ In V 17 k 99999) ∧
  (∀ a, a < 24 → (∀ j, j < vn V 8 a → VR V (4 * a + j)) ∧ (∀ j, j < vn V 13 a → VR V (96 + (2 * a + j)) ∧ vn V 14 (2 * a + j) ≠ a / 4) ∧ ∀ j, j < vn V 15 a → vn V 16 (2 * a + j) ≠ a / 4)
def Iv3 (V : VV) : Prop := In V 18 0 4 ∧ (∀ k, k < 4 → In V 19 k 5 ∧ In V 20 k 15) ∧ (∀ k, k < vn V 18 0 → VR V (144 + k)) ∧ In V 21 0 6 ∧ (∀ k, k < 6 → In V 22 k 5 ∧ In V 23 k 9) ∧ (∀ k, k < vn V 21 0 → VR V (148 + k)) ∧ ∀ q, q < 155 → VT V q
def vLk (V : VV) (f k : Nat) : Prop := V f k = -1 ∨ (V f k = nI (vn V f k) ∧ vn V f k < vn V 2 (k % 6))
def Iv4 (V : VV) : Prop := In V 26 0 15 ∧ (∀ k, k < 18 → vLk V 27 k ∧ vLk V 29 k) ∧ (∀ k, k < 3 → In V 28 k 1 ∧ In V 41 k 1) ∧ In V 36 0 100000 ∧ In V 37 0 31 ∧ In V 38 0 31 ∧ In V 39 0 9999 ∧ (∀ k, k < 72 → Im V 40 k 999 ∧ In V 45 k 15 ∧ In V 46 k 999 ∧ In V 47 k 1)
def Iv5 (V : VV) : Prop := (∀ k, k < 16 → Im V 48 k 5 ∧ In V 49 k 15) ∧ (∀ k, k < 54 → Im V 50 k 999) ∧ (∀ k, k < 16 → (V 50 (6 + k) = -1 ↔ V 50 (22 + k) = -1) ∧ (V 50 (6 + k) = -1 ↔ V 50 (38 + k) = -1)) ∧ In V 54 0 512 ∧ Im V 55 0 512 ∧ In V 56 0 6 ∧
  (∀ k, k < vn V 56 0 → In V 57 k 512 ∧ vn V 57 k < vn V 54 0 ∧ In V 58 k 1 ∧ (∀ j, j < 54 → Im V 59 (54 * k + j) 999) ∧ ∀ j, j < 16 → (V 59 (54 * k + (6 + j)) = -1 ↔ V 59 (54 * k + (22 + j)) = -1) ∧ (V 59 (54 * k + (6 + j)) = -1 ↔ V 59 (54 * k + (38 + j)) = -1)) ∧ (∀ i j, i < j → j < vn V 56 0 → vn V 57 i < vn V 57 j)
def Iv (V : VV) : Prop := Iv1 V ∧ Iv2 V ∧ Iv3 V ∧ Iv4 V ∧ Iv5 V
-- the reference's memory
def pS (f : Nat) : Bool := f == 18 || f == 21 || f == 26 || f == 36 || f == 37 || f == 38 || f == 39 || f == 52 || f == 53 || f == 54 || f == 55 || f == 56
def pA (f : Nat) : Bool := decide (1 ≤ f ∧ f ≤ 17) || f == 19 || f == 20 || f == 22 || f == 23 || f == 24 || f == 25 || f == 27 || f == 28 || f == 29 || decide (40 ≤ f ∧ f ≤ 50) || f == 57 || f == 58 || f == 59
def MR (S : xm_S) (V : VV) : Prop := MS S ∧ (∀ f, pS f = true → st_i S 1000 f = V f 0) ∧ ∀ f k, pA f = true → st_i S (1001 + f) k = V f k
-- what is kept: the reference's part, the class's part
def KM (S S' : xm_S) : Prop := ∀ n, 1000 ≤ n → n < 1200 → st_t S' n = st_t S n ∧ (∀ k, st_r S' n k = st_r S n k) ∧ (∀ k, st_l S' n k = st_l S n k) ∧ ∀ k, st_i S' n k = st_i S n k
def KC (S S' : xm_S) : Prop := ∀ n, (n < 1000 ∨ 1200 ≤ n) → st_t S' n = st_t S n ∧ (∀ k, st_r S' n k = st_r S n k) ∧ (∀ k, st_l S' n k = st_l S n k) ∧ ∀ k, st_i S' n k = st_i S n k
theorem mz_lt {f : Nat} (h : 0 < mz f) : f < 64 := by
  rcases Nat.lt_or_ge f 64 with h1 | h1
  · exact h1
  · exfalso
    unfold mz at h
    split at h <;> omega
theorem pA_lt {f : Nat} (h : pA f = true) : f < 64 := by
  rcases Nat.lt_or_ge f 64 with h1 | h1
  · exact h1
  · exfalso
    unfold pA at h
    simp only [Bool.or_eq_true, decide_eq_true_eq, beq_iff_eq] at h
    omega
theorem MR_K {S S' : xm_S} {V : VV} (h : MR S V) (k : KM S S') : MR S' V := by
  obtain ⟨⟨h1, h2⟩, h3, h4⟩ := h
  refine ⟨⟨(k _ (by omega) (by omega)).1.trans h1, fun f e => ?_⟩, fun f e => ((k _ (by omega) (by omega)).2.2.2 _).trans (h3 f e), fun f j e => ?_⟩
  · have := mz_lt e
    exact ⟨((k _ (by omega) (by omega)).2.1 _).trans (h2 f e).1, (k _ (by omega) (by omega)).1.trans (h2 f e).2⟩
  · have := pA_lt e
    exact ((k _ (by omega) (by omega)).2.2.2 _).trans (h4 f j e)
theorem KC_rfl (S : xm_S) : KC S S := fun _ _ => ⟨rfl, fun _ => rfl, fun _ => rfl, fun _ => rfl⟩
theorem KC_tr {S S1 S2 : xm_S} (h : KC S S1) (h2 : KC S1 S2) : KC S S2 := fun n hn => ⟨(h2 n hn).1.trans (h n hn).1, fun k => ((h2 n hn).2.1 k).trans ((h n hn).2.1 k), fun k => ((h2 n hn).2.2.1 k).trans ((h n hn).2.2.1 k), fun k => ((h2 n hn).2.2.2 k).trans ((h n hn).2.2.2 k)⟩
theorem KC_pi {S S1 : xm_S} {n k : Nat} {v : Int32} (h : KC S S1) (e : 1000 ≤ n ∧ n < 1200) : KC S (st_pi S1 n k v) := KC_tr h fun m hm => ⟨rfl, fun _ => rfl, fun _ => rfl, fun j => st_i_pi_n _ _ _ _ _ _ (by omega)⟩
theorem KM_rfl (S : xm_S) : KM S S := fun _ _ _ => ⟨rfl, fun _ => rfl, fun _ => rfl, fun _ => rfl⟩
theorem KM_tr {S S1 S2 : xm_S} (h : KM S S1) (h2 : KM S1 S2) : KM S S2 := fun n a b => ⟨(h2 n a b).1.trans (h n a b).1, fun k => ((h2 n a b).2.1 k).trans ((h n a b).2.1 k), fun k => ((h2 n a b).2.2.1 k).trans ((h n a b).2.2.1 k), fun k => ((h2 n a b).2.2.2 k).trans ((h n a b).2.2.2 k)⟩
theorem KM_pi {S S1 : xm_S} {n k : Nat} {v : Int32} (h : KM S S1) (e : n < 1000 ∨ 1200 ≤ n) : KM S (st_pi S1 n k v) := KM_tr h fun m _ _ => ⟨rfl, fun _ => rfl, fun _ => rfl, fun j => st_i_pi_n _ _ _ _ _ _ (by omega)⟩
theorem KM_G {A : Nat → Nat → Bool} {N : Nat} {S S' : xm_S} (h : xG A N S S') (hN : 1200 ≤ N) (hA : ∀ n k, 1000 ≤ n → n < 1200 → A n k = false) : KM S S' := fun n a b => ⟨h.1 n (by omega), fun k => h.2.1 n k (by omega), fun k => h.2.2.1 n k (by omega), fun k => h.2.2.2 n k (by omega) (hA n k a b)⟩
theorem MR_thr {S : xm_S} {V : VV} {x : Int32} (h : MR S V) : MR (st_pi S 1000 0 x) V := by
  obtain ⟨h1, h3, h4⟩ := h
  refine ⟨h1, fun f e => ?_, fun f j e => ?_⟩
  · rw [st_i_pi_n]
    · exact h3 f e
    · intro hh
      rw [hh.2] at e
      cases e
  · rw [st_i_pi_n _ _ _ _ _ _ (by omega)]; exact h4 f j e
theorem MR_a {S : xm_S} {V : VV} {f k : Nat} {x : Int32} (h : MR S V) (e0 : pS f = false := by decide) : MR (st_pi S (1001 + f) k x) (uV V f k x) := by
  obtain ⟨h1, h3, h4⟩ := h
  refine ⟨h1, fun g e => ?_, fun g j e => ?_⟩
  · rw [st_i_pi_n _ _ _ _ _ _ (by omega), uV_n]
    · exact h3 g e
    · intro hh
      rw [hh.1, e0] at e
      cases e
  · by_cases hh : g = f ∧ j = k
    · rw [hh.1, hh.2, st_i_pi_s, uV_s]
    · rw [st_i_pi_n _ _ _ _ _ _ (by omega), uV_n _ _ _ _ _ _ hh]; exact h4 g j e
theorem MR_s {S : xm_S} {V : VV} {f : Nat} {x : Int32} (h : MR S V) (e0 : pA f = false := by decide) : MR (st_pi S 1000 f x) (uV V f 0 x) := by
  obtain ⟨h1, h3, h4⟩ := h
  refine ⟨h1, fun g e => ?_, fun g j e => ?_⟩
  · by_cases hh : g = f
    · rw [hh, st_i_pi_s, uV_s]
    · rw [st_i_pi_n _ _ _ _ _ _ (by omega), uV_n _ _ _ _ _ _ (by omega)]; exact h3 g e
  · rw [st_i_pi_n _ _ _ _ _ _ (by omega), uV_n]
    · exact h4 g j e
    · intro hh
      rw [hh.1, e0] at e
      cases e
/-- scratch of the reference -/
theorem MR_F {A : Nat → Nat → Bool} {S S' : xm_S} {V : VV} (h : MR S V) (F : xf_F A S S') (hs : ∀ f, pS f = true → A 1000 f = false) (ha : ∀ f k, pA f = true → A (1001 + f) k = false) : MR S' V := by
  obtain ⟨h1, h3, h4⟩ := h
  exact ⟨MS_F h1 F, fun f e => (F.2.2.2 _ _ (hs f e)).trans (h3 f e), fun f k e => (F.2.2.2 _ _ (ha f k e)).trans (h4 f k e)⟩
-- the class's memory
def RgV (S : xm_S) (V : VV) (q r N : Nat) : Prop := ∃ l, tOf (tT V q) (tL V q) l ∧ RO S r l N
def NO (S : xm_S) (V : VV) (N n q : Nat) (pk ft pf ow : Int32) : Prop := st_t S n = some (4, 0) ∧ st_i S n 0 = pk ∧ st_i S n 2 = ft ∧ st_i S n 3 = pf ∧ st_i S n 4 = ow ∧ ∃ r, st_r S n 1 = some r ∧ RgV S V q r N
def gT (S : xm_S) (V : VV) : Prop := TC S (tT V 154) (tL V 154)
def gP (S : xm_S) (V : VV) : Prop := ∀ p, p < 6 → st_t S (100 + 2 * p) = some (5, 0) ∧ st_r S 4 p = some (100 + 2 * p) ∧ st_r S (100 + 2 * p) 1 = some (101 + 2 * p) ∧ st_t S (101 + 2 * p) = some (120, 4) ∧ st_i S (100 + 2 * p) 0 = V 1 p ∧ st_i S (100 + 2 * p) 2 = V 2 p ∧ ∀ v, v < vn V 2 p → st_r S (101 + 2 * p) v = some (200 + 20 * (4 * p + v))
/-- a version at its place a, its names from b on -/
def gV1 (S : xm_S) (b : Nat) : Prop := st_t S b = some (10, 0) ∧ st_r S b 6 = some (b + 1) ∧ st_t S (b + 1) = some (114, 4) ∧ st_r S b 8 = some (b + 2) ∧ st_t S (b + 2) = some (114, 2) ∧ st_r S b 10 = some (b + 3) ∧ st_t S (b + 3) = some (100, 2) ∧ st_r S b 11 = some (b + 4) ∧ st_t S (b + 4) = some (100, 2) ∧ st_r S b 13 = some (b + 5) ∧ st_t S (b + 5) = some (100, 3) ∧ st_r S b 14 = some (b + 6) ∧ st_t S (b + 6) = some (100, 3) ∧ st_r S b 15 = some (b + 7) ∧ st_t S (b + 7) = some (101, 3) ∧ st_r S b 17 = some (b + 8) ∧ st_t S (b + 8) = some (100, 3)
def gV2 (S : xm_S) (V : VV) (a b : Nat) : Prop := st_i S b 0 = nI (dgN (vn V 3 a)) ∧ st_i S b 1 = V 4 a ∧ st_i S b 2 = V 5 a ∧ st_i S b 3 = V 6 a ∧ st_i S b 4 = V 7 a ∧ st_i S b 5 = V 42 a ∧ st_i S b 7 = V 8 a ∧ st_i S b 9 = V 13 a ∧ st_i S b 12 = V 15 a ∧ st_i S b 16 = V 44 a
def gV3 (S : xm_S) (V : VV) (a b : Nat) : Prop := (∀ j, j < 3 → st_i S (b + 8) j = V 40 (24 * j + a)) ∧ (∀ j, j < vn V 15 a → st_i S (b + 3) j = V 16 (2 * a + j) ∧ st_i S (b + 4) j = nI (dgN (vn V 17 (2 * a + j)))) ∧ ∀ j, j < vn V 44 a → st_i S (b + 5) j = V 45 (3 * a + j) ∧ st_i S (b + 6) j = V 46 (3 * a + j) ∧ st_i S (b + 7) j = V 47 (3 * a + j)
def gN (S : xm_S) (V : VV) (N a b : Nat) : Prop := (∀ j, j < vn V 8 a → st_r S (b + 1) j = some (b + 9 + j) ∧ NO S V N (b + 9 + j) (4 * a + j) (V 9 (4 * a + j)) (V 10 (4 * a + j)) (V 11 (4 * a + j)) (V 12 (4 * a + j))) ∧ (∀ j, j < vn V 13 a → st_r S (b + 2) j = some (b + 13 + j) ∧ NO S V N (b + 13 + j) (96 + (2 * a + j)) (V 14 (2 * a + j)) 0 (nI 7) (-1)) ∧ (∀ j, vn V 8 a ≤ j → j < 4 → st_t S (b + 9 + j) = none) ∧ ∀ j, vn V 13 a ≤ j → j < 2 → st_t S (b + 13 + j) = none
def gV (S : xm_S) (V : VV) (N : Nat) : Prop := ∀ a, a < 24 → (used V a → gV1 S (200 + 20 * a) ∧ gV2 S V a (200 + 20 * a) ∧ gV3 S V a (200 + 20 * a) ∧ gN S V N a (200 + 20 * a)) ∧ (¬ used V a → ∀ j, j < 20 → st_t S (200 + 20 * a + j) = none)
def gW (S : xm_S) (V : VV) (N : Nat) : Prop := ∃ w : Nat → Nat, (∀ j, j < vn V 18 0 → st_r S 5 j = some (w j) ∧ 2000 ≤ w j ∧ w j < N ∧ NO S V N (w j) (144 + j) (V 19 j) (V 20 j) (nI 7) (-1)) ∧ ∀ i j, i < j → j < vn V 18 0 → w i ≠ w j
def gA (S : xm_S) (V : VV) (N : Nat) : Prop := ∀ j, j < vn V 21 0 → ∃ a, st_r S 6 j = some a ∧ 2000 ≤ a ∧ a < N ∧ st_t S a = some (0, 0) ∧ st_i S a 0 = V 22 j ∧ st_i S a 2 = V 23 j ∧ ∃ r, st_r S a 1 = some r ∧ RgV S V (148 + j) r N
def gL (S : xm_S) (V : VV) : Prop := ∀ l, l < 3 → st_r S 7 l = some (8 + l) ∧ st_t S (8 + l) = some (100, 6) ∧ st_r S 11 l = some (12 + l) ∧ st_t S (12 + l) = some (100, 6) ∧ st_i S 15 l = V 28 l ∧ ∀ p, p < 6 → st_i S (8 + l) p = V 29 (6 * l + p) ∧ st_i S (12 + l) p = V 27 (6 * l + p)
/-- the shape of what is made once -/
def gS (S : xm_S) : Prop := st_t S 1 = some (11, 0) ∧ st_r S 1 0 = some 2 ∧ st_r S 1 1 = some 4 ∧ st_t S 4 = some (115, 6) ∧ st_r S 1 2 = some 5 ∧ st_t S 5 = some (114, 4) ∧ st_r S 1 5 = some 6 ∧ st_t S 6 = some (110, 6) ∧ st_r S 1 7 = some 7 ∧ st_t S 7 = some (104, 3) ∧ st_r S 1 8 = some 11 ∧ st_t S 11 = some (104, 3) ∧ st_r S 1 9 = some 15 ∧ st_t S 15 = some (101, 3) ∧ st_r S 1 10 = some 16 ∧ st_t S 16 = some (7, 0) ∧ st_r S 1 15 = some 22 ∧ st_t S 22 = some (101, 3) ∧ st_r S 1 16 = some 23 ∧ st_t S 23 = some (100, 3) ∧ st_r S 1 17 = some 24 ∧ st_t S 24 = some (2, 0)
def gO (S : xm_S) : Prop := st_r S 16 4 = some 17 ∧ st_t S 17 = some (100, 24) ∧ st_r S 16 5 = some 18 ∧ st_t S 18 = some (100, 6) ∧ st_r S 16 9 = some 19 ∧ st_t S 19 = some (100, 7) ∧ st_r S 16 10 = some 20 ∧ st_t S 20 = some (100, 6) ∧ st_r S 16 15 = some 21 ∧ st_t S 21 = some (100, 6)
/-- the ints of the object itself -/
def gX (S : xm_S) (V : VV) : Prop := st_i S 1 3 = V 18 0 ∧ st_i S 1 4 = V 26 0 ∧ st_i S 1 6 = V 21 0 ∧ st_i S 1 11 = V 36 0 ∧ st_i S 1 12 = V 37 0 ∧ st_i S 1 13 = V 38 0 ∧ st_i S 1 14 = V 39 0
def gM (S : xm_S) (V : VV) : Prop := ∀ m, m < 3 → st_i S 22 m = V 41 m ∧ st_i S 23 m = V 43 m
/-- a machine: its arrays lie behind it -/
def gMc (S : xm_S) (n : Nat) : Prop := st_t S n = some (3, 0) ∧ st_r S n 0 = some (n + 1) ∧ st_t S (n + 1) = some (100, 6) ∧ st_r S n 1 = some (n + 2) ∧ st_t S (n + 2) = some (100, 16) ∧ st_r S n 2 = some (n + 3) ∧ st_t S (n + 3) = some (100, 16) ∧ st_r S n 3 = some (n + 4) ∧ st_t S (n + 4) = some (100, 16)
def gMi (S : xm_S) (V : VV) (n f k : Nat) : Prop := (∀ p, p < 6 → st_i S (n + 1) p = V f (k + p)) ∧ ∀ j, j < 16 → st_i S (n + 2) j = V f (k + (6 + j)) ∧ st_i S (n + 3) j = V f (k + (22 + j)) ∧ st_i S (n + 4) j = V f (k + (38 + j))
def gI1 (S : xm_S) : Prop := st_r S 24 0 = some 25 ∧ gMc S 25 ∧ st_r S 24 1 = some 30 ∧ st_t S 30 = some (111, 6) ∧ st_r S 24 7 = some 31 ∧ st_t S 31 = some (100, 16) ∧ st_r S 24 8 = some 32 ∧ st_t S 32 = some (100, 16) ∧ st_r S 24 9 = some 33 ∧ st_t S 33 = some (101, 16) ∧ ∀ g, g < 6 → st_t S (40 + 6 * g) = some (1, 0) ∧ st_r S (40 + 6 * g) 2 = some (41 + 6 * g) ∧ gMc S (41 + 6 * g)
def gI2 (S : xm_S) (V : VV) : Prop := gMi S V 25 50 0 ∧ st_i S 24 2 = V 56 0 ∧ st_i S 24 3 = V 55 0 ∧ st_i S 24 4 = V 54 0 ∧ st_i S 24 5 = V 52 0 ∧ st_i S 24 6 = V 53 0 ∧ ∀ k, k < 16 → st_i S 31 k = V 48 k ∧ (V 48 k ≠ -1 → st_i S 32 k = V 49 k)
def gI3 (S : xm_S) (V : VV) : Prop := ∃ π : Nat → Nat, (∀ i, i < 6 → π i < 6 ∧ st_r S 30 i = some (40 + 6 * π i)) ∧ (∀ i j, i < j → j < 6 → π i ≠ π j) ∧ ∀ i, i < vn V 56 0 → st_i S (40 + 6 * π i) 0 = V 57 i ∧ st_i S (40 + 6 * π i) 1 = V 58 i ∧ gMi S V (41 + 6 * π i) 59 (54 * i)
def CR (S : xm_S) (V : VV) (N : Nat) : Prop := 2000 ≤ N ∧ frs N S ∧ gS S ∧ gX S V ∧ gO S ∧ gT S V ∧ gP S V ∧ gV S V N ∧ gW S V N ∧ gA S V N ∧ gL S V ∧ gM S V ∧ gI1 S ∧ gI2 S V ∧ gI3 S V
