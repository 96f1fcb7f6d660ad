-- the class's digits and ranks
def rp10 (v : Nat) : Nat := if v = 0 then 10 else v
theorem rp10_b {v : Nat} (h : v ≤ 10) : 1 ≤ rp10 v ∧ rp10 v ≤ 10 := by unfold rp10; split <;> omega
def dgf (e M m p v : Nat) : Nat := 65536 * e + (4096 * M + (256 * m + (16 * p + rp10 v)))
def rkf (sc e M m p v : Nat) : Nat := if sc = 1 then dgf e M m p v else if sc = 2 then 4096 * p + (256 * M + (16 * m + rp10 v)) else dgf 0 M m p v
def dgN (n : Nat) : Nat := dgf (n / 10000) (n / 1000 % 10) (n / 100 % 10) (n / 10 % 10) (n % 10)
def dgT (t : tt) : Nat := dgf t.2.1 t.2.2.1 t.2.2.2.1 t.2.2.2.2.1 t.2.2.2.2.2.1
def rkN (sc n : Nat) : Nat := rkf sc (n / 10000) (n / 1000 % 10) (n / 100 % 10) (n / 10 % 10) (n % 10)
def rkT (sc : Nat) (t : tt) : Nat := rkf sc t.2.1 t.2.2.1 t.2.2.2.1 t.2.2.2.2.1 t.2.2.2.2.2.1
theorem dgf_lt {e M m p v : Nat} (h1 : e ≤ 10) (h2 : M ≤ 10) (h3 : m ≤ 10) (h4 : p ≤ 10) (h5 : v ≤ 10) : dgf e M m p v < 1048576 := by
  have := rp10_b h5
  unfold dgf
  omega
theorem rkf_lt {sc e M m p v : Nat} (h1 : e ≤ 10) (h2 : M ≤ 10) (h3 : m ≤ 10) (h4 : p ≤ 10) (h5 : v ≤ 10) : rkf sc e M m p v < 1048576 := by
  have := rp10_b h5
  unfold rkf
  split
  · exact dgf_lt h1 h2 h3 h4 h5
  · split
    · omega
    · exact dgf_lt (Nat.zero_le _) h2 h3 h4 h5
theorem cq_rank {sc e M m p v : Nat} {S : xm_S} {g : Int32 → xm_S → Prop} (hs : sc ≤ 2) (h1 : e ≤ 10) (h2 : M ≤ 10) (h3 : m ≤ 10) (h4 : p ≤ 10) (h5 : v ≤ 10) (h : g (nI (rkf sc e M m p v)) S) : wp_X9_rank (nI (dgf e M m p v)) (nI sc) S g := by
  have hr := rp10_b h5
  have hd := dgf_lt h1 h2 h3 h4 h5
  have E2 : nI sc = nI 2 ↔ sc = 2 := nI_eq (by omega) (by decide)
  have E1 : nI sc = 1 ↔ sc = 1 := nI_o (by omega)
  unfold wp_X9_rank
  rw [E1, E2]
  refine ⟨fun a1 => ⟨fun a2 => ?_, fun a2 => ?_⟩, fun a1 => ?_⟩
  · rw [show rkf sc e M m p v = dgf 0 M m p v by unfold rkf; rw [if_neg a1, if_neg a2]] at h
    rw [pk_andN (by omega) 16 (by decide), show dgf e M m p v % 2 ^ 16 = dgf 0 M m p v by unfold dgf; omega]
    exact h
  · rw [show rkf sc e M m p v = 4096 * p + (256 * M + (16 * m + rp10 v)) by unfold rkf; rw [if_neg a1, if_pos a2]] at h
    have q1 : dgf e M m p v / 2 ^ 4 % 2 ^ 4 = p := by unfold dgf; omega
    have q2 : dgf e M m p v / 2 ^ 8 % 2 ^ 8 = 16 * M + m := by unfold dgf; omega
    have q3 : dgf e M m p v % 2 ^ 4 = rp10 v := by unfold dgf; omega
    rw [pk_shrN (n := dgf e M m p v) (by omega) (nI 4 &&& 31) 4 (by decide), pk_shrN (n := dgf e M m p v) (by omega) (nI 8 &&& 31) 8 (by decide), pk_andN (n := dgf e M m p v / 2 ^ 4) (by omega) 4 (by decide), pk_andN (n := dgf e M m p v / 2 ^ 8) (by omega) 8 (by decide), pk_andN (n := dgf e M m p v) (by omega) 4 (by decide), q1, q2, q3, pk_shlN (n := p) (nI 12 &&& 31) 12 (by decide) (by omega), pk_shlN (n := 16 * M + m) (nI 4 &&& 31) 4 (by decide) (by omega)]
    rw [Nat.mul_comm p, fa_or_sum (k := 12) (a := (16 * M + m) * 2 ^ 4) p (by omega), show 2 ^ 12 * p + (16 * M + m) * 2 ^ 4 = 2 ^ 4 * (2 ^ 8 * p + (16 * M + m)) by omega, fa_or_sum (k := 4) _ (by omega), show 2 ^ 4 * (2 ^ 8 * p + (16 * M + m)) + rp10 v = 4096 * p + (256 * M + (16 * m + rp10 v)) by omega]
    exact h
  · rw [show rkf sc e M m p v = dgf e M m p v by unfold rkf; rw [if_pos a1]] at h
    exact h
theorem or_up {a k : Nat} (b : Nat) (h : a < 2 ^ k) : nI a ||| nI (b * 2 ^ k) = nI (b * 2 ^ k + a) := by rw [fa_or, Nat.or_comm, Nat.mul_comm b, Nat.two_pow_add_eq_or_of_lt h]
theorem cq_digitsOf {n : Nat} {S : xm_S} {g : Int32 → xm_S → Prop} (hn : n < 100000) (h : g (nI (dgN n)) S) : wp_X9_digitsOf (nI n) S g := by
  unfold wp_X9_digitsOf
  rw [pk_rem (a := n) (d := 10) (by omega) (by decide) (by decide), nI_z (by omega)]
  have C : ∀ r, r = rp10 (n % 10) → wp_X9_digitsOf_16 (nI n) (nI r) S g := by
    intro r er
    have hr := rp10_b (v := n % 10) (by omega)
    unfold wp_X9_digitsOf_16
    rw [pk_div (a := n) (d := 10000) (by omega) (by decide) (by decide), pk_div (a := n) (d := 1000) (by omega) (by decide) (by decide), pk_div (a := n) (d := 100) (by omega) (by decide) (by decide), pk_div (a := n) (d := 10) (by omega) (by decide) (by decide), pk_rem (a := n / 1000) (d := 10) (by omega) (by decide) (by decide), pk_rem (a := n / 100) (d := 10) (by omega) (by decide) (by decide), pk_rem (a := n / 10) (d := 10) (by omega) (by decide) (by decide), pk_rem (a := n / 10000) (d := 10) (by omega) (by decide) (by decide)]
    rw [pk_shlN (n := n / 10 % 10) (nI 4 &&& 31) 4 (by decide) (by omega), pk_shlN (n := n / 100 % 10) (nI 8 &&& 31) 8 (by decide) (by omega), pk_shlN (n := n / 1000 % 10) (nI 12 &&& 31) 12 (by decide) (by omega), pk_shlN (n := n / 10000 % 10) (nI 16 &&& 31) 16 (by decide) (by omega)]
    intro y1 e1 y3 e3 y5 e5
    rw [or_up (k := 4) _ (by omega)] at e1
    rw [e1, or_up (k := 8) _ (by omega)] at e3
    rw [e3, or_up (k := 12) _ (by omega)] at e5
    rw [e5, or_up (k := 16) _ (by omega), show n / 10000 % 10 * 2 ^ 16 + (n / 1000 % 10 * 2 ^ 12 + (n / 100 % 10 * 2 ^ 8 + (n / 10 % 10 * 2 ^ 4 + r))) = dgN n by unfold dgN dgf; omega]
    exact h
  exact ⟨fun e => C _ (by unfold rp10; rw [if_neg e]), fun e => C 10 (by unfold rp10; rw [if_pos e])⟩
theorem and_hi {d k : Nat} (hd : d < 2 ^ 32) (hk : k ≤ 32) : d &&& (2 ^ 32 - 2 ^ k) = 2 ^ k * (d / 2 ^ k) := by
  have e : 2 ^ 32 - 2 ^ k = 2 ^ k * (2 ^ (32 - k) - 1) := by
    rw [Nat.mul_sub, Nat.mul_one, ← Nat.pow_add, show k + (32 - k) = 32 by omega]
  rw [e]
  refine Nat.eq_of_testBit_eq fun i => ?_
  rw [Nat.testBit_and, Nat.testBit_two_pow_mul, Nat.testBit_two_pow_mul, Nat.testBit_two_pow_sub_one, Nat.testBit_div_two_pow]
  by_cases h1 : i ≥ k
  · rw [show i - k + k = i by omega]
    by_cases h2 : i < 32
    · rw [decide_eq_true h1, decide_eq_true (show i - k < 32 - k by omega), Bool.true_and, Bool.true_and, Bool.and_true]
    · rw [Nat.testBit_lt_two_pow (Nat.lt_of_lt_of_le hd (Nat.pow_le_pow_right (by decide) (by omega)))]
      simp
  · rw [decide_eq_false h1]
    simp
theorem and_neg {d : Nat} (k : Nat) (hd : d < 2 ^ 31) (hk : k ≤ 32) {x : Int32} (hx : -x = nI (2 ^ 32 - 2 ^ k)) : nI d &&& -x = nI (2 ^ k * (d / 2 ^ k)) := by
  rw [hx, fa_and, and_hi (by omega) hk]
theorem cq_next {t : tt} {S : xm_S} {g : Int32 → xm_S → Prop} (ok : tOK t) (h5 : t.1 = 5 ∨ t.1 = 6) (h : g (nI (dgf t.2.1 (nxt t.1 t.2.2.1 t.2.2.2.1 t.2.2.2.2.1 t.2.2.2.2.2.2).1 (nxt t.1 t.2.2.1 t.2.2.2.1 t.2.2.2.2.1 t.2.2.2.2.2.2).2.1 (nxt t.1 t.2.2.1 t.2.2.2.1 t.2.2.2.2.1 t.2.2.2.2.2.2).2.2 0)) S) : wp_X9_next (nI (t.1 + 1)) (nI (dgT t)) (bI (decide (1 < t.2.2.2.2.2.2))) S g := by
  obtain ⟨o1, o2, o3, o4, o5, o6, o7, o8⟩ := ok
  have hr := rp10_b (v := t.2.2.2.2.2.1) (by omega)
  have hd := dgf_lt (e := t.2.1) (M := t.2.2.1) (m := t.2.2.2.1) (p := t.2.2.2.2.1) (v := t.2.2.2.2.2.1) (by omega) (by omega) (by omega) (by omega) (by omega)
  have q1 : dgT t / 2 ^ 12 % 2 ^ 4 = t.2.2.1 := by unfold dgT dgf; omega
  have q2 : dgT t / 2 ^ 8 % 2 ^ 4 = t.2.2.2.1 := by unfold dgT dgf; omega
  have hd' : dgT t < 1048576 := hd
  have S16 : (2 ^ 4 * (dgT t / 2 ^ 4) + 16) + 10 = dgf t.2.1 t.2.2.1 t.2.2.2.1 (t.2.2.2.2.1 + 1) 0 := by unfold dgT dgf; rw [show rp10 0 = 10 from rfl]; omega
  have S256 : (2 ^ 8 * (dgT t / 2 ^ 8) + 256) + 10 = dgf t.2.1 t.2.2.1 (t.2.2.2.1 + 1) 0 0 := by unfold dgT dgf; rw [show rp10 0 = 10 from rfl]; omega
  have S4096 : (2 ^ 12 * (dgT t / 2 ^ 12) + 4096) + 10 = dgf t.2.1 (t.2.2.1 + 1) 0 0 0 := by unfold dgT dgf; rw [show rp10 0 = 10 from rfl]; omega
  have A16 : g (nI (dgf t.2.1 t.2.2.1 t.2.2.2.1 (t.2.2.2.2.1 + 1) 0)) S → wp_X9_next_80 (nI (dgT t)) (nI 16) S g := fun hh => by
    unfold wp_X9_next_80
    rw [and_neg 4 (by omega) (by decide) (by decide), nI_add, nI_add, S16]; exact hh
  have A256 : g (nI (dgf t.2.1 t.2.2.1 (t.2.2.2.1 + 1) 0 0)) S → wp_X9_next_80 (nI (dgT t)) (nI 256) S g := fun hh => by
    unfold wp_X9_next_80
    rw [and_neg 8 (by omega) (by decide) (by decide), nI_add, nI_add, S256]; exact hh
  have A4096 : g (nI (dgf t.2.1 (t.2.2.1 + 1) 0 0 0)) S → wp_X9_next_75 (nI (dgT t)) S g := fun hh => by
    unfold wp_X9_next_75 wp_X9_next_80
    rw [and_neg 12 (by omega) (by decide) (by decide), nI_add, nI_add, S4096]; exact hh
  have E6 : nI (t.1 + 1) = nI 6 ↔ t.1 = 5 := by rw [nI_eq (by omega) (by decide)]; omega
  have X : ∀ bM bm : Bool, bM = decide (0 < t.2.2.1) → bm = decide (0 < t.2.2.2.1) → wp_X9_next_31 (nI (t.1 + 1)) (nI (dgT t)) (bI (decide (1 < t.2.2.2.2.2.2))) (bI bM) (bI bm) S g := by
    intro bM bm eM em
    unfold wp_X9_next_31 wp_X9_next_53 wp_X9_next_56
    rw [E6]
    unfold nxt bMaj bMin at h
    rcases h5 with h5 | h5
    · rw [if_pos h5, ← eM] at h
      refine ⟨fun e => absurd h5 e, fun _ => bI_c' (fun h1 => ⟨fun e => absurd h5 e, fun _ => bI_c (fun _ => ?_) (fun h2 => absurd (h1.symm.trans h2) (by decide))⟩) (fun h1 => ?_)⟩
      · rw [if_pos h1] at h
        exact A4096 h
      · rw [if_neg (by rw [h1]; decide)] at h
        refine bI_c' (fun h2 => ⟨fun e => absurd h5 e, fun _ => bI_c (fun h3 => absurd (h3.symm.trans h1) (by decide)) (fun _ => ?_)⟩) (fun h2 => ⟨fun e => absurd h5 e, fun _ => bI_c (fun h3 => absurd (h3.symm.trans h1) (by decide)) (fun _ => ?_)⟩)
        · rw [em] at h2
          have h2 := of_decide_eq_true h2
          rw [if_pos (decide_eq_true (.inr h2))] at h
          exact A256 h
        · rw [em] at h2
          have h2 := of_decide_eq_false h2
          rw [if_neg (by rw [decide_eq_true_iff]; omega)] at h
          exact A16 h
    · rw [if_neg (show ¬ t.1 = 5 by omega)] at h
      refine ⟨fun _ => ⟨fun _ => bI_c' (fun h1 => ?_) (fun h1 => ?_), fun e => absurd e (by omega)⟩, fun e => absurd e (by omega)⟩
      · have h1 := of_decide_eq_true h1
        rw [if_neg (show ¬ decide (t.2.2.2.2.2.2 = 1) = true by rw [decide_eq_true_iff]; omega), if_pos (show decide (t.1 = 6 ∨ 0 < t.2.2.2.1) = true from decide_eq_true (.inl h5))] at h
        exact A256 h
      · have h1 := of_decide_eq_false h1
        rw [if_pos (show decide (t.2.2.2.2.2.2 = 1) = true from decide_eq_true (by omega))] at h
        exact A4096 h
  unfold wp_X9_next wp_X9_next_15
  rw [pk_shrN (n := dgT t) (by omega) (nI 12 &&& 31) 12 (by decide), pk_andN (n := dgT t / 2 ^ 12) (by omega) 4 (by decide), q1, pk_shrN (n := dgT t) (by omega) (nI 8 &&& 31) 8 (by decide), pk_andN (n := dgT t / 2 ^ 8) (by omega) 4 (by decide), q2, nI_z (by omega), nI_z (by omega)]
  exact ⟨fun z1 => ⟨fun z2 => X false false (decide_eq_false (by omega)).symm (decide_eq_false (by omega)).symm, fun z2 => X false true (decide_eq_false (by omega)).symm (decide_eq_true (by omega)).symm⟩, fun z1 => ⟨fun z2 => X true false (decide_eq_true (by omega)).symm (decide_eq_false (by omega)).symm, fun z2 => X true true (decide_eq_true (by omega)).symm (decide_eq_true (by omega)).symm⟩⟩
-- ranks (by sixteens) and keys (by elevens) order alike
theorem lx (x x' y y' c c' : Nat) (h1 : x < x' ↔ y < y') (h2 : x = x' ↔ y = y') (hc : c ≤ 10) (hc' : c' ≤ 10) : (x * 16 + c < x' * 16 + c' ↔ y * 11 + c < y' * 11 + c') ∧ (x * 16 + c = x' * 16 + c' ↔ y * 11 + c = y' * 11 + c') := by
  by_cases a : x < x'
  · have := h1.mp a; omega
  · by_cases b : x = x'
    · have := h2.mp b; omega
    · have a' := fun hh => a (h1.mpr hh); have b' := fun hh => b (h2.mpr hh); omega
theorem rk_ky {sc e M m p v e' M' m' p' v' : Nat} (hs : sc ≤ 2) (h : e ≤ 10 ∧ M ≤ 10 ∧ m ≤ 10 ∧ p ≤ 10 ∧ v ≤ 10) (h' : e' ≤ 10 ∧ M' ≤ 10 ∧ m' ≤ 10 ∧ p' ≤ 10 ∧ v' ≤ 10) : (rkf sc e M m p v < rkf sc e' M' m' p' v' ↔ ky sc e M m p v < ky sc e' M' m' p' v') ∧ (rkf sc e M m p v = rkf sc e' M' m' p' v' ↔ ky sc e M m p v = ky sc e' M' m' p' v') := by
  obtain ⟨a1, a2, a3, a4, a5⟩ := h
  obtain ⟨b1, b2, b3, b4, b5⟩ := h'
  have r1 := rp10_b a5
  have r2 := rp10_b b5
  have K : ∀ a b c d a' b' c' d' : Nat, a ≤ 10 → b ≤ 10 → c ≤ 10 → a' ≤ 10 → b' ≤ 10 → c' ≤ 10 → ∀ x x' y y' : Nat, (x < x' ↔ y < y') → (x = x' ↔ y = y') → d ≤ 10 → d' ≤ 10 → ((((x * 16 + a) * 16 + b) * 16 + c) * 16 + d < (((x' * 16 + a') * 16 + b') * 16 + c') * 16 + d' ↔ (((y * 11 + a) * 11 + b) * 11 + c) * 11 + d < (((y' * 11 + a') * 11 + b') * 11 + c') * 11 + d') ∧ ((((x * 16 + a) * 16 + b) * 16 + c) * 16 + d = (((x' * 16 + a') * 16 + b') * 16 + c') * 16 + d' ↔ (((y * 11 + a) * 11 + b) * 11 + c) * 11 + d = (((y' * 11 + a') * 11 + b') * 11 + c') * 11 + d') := by
    intro a b c d a' b' c' d' g1 g2 g3 g4 g5 g6 x x' y y' q1 q2 g7 g8
    have s1 := lx x x' y y' a a' q1 q2 g1 g4
    have s2 := lx _ _ _ _ b b' s1.1 s1.2 g2 g5
    have s3 := lx _ _ _ _ c c' s2.1 s2.2 g3 g6
    exact lx _ _ _ _ d d' s3.1 s3.2 g7 g8
  unfold rkf ky dgf
  have x1 : sc = 0 ∨ sc = 1 ∨ sc = 2 := by omega
  change _ ∧ _
  rw [show (if v = 0 then 10 else v) = rp10 v from rfl, show (if v' = 0 then 10 else v') = rp10 v' from rfl]
  generalize rp10 v = r at *
  generalize rp10 v' = r' at *
  rcases x1 with rfl | rfl | rfl
  · have := K M m p r M' m' p' r' a2 a3 a4 b2 b3 b4 0 0 0 0 (by omega) (by omega) r1.2 r2.2
    simp only [show ¬ (0 : Nat) = 1 by decide, show ¬ (0 : Nat) = 2 by decide, if_false]
    omega
  · have := K M m p r M' m' p' r' a2 a3 a4 b2 b3 b4 e e' e e' (by omega) (by omega) r1.2 r2.2
    simp only [show ¬ (1 : Nat) = 2 by decide, if_false, if_true]
    omega
  · have := K p M m r p' M' m' r' a4 a2 a3 b4 b2 b3 0 0 0 0 (by omega) (by omega) r1.2 r2.2
    simp only [show ¬ (2 : Nat) = 1 by decide, if_false, if_true]
    omega
