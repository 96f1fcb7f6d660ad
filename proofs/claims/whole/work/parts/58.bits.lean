-- how many bits of keys are set
def pc5 (n : Nat) : Nat := n % 2 + n / 2 % 2 + n / 4 % 2 + n / 8 % 2 + n / 16 % 2
def bc1 (x : Int32) : Int32 := x - (((x.toUInt32 >>> ((1 : Int32).toUInt32 &&& Int32.toUInt32 31)).toInt32) &&& (nI 1431655765))
def bc2 (y : Int32) : Int32 := (y &&& (nI 858993459)) + (((y.toUInt32 >>> ((nI 2).toUInt32 &&& Int32.toUInt32 31)).toInt32) &&& (nI 858993459))
def bc3 (y : Int32) : Int32 := (y + ((y.toUInt32 >>> ((nI 4).toUInt32 &&& Int32.toUInt32 31)).toInt32)) &&& (nI 252645135)
def bc4 (y : Int32) : Int32 := y + ((y.toUInt32 >>> ((nI 8).toUInt32 &&& Int32.toUInt32 31)).toInt32)
def bc5 (y : Int32) : Int32 := (y + ((y.toUInt32 >>> ((nI 16).toUInt32 &&& Int32.toUInt32 31)).toInt32)) &&& (nI 63)
theorem bc_ok : ∀ n, n < 32 → bc5 (bc4 (bc3 (bc2 (bc1 (nI n))))) = nI (pc5 n) := by decide +kernel
theorem q_bits {n : Nat} {S : xm_S} {g : Int32 → xm_S → Prop} (hn : n < 32) (h : g (nI (pc5 n)) S) : wp_J6_bitCount_0f7a4 (nI n) S g := by
  unfold wp_J6_bitCount_0f7a4
  intro y1 e1 y3 e3 y5 e5 y7 e7 y9 e9
  have E := bc_ok n hn
  have e1 : y1 = bc1 (nI n) := e1
  have e3 : y3 = bc2 y1 := e3
  have e5 : y5 = bc3 y3 := e5
  have e7 : y7 = bc4 y5 := e7
  rw [← e1, ← e3, ← e5, ← e7] at E
  rw [← E] at h
  subst e9
  exact h
def szF (n : Nat) : Nat → Int32
  | 0 => 0
  | k + 1 => szF n k + ((nI n >>> (nI k &&& 31)) &&& (1 : Int32))
theorem sz_ok : ∀ n, n < 32 → szF n 16 = nI (pc5 n) := by decide +kernel
theorem m_size {n : Nat} {S : xm_S} {g : Int32 → xm_S → Prop} (hn : n < 32) (h : g (nI (pc5 n)) S) : wp_X12_size (nI n) S g := by
  unfold wp_X12_size wp_X12_size_4
  intro Z hZ
  have H : ∀ d k, k + d = 16 → Z (nI n) (szF n k) (nI k) S := by
    intro d
    induction d with
    | zero =>
      intro k hk
      refine hZ _ _ _ _ ?_
      unfold wp_X12_size_4B
      refine ⟨fun _ => ?_, fun e => absurd (nI_le (show 16 ≤ k by omega) (by omega)) e⟩
      rw [show k = 16 by omega, sz_ok n hn]
      exact h
    | succ d ih =>
      intro k hk
      refine hZ _ _ _ _ ?_
      unfold wp_X12_size_4B
      refine ⟨fun e => absurd e (nI_ge (show k < 16 by omega) (by decide)), fun _ y1 e1 y3 e3 => ?_⟩
      rw [e1, e3, nI_1]
      exact ih (k + 1) (by omega)
  exact H 16 0 rfl
theorem pc5_b {n : Nat} : pc5 n ≤ 5 := by unfold pc5; omega
theorem and_k (a b : Nat) (h : a ≤ 31) : ∃ c, c ≤ 31 ∧ nI a &&& nI b = nI c := ⟨a &&& b, Nat.le_trans Nat.and_le_left h, fa_and a b⟩
