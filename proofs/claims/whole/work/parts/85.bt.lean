-- sets as the bits of an int
def bt (x : Int32) (i : Nat) : Bool := x.toBitVec.getLsbD i
theorem bt_ge {x : Int32} {i : Nat} (h : 32 ≤ i) : bt x i = false := BitVec.getLsbD_of_ge _ _ h
theorem bt_0 (i : Nat) : bt 0 i = false := by unfold bt; simp
theorem bt_or (x y : Int32) (i : Nat) : bt (x ||| y) i = (bt x i || bt y i) := by unfold bt; simp
theorem bt_and (x y : Int32) (i : Nat) : bt (x &&& y) i = (bt x i && bt y i) := by unfold bt; simp
theorem bt_not (x : Int32) {i : Nat} (h : i < 32) : bt (x ^^^ (-1 : Int32)) i = !bt x i := by
  have e : ∀ i, i < 32 → (BitVec.allOnes 32).getLsbD i = true := by decide
  unfold bt
  rw [Int32.toBitVec_xor, BitVec.getLsbD_xor, show (-1 : Int32).toBitVec = BitVec.allOnes 32 from rfl, e i h, Bool.xor_true]
theorem bt_ext {x y : Int32} (h : ∀ i, i < 32 → bt x i = bt y i) : x = y := Int32.toBitVec.inj (BitVec.eq_of_getLsbD_eq fun i hi => h i hi)
theorem bt_z {x : Int32} : x = 0 ↔ ∀ i, i < 32 → bt x i = false := ⟨fun e i _ => by rw [e]; exact bt_0 i, fun h => bt_ext fun i hi => by rw [h i hi, bt_0]⟩
theorem bt_nz {x : Int32} : ¬ x = 0 ↔ ∃ i, i < 32 ∧ bt x i = true := by
  rw [bt_z]
  refine ⟨fun h => Classical.byContradiction fun hh => h fun i hi => ?_, fun ⟨i, hi, e⟩ h => by rw [h i hi] at e; cases e⟩
  cases e : bt x i
  · rfl
  · exact absurd ⟨i, hi, e⟩ hh
theorem sm_k : ∀ k, k < 32 → (nI k &&& 31 : Int32) = nI k ∧ ((nI k).toBitVec.smod 32#32) = BitVec.ofNat 32 k := by decide +kernel
theorem bt_sl {x : Int32} {k i : Nat} (hk : k < 32) : bt (x <<< (nI k &&& 31)) i = (decide (i < 32) && decide (k ≤ i) && bt x (i - k)) := by
  unfold bt
  rw [(sm_k k hk).1, Int32.toBitVec_shiftLeft, show ((nI k).toBitVec.smod (32 : BitVec 32)) = BitVec.ofNat 32 k from (sm_k k hk).2, BitVec.shiftLeft_eq', BitVec.getLsbD_shiftLeft, BitVec.toNat_ofNat, Nat.mod_eq_of_lt (show k < 2 ^ 32 by omega)]
  by_cases e : k ≤ i
  · rw [decide_eq_true e, decide_eq_false (show ¬ i < k by omega)]; rfl
  · rw [decide_eq_false e, decide_eq_true (show i < k by omega)]; simp
theorem bt_sr {x : Int32} {k i : Nat} (hk : k < 32) (hi : i + k < 32) : bt (x >>> (nI k &&& 31)) i = bt x (i + k) := by
  unfold bt
  rw [(sm_k k hk).1, Int32.toBitVec_shiftRight, show ((nI k).toBitVec.smod (32 : BitVec 32)) = BitVec.ofNat 32 k from (sm_k k hk).2, BitVec.sshiftRight_eq', BitVec.getLsbD_sshiftRight, BitVec.toNat_ofNat, Nat.mod_eq_of_lt (show k < 2 ^ 32 by omega), if_pos (by omega), decide_eq_false (show ¬ 32 ≤ i by omega), Nat.add_comm]
  rfl
theorem bt_one {k i : Nat} (hk : k < 32) : bt ((1 : Int32) <<< (nI k &&& 31)) i = decide (i = k) := by
  rw [bt_sl hk]
  by_cases e : i = k
  · subst e; rw [decide_eq_true hk, decide_eq_true (Nat.le_refl i), Nat.sub_self]; simp; rfl
  · rw [decide_eq_false e]
    by_cases e2 : k ≤ i
    · have : ∀ j, 0 < j → bt 1 j = false := fun j hj => by
        unfold bt
        by_cases h : j < 32
        · have : ∀ j, j < 32 → 0 < j → (1 : Int32).toBitVec.getLsbD j = false := by decide
          exact this j h hj
        · exact BitVec.getLsbD_of_ge _ _ (by omega)
      rw [this (i - k) (by omega), Bool.and_false]
    · rw [decide_eq_false e2, Bool.and_false, Bool.false_and]
theorem bt_1 {i : Nat} : bt 1 i = decide (i = 0) := by
  have := bt_one (k := 0) (i := i) (by decide)
  rw [← this]
  rfl
/-- the test of one bit -/
theorem b1_z {x : Int32} {k : Nat} (hk : k < 32) : ((x >>> (nI k &&& 31)) &&& (1 : Int32)) = 0 ↔ bt x k = false := by
  rw [bt_z]
  refine ⟨fun h => ?_, fun h i hi => ?_⟩
  · have := h 0 (by decide)
    rw [bt_and, bt_1, bt_sr hk (by omega), Nat.zero_add] at this
    simpa using this
  · rw [bt_and, bt_1]
    by_cases e : i = 0
    · subst e; rw [bt_sr hk (by omega), Nat.zero_add, h]; rfl
    · rw [decide_eq_false e, Bool.and_false]
theorem b1_o {x : Int32} {k : Nat} (hk : k < 32) : ((x >>> (nI k &&& 31)) &&& (1 : Int32)) = 1 ↔ bt x k = true := by
  constructor
  · intro h
    cases e : bt x k
    · rw [(b1_z hk).mpr e] at h; exact absurd h (by decide)
    · rfl
  · intro h
    refine bt_ext fun i hi => ?_
    rw [bt_and, bt_1]
    by_cases e : i = 0
    · subst e; rw [bt_sr hk (by omega), Nat.zero_add, h]; rfl
    · rw [decide_eq_false e, Bool.and_false]
theorem bt_and_z {x y : Int32} : (x &&& y) = 0 ↔ ∀ i, i < 32 → bt x i = true → bt y i = false := by
  rw [bt_z]
  refine ⟨fun h i hi e => ?_, fun h i hi => ?_⟩
  · have := h i hi
    rw [bt_and, e, Bool.true_and] at this; exact this
  · rw [bt_and]
    cases e : bt x i
    · rfl
    · rw [h i hi e]; rfl
/-- the model's 'isIn' -/
theorem m_isIn {x : Int32} {k : Nat} {S : xm_S} {g : Int32 → xm_S → Prop} (hk : k < 32) (h : g (bI (bt x k)) S) : wp_X12_isIn x (nI k) S g := by
  unfold wp_X12_isIn wp_X12_isIn_14
  refine ⟨fun e => ⟨.inl rfl, ?_⟩, fun e => ⟨.inr rfl, ?_⟩⟩
  · rw [b1_o hk] at e
    rw [show bt x k = false by cases h2 : bt x k; rfl; exact absurd h2 e] at h
    exact h
  · rw [b1_o hk] at e
    rw [e] at h
    exact h
theorem lg_z {x : Int64} : lg_cmp x 0 = 0 ↔ x = 0 := by
  unfold lg_cmp
  by_cases e : x = 0
  · subst e; exact ⟨fun _ => rfl, fun _ => by decide⟩
  · refine ⟨fun h => ?_, fun h => absurd h e⟩
    split at h <;> first | exact absurd h (by decide) | (split at h <;> first | exact absurd h (by decide) | assumption)
-- longs
def bl (x : Int64) (i : Nat) : Bool := x.toBitVec.getLsbD i
theorem bl_0 (i : Nat) : bl 0 i = false := by unfold bl; simp
theorem bl_or (x y : Int64) (i : Nat) : bl (x ||| y) i = (bl x i || bl y i) := by unfold bl; simp
theorem bl_and (x y : Int64) (i : Nat) : bl (x &&& y) i = (bl x i && bl y i) := by unfold bl; simp
theorem bl_ext {x y : Int64} (h : ∀ i, i < 64 → bl x i = bl y i) : x = y := Int64.toBitVec.inj (BitVec.eq_of_getLsbD_eq fun i hi => h i hi)
theorem sl_k : ∀ k, k < 64 → ((nI k).toInt64 &&& 63).toBitVec.smod 64#64 = BitVec.ofNat 64 k := by decide +kernel
theorem bl_one {k i : Nat} (hk : k < 64) : bl ((1 : Int64) <<< ((nI k).toInt64 &&& 63)) i = decide (i = k) := by
  unfold bl
  rw [Int64.toBitVec_shiftLeft, show (((nI k).toInt64 &&& 63).toBitVec.smod (64 : BitVec 64)) = BitVec.ofNat 64 k from sl_k k hk, BitVec.shiftLeft_eq', BitVec.getLsbD_shiftLeft, BitVec.toNat_ofNat, Nat.mod_eq_of_lt (show k < 2 ^ 64 by omega)]
  have o : ∀ j, (1 : Int64).toBitVec.getLsbD j = decide (j = 0) := fun j => by
    by_cases h : j < 64
    · have : ∀ j, j < 64 → (1 : Int64).toBitVec.getLsbD j = decide (j = 0) := by decide
      exact this j h
    · rw [BitVec.getLsbD_of_ge _ _ (by omega), decide_eq_false (by omega)]
  rw [o]
  by_cases e : i = k
  · subst e; rw [decide_eq_true hk]; simp
  · rw [decide_eq_false e]
    by_cases e2 : i < k
    · rw [decide_eq_true e2]; simp
    · rw [decide_eq_false (show ¬ i - k = 0 by omega), Bool.and_false]
theorem bl_two {x : Int64} {k : Nat} (hk : k < 62) : ((x >>> ((nI k).toInt64 &&& 63)) &&& (3 : Int64)) = 0 ↔ bl x k = false ∧ bl x (k + 1) = false := by
  have o : ∀ j, bl 3 j = decide (j < 2) := fun j => by
    unfold bl
    by_cases h : j < 64
    · have : ∀ j, j < 64 → (3 : Int64).toBitVec.getLsbD j = decide (j < 2) := by decide
      exact this j h
    · rw [BitVec.getLsbD_of_ge _ _ (by omega), decide_eq_false (by omega)]
  have s : ∀ j, j < 2 → bl (x >>> ((nI k).toInt64 &&& 63)) j = bl x (k + j) := fun j hj => by
    unfold bl
    rw [Int64.toBitVec_shiftRight, show (((nI k).toInt64 &&& 63).toBitVec.smod (64 : BitVec 64)) = BitVec.ofNat 64 k from sl_k k (by omega), BitVec.sshiftRight_eq', BitVec.getLsbD_sshiftRight, BitVec.toNat_ofNat, Nat.mod_eq_of_lt (show k < 2 ^ 64 by omega), if_pos (by omega), decide_eq_false (show ¬ 64 ≤ j by omega)]
    rfl
  constructor
  · intro h
    have a := congrArg (fun y => bl y 0) h
    have b := congrArg (fun y => bl y 1) h
    have a : bl ((x >>> ((nI k).toInt64 &&& 63)) &&& (3 : Int64)) 0 = bl 0 0 := a
    have b : bl ((x >>> ((nI k).toInt64 &&& 63)) &&& (3 : Int64)) 1 = bl 0 1 := b
    rw [bl_and, o, s 0 (by decide), bl_0] at a
    rw [bl_and, o, s 1 (by decide), bl_0] at b
    simpa using And.intro a b
  · intro ⟨a, b⟩
    refine bl_ext fun i hi => ?_
    rw [bl_and, o, bl_0]
    by_cases e : i < 2
    · rw [s i e]
      have : i = 0 ∨ i = 1 := by omega
      rcases this with e | e
      · rw [e, Nat.add_zero, a]; rfl
      · rw [e, b]; rfl
    · rw [decide_eq_false e, Bool.and_false]
