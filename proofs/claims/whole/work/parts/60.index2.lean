-- index: both sides
def i_ok (n e s : Int32) : Bool := inB n 0 (nI 9999) && (inB e 0 (nI 200000) && inB s 0 (nI 31))
def i_pc (V : VV) (s : Int32) : Int32 := nI (pc5 (s.toNatClampNeg &&& vn V 37 0))
def r_index (V : VV) (n e s : Int32) : Int32 := if ¬ V 38 0 ≤ i_pc V s then 1 else if ¬ V 39 0 ≤ n then 2 else if ¬ V 36 0 < e then nI 3 else 0
def t_index (n e s : Int32) : Nat := if i_ok n e s then 0 else 1
def v_index (V : VV) (n e s : Int32) : VV := if i_ok n e s then (if r_index V n e s = 0 then uV V 39 0 n else V) else V
theorem i_bits {V : VV} {s : Int32} (I : Iv V) (h : inB s 0 (nI 31) = true) : ∃ c, c < 32 ∧ s &&& V 37 0 = nI c ∧ i_pc V s = nI (pc5 c) := by
  obtain ⟨j, hj, ex⟩ := inB_nI h (by decide)
  have g5 := I.2.2.2.1.2.2.2.2.1
  subst ex
  refine ⟨j &&& vn V 37 0, Nat.lt_of_le_of_lt Nat.and_le_left (by omega), ?_, ?_⟩
  · rw [g5.1, fa_and]
  · unfold i_pc
    rw [nI_clamp (by omega)]
theorem Iv_index {V : VV} {n e s : Int32} (I : Iv V) : Iv (v_index V n e s) := by
  unfold v_index
  by_cases h : i_ok n e s = true
  · rw [if_pos h]
    by_cases h2 : r_index V n e s = 0
    · rw [if_pos h2]
      unfold i_ok at h
      rw [Bool.and_eq_true] at h
      obtain ⟨j, hj, ex⟩ := inB_nI h.1 (by decide)
      rw [ex]
      exact Iv_39 I hj
    · rw [if_neg h2]; exact I
  · rw [if_neg h]; exact I
