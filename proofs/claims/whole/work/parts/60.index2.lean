-- index: both sides
def i_ok (n e s : Int32) : Bool := inB n 0 (nI 9999) && (inB e 0 (nI 200000) && inB s 0 (nI 31))
def i_pc (V : VV) (s : Int32) : Int32 := nI (pc5 (s.toNatClampNeg &&& vn V 37 0))
def r_index (V : VV) (n e s : Int32) : Int32 := if ¬ V 38 0 ≤ i_pc V s then 1 else if ¬ V 39 0 ≤ n then 2 else if ¬ V 36 0 < e then nI 3 else 0
def t_index (n e s : Int32) : Nat := if i_ok n e s then 0 else 1
def v_index (V : VV) (n e s : Int32) : VV := if i_ok n e s then (if r_index V n e s = 0 then uV V 39 0 n else V) else V
theorem i_bits {V : VV} {s : Int32} (I : Iv V) (h : inB s 0 (nI 31) = true) : ∃ c, c < 32 ∧ s &&& V 37 0 = nI c ∧ i_pc V s = nI (pc5 c) := by
  obtain ⟨j, hj, ex⟩ := inB_nI h (by decide)
  have g5 := I.2.2.2.1.2.2.2.2.1
  subst ex
  refine ⟨j &&& vn V 37 0, Nat.lt_of_le_of_lt Nat.and_le_left (by omega), ?_, ?_⟩
  · rw [g5.1, fa_and]
  · unfold i_pc
    rw [nI_clamp (by omega)]
theorem Iv_index {V : VV} {n e s : Int32} (I : Iv V) : Iv (v_index V n e s) := by
  unfold v_index
  by_cases h : i_ok n e s = true
  · rw [if_pos h]
    by_cases h2 : r_index V n e s = 0
    · rw [if_pos h2]
      unfold i_ok at h
      rw [Bool.and_eq_true] at h
      obtain ⟨j, hj, ex⟩ := inB_nI h.1 (by decide)
      rw [ex]
      exact Iv_39 I hj
    · rw [if_neg h2]; exact I
  · rw [if_neg h]; exact I
theorem w_index {S : xm_S} {V W : VV} {N : Nat} {n e s : Int32} {g : Int32 → xm_S → Prop} (R : RR S V W N) (I : Iv V) (h : ∀ S' N', RR S' (v_index V n e s) W N' → (t_index n e s = 0 → st_l S' 1200 0 = (r_index V n e s).toInt64) → g (nI (t_index n e s)) S') : wp_L_index (some 1) n e s (some 1200) S g := by
  have I' := Iv_index (n := n) (e := e) (s := s) I
  have c1 := R.1.2.2.1
  have T1 : i_ok n e s = false → g 1 S := fun q => by
    have t : t_index n e s = 1 := by unfold t_index; rw [if_neg (by rw [q]; decide)]
    have w : v_index V n e s = V := by unfold v_index; rw [if_neg (by rw [q]; decide)]
    rw [t, w] at h
    exact h S N R (fun e => absurd e (by decide))
  unfold wp_L_index wp_X11_index
  refine ⟨1, rfl, c1.1, q_range (fun a => q_range (fun b => q_range (fun c => ⟨c1.1, ?_⟩) (fun c => ⟨rfl, T1 (by unfold i_ok; rw [c, Bool.and_false, Bool.and_false])⟩)) (fun b => ⟨rfl, T1 (by unfold i_ok; rw [b, Bool.false_and, Bool.and_false])⟩)) (fun a => ⟨rfl, T1 (by unfold i_ok; rw [a, Bool.false_and])⟩)⟩
  have ok : i_ok n e s = true := by unfold i_ok; rw [a, b, c]; rfl
  have t : t_index n e s = 0 := by unfold t_index; rw [if_pos ok]
  have v : v_index V n e s = if r_index V n e s = 0 then uV V 39 0 n else V := by unfold v_index; rw [if_pos ok]
  obtain ⟨k, hk, ek, ep⟩ := i_bits I c
  rw [t, v] at h
  rw [v] at I'
  have x := R.1.2.2.2.1
  rw [x.2.2.2.2.1, ek]
  refine q_bits hk ⟨c1.1, ?_⟩
  rw [x.2.2.2.2.2.1, x.2.2.2.2.2.2, x.2.2.2.1, ← ep]
  have Q : ∀ r, r_index V n e s = r → ¬ r = 0 → g 0 S → True := fun _ _ _ _ => trivial
  refine ⟨fun p1 => ⟨fun p2 => ⟨fun p3 S11 e11 => ?_, fun p3 => ?_⟩, fun p2 => ?_⟩, fun p1 => ?_⟩
  · have r : r_index V n e s = 0 := by unfold r_index; rw [if_neg (fun hh => hh p1), if_neg (fun hh => hh p2), if_neg (fun hh => hh p3)]
    rw [r, if_pos rfl] at h I'
    have R4 : RR S11 (uV V 39 0 n) W N := by subst e11; exact ⟨CR_x14 R.1 I, MR_K R.2.1 (KM_pi (KM_rfl _) (by omega)), R.2.2⟩
    exact w_out R4 I' fun S' R' hl => h S' N R' (fun _ => hl)
  · have r : r_index V n e s = nI 3 := by unfold r_index; rw [if_neg (fun hh => hh p1), if_neg (fun hh => hh p2), if_pos p3]
    rw [r, if_neg (by decide)] at h
    exact w_out R I fun S' R' hl => h S' N R' (fun _ => hl)
  · have r : r_index V n e s = nI 2 := by unfold r_index; rw [if_neg (fun hh => hh p1), if_pos p2]; rfl
    rw [r, if_neg (by decide)] at h
    exact w_out R I fun S' R' hl => h S' N R' (fun _ => hl)
  · have r : r_index V n e s = 1 := by unfold r_index; rw [if_pos p1]
    rw [r, if_neg (by decide)] at h
    exact w_out R I fun S' R' hl => h S' N R' (fun _ => hl)
theorem ml_index {S : xm_S} {V W : VV} {N : Nat} {n e s : Int32} {g : Int32 → xm_S → Prop} (R : RR S V W N) (I : Iv V) (IW : Iv W) (h : ∀ S' b, RR S' V (v_index W n e s) N → st_i S' 1000 0 = nI (t_index n e s) → (t_index n e s = 0 → b = r_index W n e s) → st_l S' 1200 0 = st_l S 1200 0 → g b S') : wp_X12_index 1000 n e s S g := by
  have X1 : i_ok n e s = false → wp_X12_index_37 1000 n e s (some 1000) S g := fun q => by
    have t : t_index n e s = 1 := by unfold t_index; rw [if_neg (by rw [q]; decide)]
    have w : v_index W n e s = W := by unfold v_index; rw [if_neg (by rw [q]; decide)]
    rw [t, w] at h
    unfold wp_X12_index_37 wp_X12_index_38
    refine ⟨1000, rfl, R.2.1.1.1, m_may (t := 1) R I rfl (by decide) fun S4 R4 k4 e4 => ⟨fun e => absurd rfl e, fun _ => ?_⟩⟩
    exact h S4 _ R4 e4 (fun e => absurd e (by decide)) ((k4 1200 (by omega)).2.2.1 0)
  unfold wp_X12_index
  refine m_in (bI_c (fun a => m_in (bI_c (fun b => m_in (bI_c (fun c => ?_) (fun c => X1 (by unfold i_ok; rw [c, Bool.and_false, Bool.and_false])))) (fun b => X1 (by unfold i_ok; rw [b, Bool.false_and, Bool.and_false])))) (fun a => X1 (by unfold i_ok; rw [a, Bool.false_and])))
  have ok : i_ok n e s = true := by unfold i_ok; rw [a, b, c]; rfl
  have t : t_index n e s = 0 := by unfold t_index; rw [if_pos ok]
  have v : v_index W n e s = if r_index W n e s = 0 then uV W 39 0 n else W := by unfold v_index; rw [if_pos ok]
  obtain ⟨k, hk, ek, ep⟩ := i_bits IW c
  rw [t, v] at h
  unfold wp_X12_index_38
  refine ⟨1000, rfl, R.2.1.1.1, m_may (t := 0) R I rfl (by decide) fun S4 R4 k4 e4 => ⟨fun _ => ⟨R4.2.1.1.1, ?_⟩, fun e => absurd e (by decide)⟩⟩
  have M := R4.2.1.2.1
  have m39 : st_i S4 1000 39 = W 39 0 := M 39 rfl
  have hl := (k4 1200 (by omega)).2.2.1 0
  rw [show st_i S4 1000 37 = W 37 0 from M 37 rfl, ek]
  refine m_size hk ⟨R4.2.1.1.1, ?_⟩
  rw [show st_i S4 1000 38 = W 38 0 from M 38 rfl, m39, show st_i S4 1000 36 = W 36 0 from M 36 rfl, ← ep]
  have X : ∀ r, ¬ r = 0 → r_index W n e s = r → wp_X12_index_91 1000 n r S4 g := fun r hr er => by
    rw [er, if_neg hr] at h
    unfold wp_X12_index_91 wp_X12_index_107
    refine ⟨fun _ => ⟨R4.2.1.1.1, 1000, rfl, R4.2.1.1.1, fun S5 e5 => ?_⟩, fun q => absurd q hr⟩
    rw [m39] at e5
    have k5 : KC S4 S5 := by subst e5; exact KC_pi (KC_rfl _) (by omega)
    have W0 : uV W 39 0 (W 39 0) = W := by
      funext f k
      unfold uV
      split
      next hh => rw [hh.1, hh.2]
      next => rfl
    refine h S5 _ (RR_m R4 I k5 (by have := MR_s (f := 39) (x := W 39 0) R4.2.1; rw [W0] at this; subst e5; exact this)) ?_ (fun _ => rfl) ((k5 1200 (by omega)).2.2.1 0 |>.trans hl)
    rw [e5, st_i_pi_n _ _ _ _ _ _ (by omega)]; exact e4
  refine ⟨fun p1 => ⟨fun p2 => ⟨fun p3 => ?_, fun p3 => X _ (by decide) ?_⟩, fun p2 => X _ (by decide) ?_⟩, fun p1 => X _ (by decide) ?_⟩
  · have r : r_index W n e s = 0 := by unfold r_index; rw [if_neg (fun hh => hh p1), if_neg (fun hh => hh p2), if_neg (fun hh => hh p3)]
    rw [r, if_pos rfl] at h
    unfold wp_X12_index_91 wp_X12_index_107
    refine ⟨fun q => absurd rfl q, fun _ => ⟨1000, rfl, R4.2.1.1.1, fun S5 e5 => ?_⟩⟩
    have k5 : KC S4 S5 := by subst e5; exact KC_pi (KC_rfl _) (by omega)
    refine h S5 _ (RR_m R4 I k5 (by subst e5; exact MR_s R4.2.1)) ?_ (fun _ => rfl) ((k5 1200 (by omega)).2.2.1 0 |>.trans hl)
    rw [e5, st_i_pi_n _ _ _ _ _ _ (by omega)]; exact e4
  · unfold r_index; rw [if_neg (fun hh => hh p1), if_neg (fun hh => hh p2), if_pos p3]
  · unfold r_index; rw [if_neg (fun hh => hh p1), if_pos p2]; rfl
  · unfold r_index; rw [if_pos p1]
theorem lc_index {m b len kc ks N : Nat} {xs : Nat → Int32} {x4 : Int32} {S : xm_S} {V : VV} {g : Int32 → xm_S → Prop} {Z : Option Nat → Option Nat → Option Nat → Int32 → xm_S → Nat → Nat → Prop} (R : RR S V V N) (I : Iv V) (hm : vn V 54 0 ≤ m) (nx : NX m b len xs x4 kc ks g Z) (hv1 : vp_in (x4 + (1 : Int32)) len) (hv2 : vp_in (x4 + nI 2) len) (hv3 : vp_in (x4 + nI 3) len) : wp_L_law_1906 b len xs (some 1) (some 1000) (some 1200) x4 S kc ks g Z := by
  obtain ⟨k1, k2, nx⟩ := nx
  unfold wp_L_law_1906 wp_L_law_1983
  refine ⟨hv1, hv2, hv3, by omega, by omega, w_index R I fun S1 N1 R1 h1 => ⟨hv1, hv2, hv3, 1000, rfl, R1.2.1.1.1, by omega, by omega, ml_index R1 (Iv_index I) I fun S2 b R2 e2 hb hl => ⟨1000, rfl, R2.2.1.1.1, by omega, by omega, m_thrown R2.2.1 e2 ?_⟩⟩⟩
  exact lc_cmp R2.2.2 (by unfold t_index; repeat' split
                          all_goals decide) (fun e => hl.trans (h1 e)) hb (nx _ _ _ _ _ R2 (Iv_index I) (md (by unfold v_index; (repeat' split) <;> first | rfl | exact uV_n _ _ _ _ _ _ (by omega)) hm) (by omega) (by omega))
