-- type
def chI (x : Int64) (y : Int32) : Int32 := ((((x.toUInt64 >>> (((nI 8) * y).toInt64.toUInt64 &&& Int64.toUInt64 63)).toInt64) &&& (255 : Int64))).toInt32
def tyc (x : Int64) : Nat → Bool
  | 0 => true
  | k + 1 => tyc x k && inB (chI x (nI k)) (nI 33) (nI 126)
theorem tyc_f {x : Int64} {i : Nat} (h : tyc x i = false) : ∀ d, tyc x (i + d) = false := by
  intro d
  induction d with
  | zero => exact h
  | succ d ih => show (tyc x (i + d) && _) = false; rw [ih]; rfl
theorem tyc_le {x : Int64} {i n : Nat} (hi : i ≤ n) (h : tyc x n = true) : tyc x i = true := by
  cases hb : tyc x i
  · have := tyc_f hb (n - i)
    rw [show i + (n - i) = n by omega, h] at this
    cases this
  · rfl
theorem ty_ch {x : Int64} {i : Nat} (h : tyc x (i + 1) = true) : ∃ c, 33 ≤ c ∧ c ≤ 126 ∧ chI x (nI i) = nI c := by
  have h : (tyc x i && inB (chI x (nI i)) (nI 33) (nI 126)) = true := h
  rw [Bool.and_eq_true] at h
  have h2 := of_decide_eq_true h.2
  obtain ⟨c, hc, e⟩ := nI_of2 (x := chI x (nI i)) (M := nI 126) (hM := nI_toInt (n := 126) (by decide)) (fun hh => by
    rw [fa_lt] at hh
    have := (fa_le _ _).mp h2.1
    rw [nI_toInt (by decide)] at this
    have z : (0 : Int32).toInt = 0 := rfl
    omega) h2.2
  refine ⟨c, ?_, hc, e⟩
  have := h2.1
  rw [e, nI_leI (by decide) (by omega)] at this
  exact this
theorem ch_cut : ∀ n, n < 127 → ((nI n).toUInt32 % 65536).toInt32 = nI n := by decide +kernel
def ty1 (V : VV) (L : Nat) (c : Int32) : VV := uV (uV V 24 (6160 + L) c) 25 154 (nI (L + 1))
def tyV (V : VV) (x : Int64) : Nat → VV
  | 0 => V
  | k + 1 => ty1 (tyV V x k) (tL V 154 + k) (chI x (nI k))
theorem ty1_f {V : VV} {L : Nat} {c : Int32} (f k : Nat) (h1 : f ≠ 24) (h2 : f ≠ 25) : ty1 V L c f k = V f k := (uV_n _ _ _ _ _ _ (by omega)).trans (uV_n _ _ _ _ _ _ (by omega))
theorem ty1_L {V : VV} {L : Nat} {c : Int32} (hL : L < 40) : tL (ty1 V L c) 154 = L + 1 := vn_s (n := L + 1) (by omega)
theorem ty1_q {V : VV} {L q : Nat} {c : Int32} (hq : q < 154) : eTs V (ty1 V L c) q := ⟨(uV_n _ _ _ _ _ _ (by omega)).trans (uV_n _ _ _ _ _ _ (by omega)), fun s hs => (uV_n _ _ _ _ _ _ (by omega)).trans (uV_n _ _ _ _ _ _ (by omega))⟩
theorem ty1_T {V : VV} {L n : Nat} (hL : L < 40) (hn : n ≤ 126) (e : tL V 154 = L) (s : Nat) : tT (ty1 V L (nI n)) 154 s = if s = L then n else tT V 154 s := by
  unfold tT
  rw [ty1_L hL, e]
  by_cases h1 : s < L
  · rw [if_pos (by omega), if_neg (by omega), if_pos h1]
    exact vn_e ((uV_n _ _ _ _ _ _ (by omega)).trans (uV_n _ _ _ _ _ _ (by omega)))
  · by_cases h2 : s = L
    · subst h2
      rw [if_pos (by omega), if_pos rfl]
      unfold vn ty1
      rw [uV_n _ _ _ _ _ _ (by omega), show 40 * 154 + s = 6160 + s by omega, uV_s, nI_clamp (by omega)]
    · rw [if_neg (by omega), if_neg h2, if_neg h1]
theorem ty1_X {V : VV} {L n : Nat} (hL : L < 40) (h1 : 33 ≤ n) (hn : n ≤ 126) (e : tL V 154 = L) (hT : TX (tT V 154) (tL V 154)) : TX (tT (ty1 V L (nI n)) 154) (L + 1) := by
  rw [e] at hT
  refine ⟨by omega, fun s hs => ?_, fun s hs => ?_⟩
  · rw [ty1_T hL hn e]
    split
    · exact ⟨h1, hn⟩
    · exact hT.2.1 s (by omega)
  · rw [ty1_T hL hn e, if_neg (by omega)]
    exact hT.2.2 s (by omega)
theorem Iv_ty1 {V : VV} {L n : Nat} (I : Iv V) (hL : L < 40) (h1 : 33 ≤ n) (hn : n ≤ 126) (e : tL V 154 = L) : Iv (ty1 V L (nI n)) := by
  have ev := fun f k => ty1_f (V := V) (L := L) (c := nI n) f k
  have t := I.2.2.1.2.2.2.2.2.2 154 (by decide)
  refine ⟨Iv1_e I.1 fun f k h => ev f k (by omega) (by omega), Iv2_e I.1 I.2.1 (fun f k h => ev f k (by omega) (by omega)) fun q hq _ => ty1_q (by omega), Iv3_e I.2.2.1 (fun f k h => ev f k (by omega) (by omega)) (fun q hq _ => ty1_q (by omega)) (fun q hq => ?_), Iv4_e I.2.2.2.1 fun f k h => ev f k (by omega) (by omega), Iv5_e I.2.2.2.2 fun f k h => ev f k (by omega) (by omega)⟩
  by_cases h : q < 154
  · exact VT_e (I.2.2.1.2.2.2.2.2.2 q hq) (ty1_q h)
  · have hq : q = 154 := by omega
    subst hq
    unfold VT
    rw [ty1_L hL]
    refine ⟨uV_s _ _ _ _, ty1_X hL h1 hn e t.2.1, fun s hs => ?_⟩
    rw [ty1_T hL hn e]
    unfold ty1
    rw [uV_n _ _ _ _ _ _ (by omega)]
    by_cases h2 : s = L
    · rw [if_pos h2, h2, show 40 * 154 + L = 6160 + L by omega, uV_s]
    · rw [if_neg h2, uV_n _ _ _ _ _ _ (by omega)]
      exact t.2.2 s (by omega)
theorem CR_ty1 {S : xm_S} {V : VV} {N L n : Nat} (C : CR S V N) (I : Iv V) (hL : L < 40) (h1 : 33 ≤ n) (hn : n ≤ 126) (e : tL V 154 = L) : CR (st_pi (st_pi S 3 L (nI n)) 2 1 (nI (L + 1))) (ty1 V L (nI n)) N := by
  refine CR_t C I (KX_pi (KX_pi (KX_rfl _ _ _ _) (by unfold EIt; simp)) rfl) C.2.1 (fun f k h1 h2 => ty1_f f k h1 h2) (fun q hq => eTs_T (I.2.2.1.2.2.2.2.2.2 q (by omega)) (ty1_q hq)) ?_
  obtain ⟨t1, t2, t3, t4, t5, t6⟩ := C.2.2.2.2.2.1
  unfold gT
  rw [ty1_L hL]
  refine ⟨t1, t2, t3, ty1_X hL h1 hn e t4, st_i_pi_s _ _ _ _, fun s hs => ?_⟩
  rw [st_i_pi_n _ _ _ _ _ _ (by omega), ty1_T hL hn e]
  by_cases h2 : s = L
  · rw [if_pos h2, h2, st_i_pi_s]
  · rw [if_neg h2, st_i_pi_n _ _ _ _ _ _ (by omega)]
    exact t6 s (by omega)
theorem tyV_L {V : VV} {x : Int64} : ∀ k, tL V 154 + k ≤ 40 → tL (tyV V x k) 154 = tL V 154 + k := by
  intro k
  induction k with
  | zero => intro h; rfl
  | succ k ih => intro h; exact ty1_L (by omega)
theorem tyV_54 {V : VV} {x : Int64} : ∀ k, tyV V x k 54 0 = V 54 0 := by
  intro k
  induction k with
  | zero => rfl
  | succ k ih => exact (ty1_f 54 0 (by omega) (by omega)).trans ih
theorem Iv_tyV {V : VV} {x : Int64} (I : Iv V) : ∀ k, tL V 154 + k ≤ 40 → tyc x k = true → Iv (tyV V x k) := by
  intro k
  induction k with
  | zero => intro _ _; exact I
  | succ k ih =>
    intro h c
    obtain ⟨a, h1, h2, e⟩ := ty_ch c
    unfold tyV
    rw [e]
    exact Iv_ty1 (ih (by omega) (tyc_le (by omega) c)) (by omega) h1 h2 (tyV_L k (by omega))
def ty_ok (x : Int64) (n : Int32) : Bool := inB n 1 (nI 8) && tyc x n.toNatClampNeg
def t_type (V : VV) (x : Int64) (n : Int32) : Nat := if ty_ok x n then (if V 25 154 + n ≤ nI 40 then 0 else 2) else 1
def v_type (V : VV) (x : Int64) (n : Int32) : VV := if t_type V x n = 0 then tyV V x n.toNatClampNeg else V
def r_type (V : VV) (n : Int32) : Int32 := V 25 154 + n
theorem v_type_54 {V : VV} {x : Int64} {n : Int32} : v_type V x n 54 0 = V 54 0 := by
  unfold v_type
  split
  · exact tyV_54 _
  · rfl
theorem ty_room {V : VV} {n : Nat} (I : Iv V) (hn : n ≤ 8) : (V 25 154 + nI n ≤ nI 40 ↔ tL V 154 + n ≤ 40) ∧ V 25 154 + nI n = nI (tL V 154 + n) := by
  have t := I.2.2.1.2.2.2.2.2.2 154 (by decide)
  have h40 := t.2.1.1
  rw [t.1, nI_add, nI_leI (by omega) (by decide)]
  exact ⟨Iff.rfl, rfl⟩
theorem Iv_type {V : VV} {x : Int64} {n : Int32} (I : Iv V) : Iv (v_type V x n) := by
  unfold v_type t_type
  by_cases h : ty_ok x n = true
  · rw [if_pos h]
    have h' := h
    unfold ty_ok at h'
    rw [Bool.and_eq_true] at h'
    obtain ⟨j, j1, j8, e⟩ := inB1_nI h'.1 (by decide)
    have h2 := h'.2
    subst e
    rw [nI_clamp (by omega)] at h2 ⊢
    have rm := (ty_room I j8).1
    by_cases q : V 25 154 + nI j ≤ nI 40
    · rw [if_pos q, if_pos rfl]; exact Iv_tyV I j (rm.mp q) h2
    · rw [if_neg q, if_neg (by decide)]; exact I
  · rw [if_neg h, if_neg (by decide)]; exact I
theorem w_type {S : xm_S} {V W : VV} {N : Nat} {x : Int64} {n : Int32} {g : Int32 → xm_S → Prop} (R : RR S V W N) (I : Iv V) (h : ∀ S' N', RR S' (v_type V x n) W N' → (t_type V x n = 0 → st_l S' 1200 0 = (r_type V n).toInt64) → g (nI (t_type V x n)) S') : wp_L_type (some 1) x n (some 1200) S g := by
  have c1 := R.1.2.2.1
  have t := R.1.2.2.2.2.2.1
  have T1 : ty_ok x n = false → g 1 S := fun q => by
    have e : t_type V x n = 1 := by unfold t_type; rw [if_neg (by rw [q]; decide)]
    have w : v_type V x n = V := by unfold v_type; rw [if_neg (by rw [e]; decide)]
    rw [e, w] at h
    exact h S N R (fun e => absurd e (by decide))
  unfold wp_L_type wp_X11_type wp_X11_type_11
  have B : inB n 1 (nI 8) = false → ty_ok x n = false := fun q => by unfold ty_ok; rw [q, Bool.false_and]
  refine ⟨1, rfl, c1.1, fun p => .inl ⟨rfl, T1 (B (decide_eq_false fun hh => ?_))⟩, fun p => ⟨fun p2 => ?_, fun p2 => .inl ⟨rfl, T1 (B (decide_eq_false fun hh => p2 hh.2))⟩⟩⟩
  · rw [fa_lt] at p; have := (fa_le _ _).mp hh.1; omega
  have b : inB n 1 (nI 8) = true := decide_eq_true ⟨by rw [fa_lt] at p; rw [fa_le]; omega, p2⟩
  obtain ⟨j, j1, j8, e⟩ := inB1_nI b (by decide)
  subst e
  have cj : (nI j).toNatClampNeg = j := nI_clamp (by omega)
  have OK : ty_ok x (nI j) = tyc x j := by unfold ty_ok; rw [b, Bool.true_and, cj]
  rw [OK] at T1
  have rm := ty_room I j8
  have t40 := t.2.2.2.1.1
  unfold wp_X11_type_24
  intro Z hZ
  have H : ∀ d i, i + d = j → tyc x i = true → Z x (nI j) (nI i) S := by
    intro d
    induction d with
    | zero =>
      intro i hi hc
      rw [show i = j by omega] at hc ⊢
      refine hZ _ _ _ _ ?_
      unfold wp_X11_type_24B
      refine ⟨fun _ => ⟨c1.1, 2, c1.2.1, t.1, ?_⟩, fun q => absurd (nI_le (Nat.le_refl j) (by omega)) q⟩
      rw [t.2.2.2.2.1, nI_add, nI_leI (by omega) (by decide)]
      refine ⟨fun q => ?_, fun q => .inr ⟨rfl, ?_⟩⟩
      · have e0 : t_type V x (nI j) = 0 := by unfold t_type; rw [if_pos (by rw [OK]; exact hc), if_pos (rm.1.mpr q)]
        have v : v_type V x (nI j) = tyV V x j := by unfold v_type; rw [if_pos e0, cj]
        rw [e0, v] at h
        unfold wp_X11_type_95
        intro Z2 hZ2
        have H2 : ∀ d i S1, i + d = j → RR S1 (tyV V x i) W N → Z2 x (nI j) (nI i) S1 := by
          intro d
          induction d with
          | zero =>
            intro i S1 hi R1
            rw [show i = j by omega] at R1 ⊢
            refine hZ2 _ _ _ _ ?_
            unfold wp_X11_type_95B
            refine ⟨fun _ => ⟨R1.1.2.2.1.1, 2, R1.1.2.2.1.2.1, R1.1.2.2.2.2.2.1.1, ?_⟩, fun q => absurd (nI_le (Nat.le_refl j) (by omega)) q⟩
            rw [R1.1.2.2.2.2.2.1.2.2.2.2.1, tyV_L j q, ← rm.2]
            exact w_out R1 (Iv_tyV I j q hc) fun S' R' hl => h S' N R' (fun _ => hl)
          | succ d ih =>
            intro i S1 hi R1
            have hci : tyc x (i + 1) = true := tyc_le (by omega) hc
            obtain ⟨a, a1, a2, ea⟩ := ty_ch hci
            have tt := R1.1.2.2.2.2.2.1
            have eL := tyV_L (V := V) (x := x) i (by omega)
            refine hZ2 _ _ _ _ ?_
            unfold wp_X11_type_95B wp_X11_signAt
            refine ⟨fun q => absurd q (nI_ge (show i < j by omega) (by omega)), fun _ => ⟨R1.1.2.2.1.1, 2, R1.1.2.2.1.2.1, tt.1, ?_⟩⟩
            change wp_X8_append 2 (((chI x (nI i)).toUInt32 % 65536).toInt32) S1 _
            rw [ea, ch_cut a (by omega)]
            unfold wp_X8_append wp_X8_append_29
            rw [tt.2.2.2.2.1, eL]
            refine ⟨tt.1, fun q => absurd q (nI_ge (show tL V 154 + i < 40 by omega) (by decide)), fun _ => ⟨3, tt.2.1, _, tt.2.2.1, vp_in_nI (show tL V 154 + i < 40 by omega) (by decide), (pk_charN (by omega)).1, fun S8 e8 S10 e10 y ey => ?_⟩⟩
            rw [nI_clamp (by omega)] at e8
            rw [show st_i S8 2 1 = nI (tL V 154 + i) by rw [e8, st_i_pi_n _ _ _ _ _ _ (by omega), tt.2.2.2.2.1, eL], nI_1] at e10
            rw [ey, nI_1]
            refine ih (i + 1) S10 (by omega) ?_
            have C := CR_ty1 R1.1 (Iv_tyV I i (by omega) (tyc_le (by omega) hc)) (L := tL V 154 + i) (by omega) a1 a2 eL
            unfold tyV
            rw [ea]
            subst e10 e8
            exact ⟨C, MR_K R1.2.1 (KM_pi (KM_pi (KM_rfl _) (by omega)) (by omega)), R1.2.2⟩
        exact H2 j 0 S (by omega) R
      · have e2 : t_type V x (nI j) = 2 := by unfold t_type; rw [if_pos (by rw [OK]; exact hc), if_neg (fun hh => q (rm.1.mp hh))]
        have v : v_type V x (nI j) = V := by unfold v_type; rw [if_neg (by rw [e2]; decide)]
        rw [e2, v] at h
        exact h S N R (fun e => absurd e (by decide))
    | succ d ih =>
      intro i hi hc
      refine hZ _ _ _ _ ?_
      unfold wp_X11_type_24B wp_X11_signAt wp_X11_type_52
      change (_ → _) ∧ (_ → (chI x (nI i) < nI 33 → _) ∧ (¬ chI x (nI i) < nI 33 → (chI x (nI i) ≤ nI 126 → _) ∧ (¬ chI x (nI i) ≤ nI 126 → _)))
      have F : inB (chI x (nI i)) (nI 33) (nI 126) = false → tyc x j = false := fun q => by
        have e : tyc x (i + 1) = false := by show (tyc x i && _) = false; rw [q, Bool.and_false]
        have := tyc_f e d
        rw [show i + 1 + d = j by omega] at this
        exact this
      refine ⟨fun q => absurd q (nI_ge (show i < j by omega) (by omega)), fun _ => ⟨fun q => .inl ⟨rfl, T1 (F (decide_eq_false fun hh => ?_))⟩, fun q => ⟨fun q2 y ey => ?_, fun q2 => .inl ⟨rfl, T1 (F (decide_eq_false fun hh => q2 hh.2))⟩⟩⟩⟩
      · rw [fa_lt] at q; have := (fa_le _ _).mp hh.1; omega
      · rw [ey, nI_1]
        refine ih (i + 1) (by omega) ?_
        show (tyc x i && inB (chI x (nI i)) (nI 33) (nI 126)) = true
        rw [hc, Bool.true_and]
        exact decide_eq_true ⟨by rw [fa_lt] at q; rw [fa_le]; omega, q2⟩
  exact H j 0 (by omega) rfl
theorem ml_type {S : xm_S} {V W : VV} {N : Nat} {x : Int64} {n : Int32} {g : Int32 → xm_S → Prop} (R : RR S V W N) (I : Iv V) (IW : Iv W) (h : ∀ S' b, RR S' V (v_type W x n) N → st_i S' 1000 0 = nI (t_type W x n) → (t_type W x n = 0 → b = r_type W n) → st_l S' 1200 0 = st_l S 1200 0 → g b S') : wp_X12_type 1000 x n S g := by
  have M := R.2.1
  have t := IW.2.2.1.2.2.2.2.2.2 154 (by decide)
  have T1 : ty_ok x n = false → wp_X12_type_50 1000 x n 0 S g := fun q => by
    have e : t_type W x n = 1 := by unfold t_type; rw [if_neg (by rw [q]; decide)]
    have w : v_type W x n = W := by unfold v_type; rw [if_neg (by rw [e]; decide)]
    rw [e, w] at h
    unfold wp_X12_type_50 wp_X12_type_80
    exact ⟨fun e => absurd rfl e, fun _ => ⟨1000, rfl, M.1.1, m_may (t := 1) R I rfl (by decide) fun S4 R4 k4 e4 => ⟨fun e => absurd rfl e, fun _ => h S4 _ R4 e4 (fun e => absurd e (by decide)) ((k4 1200 (by omega)).2.2.1 0)⟩⟩⟩
  unfold wp_X12_type wp_X12_type_12
  refine m_in ?_
  intro Z hZ
  cases b : inB n 1 (nI 8) with
  | false =>
    have T1 := T1 (by unfold ty_ok; rw [b, Bool.false_and])
    refine hZ _ _ _ _ _ ?_
    unfold wp_X12_type_12B
    exact ⟨fun _ => T1, fun _ => ⟨fun _ => T1, fun e => absurd rfl e⟩⟩
  | true =>
    obtain ⟨j, j1, j8, e⟩ := inB1_nI b (by decide)
    subst e
    have cj : (nI j).toNatClampNeg = j := nI_clamp (by omega)
    have OK : ty_ok x (nI j) = tyc x j := by unfold ty_ok; rw [b, Bool.true_and, cj]
    rw [OK] at T1
    have rm := ty_room IW j8
    have t40 := t.2.1.1
    have H : ∀ d i, i + d = j → Z x (nI j) (bI (tyc x i)) (nI i) S := by
      intro d
      induction d with
      | zero =>
        intro i hi
        rw [show i = j by omega]
        refine hZ _ _ _ _ _ ?_
        unfold wp_X12_type_12B
        refine ⟨fun _ => ?_, fun q => absurd (nI_le (Nat.le_refl j) (by omega)) q⟩
        cases hc : tyc x j with
        | false => exact T1 hc
        | true =>
          unfold wp_X12_type_50 wp_X12_type_80
          refine ⟨fun _ => ⟨M.1.1, _, MS_r M.1 25, _, MS_t M.1 25, vp_in_nI (show 154 < 155 by omega) (by decide), ?_⟩, fun e => absurd e (by decide)⟩
          rw [show st_i S (1001 + 25) ((nI 154)).toNatClampNeg = W 25 154 from M.2.2 25 154 rfl, rm.1]
          refine ⟨fun q => ⟨1000, rfl, M.1.1, m_may (t := 0) R I rfl (by decide) fun S4 R4 k4 e4 => ⟨fun _ => ?_, fun e => absurd e (by decide)⟩⟩, fun q => ⟨1000, rfl, M.1.1, m_may (t := 2) R I rfl (by decide) fun S4 R4 k4 e4 => ⟨fun e => absurd rfl e, fun _ => ?_⟩⟩⟩
          · have e0 : t_type W x (nI j) = 0 := by unfold t_type; rw [if_pos (by rw [OK]; exact hc), if_pos (rm.1.mpr q)]
            have v : v_type W x (nI j) = tyV W x j := by unfold v_type; rw [if_pos e0, cj]
            rw [e0, v] at h
            unfold wp_X12_type_91
            intro Z2 hZ2
            have H2 : ∀ d i S1, i + d = j → RR S1 V (tyV W x i) N → KC S S1 → st_i S1 1000 0 = 0 → Z2 x (nI j) (nI i) S1 := by
              intro d
              induction d with
              | zero =>
                intro i S1 hi R1 K1 e1
                rw [show i = j by omega] at R1 ⊢
                have M1 := R1.2.1
                refine hZ2 _ _ _ _ ?_
                unfold wp_X12_type_91B
                refine ⟨fun _ => ⟨M1.1.1, _, MS_r M1.1 25, _, MS_t M1.1 25, vp_in_nI (show 154 < 155 by omega) (by decide), ?_⟩, fun q => absurd (nI_le (Nat.le_refl j) (by omega)) q⟩
                have IJ := Iv_tyV IW j q hc
                refine h S1 _ R1 e1 (fun _ => ?_) ((K1 1200 (by omega)).2.2.1 0)
                rw [show st_i S1 (1001 + 25) ((nI 154)).toNatClampNeg = tyV W x j 25 154 from M1.2.2 25 154 rfl, (IJ.2.2.1.2.2.2.2.2.2 154 (by decide)).1, tyV_L j q]
                exact rm.2.symm
              | succ d ih =>
                intro i S1 hi R1 K1 e1
                have M1 := R1.2.1
                have II := Iv_tyV IW i (by omega) (tyc_le (by omega) hc)
                have eL := tyV_L (V := W) (x := x) i (by omega)
                have e25 : tyV W x i 25 154 = nI (tL W 154 + i) := by rw [(II.2.2.1.2.2.2.2.2.2 154 (by decide)).1, eL]
                refine hZ2 _ _ _ _ ?_
                unfold wp_X12_type_91B
                refine ⟨fun q => absurd q (nI_ge (show i < j by omega) (by omega)), fun _ => ⟨M1.1.1, _, MS_r M1.1 25, _, MS_t M1.1 25, vp_in_nI (show 154 < 155 by omega) (by decide), ?_⟩⟩
                rw [show st_i S1 (1001 + 25) ((nI 154)).toNatClampNeg = tyV W x i 25 154 from M1.2.2 25 154 rfl, e25, nI_add]
                refine ⟨_, MS_r M1.1 24, _, MS_t M1.1 24, vp_in_nI (show 6160 + (tL W 154 + i) < 6200 by omega) (by decide), fun S18 e18 => ?_⟩
                rw [nI_clamp (by omega)] at e18
                change S18 = st_pi S1 (1001 + 24) (6160 + (tL W 154 + i)) (chI x (nI i)) at e18
                have M18 : MR S18 (uV (tyV W x i) 24 (6160 + (tL W 154 + i)) (chI x (nI i))) := by subst e18; exact MR_a M1
                have k18 : KC S1 S18 := by subst e18; exact KC_pi (KC_rfl _) (by omega)
                refine ⟨_, MS_r M18.1 25, _, MS_t M18.1 25, vp_in_nI (show 154 < 155 by omega) (by decide), _, MS_r M18.1 25, _, MS_t M18.1 25, vp_in_nI (show 154 < 155 by omega) (by decide), fun S30 e30 y ey => ?_⟩
                rw [show st_i S18 (1001 + 25) ((nI 154)).toNatClampNeg = uV (tyV W x i) 24 (6160 + (tL W 154 + i)) (chI x (nI i)) 25 154 from M18.2.2 25 154 rfl, uV_n _ _ _ _ _ _ (by omega), e25, nI_1] at e30
                have M30 : MR S30 (tyV W x (i + 1)) := by subst e30; exact MR_a (f := 25) M18
                have k30 : KC S1 S30 := by subst e30; exact KC_pi k18 (by omega)
                rw [ey, nI_1]
                refine ih (i + 1) S30 (by omega) (RR_m R1 I k30 M30) (KC_tr K1 k30) ?_
                rw [e30, st_i_pi_n _ _ _ _ _ _ (by omega), e18, st_i_pi_n _ _ _ _ _ _ (by omega)]; exact e1
            exact H2 j 0 S4 (by omega) R4 k4 e4
          · have e2 : t_type W x (nI j) = 2 := by unfold t_type; rw [if_pos (by rw [OK]; exact hc), if_neg (fun hh => q (rm.1.mp hh))]
            have v : v_type W x (nI j) = W := by unfold v_type; rw [if_neg (by rw [e2]; decide)]
            rw [e2, v] at h
            exact h S4 _ R4 e4 (fun e => absurd e (by decide)) ((k4 1200 (by omega)).2.2.1 0)
      | succ d ih =>
        intro i hi
        refine hZ _ _ _ _ _ ?_
        unfold wp_X12_type_12B
        refine ⟨fun q => absurd q (nI_ge (show i < j by omega) (by omega)), fun _ => ?_⟩
        cases hc : tyc x i with
        | false =>
          refine ⟨fun _ => T1 ?_, fun e => absurd rfl e⟩
          have := tyc_f hc (d + 1)
          rw [hi] at this
          exact this
        | true =>
          refine ⟨fun e => absurd e (by decide), fun _ => ?_⟩
          change wp_X12_in (chI x (nI i)) (nI 33) (nI 126) S _
          refine m_in (fun y ey => ?_)
          rw [ey, nI_1]
          have ih := ih (i + 1) (by omega)
          rw [show tyc x (i + 1) = (tyc x i && inB (chI x (nI i)) (nI 33) (nI 126)) from rfl, hc, Bool.true_and] at ih
          exact ih
    exact H j 0 (by omega)
theorem lc_type {m b len kc ks N : Nat} {xs : Nat → Int32} {x4 : Int32} {S : xm_S} {V : VV} {g : Int32 → xm_S → Prop} {Z : Option Nat → Option Nat → Option Nat → Int32 → xm_S → Nat → Nat → Prop} (R : RR S V V N) (I : Iv V) (hm : vn V 54 0 ≤ m) (nx : NX m b len xs x4 kc ks g Z) (hv1 : vp_in (x4 + (1 : Int32)) len) (hv2 : vp_in (x4 + nI 2) len) (hv3 : vp_in (x4 + nI 3) len) : wp_L_law_228 b len xs (some 1) (some 1000) (some 1200) x4 S kc ks g Z := by
  obtain ⟨k1, k2, nx⟩ := nx
  unfold wp_L_law_228 wp_L_law_325
  refine ⟨hv1, hv2, hv3, by omega, by omega, w_type R I fun S1 N1 R1 h1 => ⟨hv1, hv2, hv3, 1000, rfl, R1.2.1.1.1, by omega, by omega, ml_type R1 (Iv_type I) I fun S2 b R2 e2 hb hl => ⟨1000, rfl, R2.2.1.1.1, by omega, by omega, m_thrown R2.2.1 e2 ?_⟩⟩⟩
  exact lc_cmp R2.2.2 (by unfold t_type; repeat' split
                          all_goals decide) (fun e => hl.trans (h1 e)) hb (nx _ _ _ _ _ R2 (Iv_type I) (md v_type_54 hm) (by omega) (by omega))

