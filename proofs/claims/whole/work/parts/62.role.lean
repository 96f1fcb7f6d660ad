-- role
theorem CR_x12 {S : xm_S} {V : VV} {N : Nat} {x : Int32} (C : CR S V N) (I : Iv V) : CR (st_pi S 1 12 x) (uV V 37 0 x) N := by
  have K : KX fA0 (E1 1 12) N S (st_pi S 1 12 x) := KX_pi (KX_rfl _ _ _ _) (E1_t 1 12)
  have et : ∀ q, eT V (uV V 37 0 x) q := eT_v fun f k h => uV_n _ _ _ _ _ _ (by omega)
  have b18 := I.2.2.1.1.2
  have b21 := I.2.2.1.2.2.2.1.2
  obtain ⟨hN, hf, c1, c2, c3, c4, c5, c6, c7, c8, c9, c10, c11, c12, c13⟩ := C
  refine ⟨by omega, hf, gS_X c1 K hN (fun k => by rfl), ?_, gO_X c3 K hN (fun k hk => by rfl), gT_X c4 K hN (by rfl) (by exact E1_f (by omega)) (fun k => by exact E1_f (by omega)) (by exact et _), gP_X c5 K hN (fun n k hn => by rfl) (fun n k g1 g2 => by exact E1_f (by omega)) (fun k hk => ⟨by exact uV_n _ _ _ _ _ _ (by omega), by exact uV_n _ _ _ _ _ _ (by omega)⟩), gV_Y I c6 K hN (Nat.le_refl _) (fun n k hn => by rfl) (fun n k hn => by exact E1_f (by omega)) (fun f k hf9 => by exact uV_n _ _ _ _ _ _ (by omega)) (fun q hq => by exact et _), gW_X c7 K hN (Nat.le_refl _) (fun n k hn => by rfl) (fun n k hn => by exact E1_f (by omega)) (by exact uV_n _ _ _ _ _ _ (by omega)) (fun j hj => ⟨by exact et _, by exact uV_n _ _ _ _ _ _ (by omega), by exact uV_n _ _ _ _ _ _ (by omega)⟩), gA_X c8 K hN (Nat.le_refl _) (fun n k hn => by rfl) (fun n k hn => by exact E1_f (by omega)) (by exact uV_n _ _ _ _ _ _ (by omega)) (fun j hj => ⟨by exact et _, by exact uV_n _ _ _ _ _ _ (by omega), by exact uV_n _ _ _ _ _ _ (by omega)⟩), gL_X c9 c1 K hN (fun n k hn => by rfl) (fun n k hn => by exact E1_f (by omega)) (fun f k hf9 => by exact uV_n _ _ _ _ _ _ (by omega)), gM_X c10 K hN (fun n k hn => by exact E1_f (by omega)) (fun f k hf9 hk9 => by exact uV_n _ _ _ _ _ _ (by omega)), gI1_X c11 K hN (fun n k hn => by rfl), gI2_X c12 c11 c1 K hN (fun n k hn => by exact E1_f (by omega)) (fun f k hf9 => by exact uV_n _ _ _ _ _ _ (by omega)), gI3_X c13 c11 K hN (fun k => by rfl) (fun n k hn => by exact E1_f (by omega)) I.2.2.2.2.2.2.2.2.2.1.2 (fun f k hf9 => by exact uV_n _ _ _ _ _ _ (by omega))⟩
  obtain ⟨h1, h2, h3, h4, h5, h6, h7⟩ := c2
  exact ⟨h1, h2, h3, h4, (st_i_pi_s _ _ _ _).trans (uV_s _ _ _ _).symm, h6, h7⟩
theorem CR_x13 {S : xm_S} {V : VV} {N : Nat} {x : Int32} (C : CR S V N) (I : Iv V) : CR (st_pi S 1 13 x) (uV V 38 0 x) N := by
  have K : KX fA0 (E1 1 13) N S (st_pi S 1 13 x) := KX_pi (KX_rfl _ _ _ _) (E1_t 1 13)
  have et : ∀ q, eT V (uV V 38 0 x) q := eT_v fun f k h => uV_n _ _ _ _ _ _ (by omega)
  have b18 := I.2.2.1.1.2
  have b21 := I.2.2.1.2.2.2.1.2
  obtain ⟨hN, hf, c1, c2, c3, c4, c5, c6, c7, c8, c9, c10, c11, c12, c13⟩ := C
  refine ⟨by omega, hf, gS_X c1 K hN (fun k => by rfl), ?_, gO_X c3 K hN (fun k hk => by rfl), gT_X c4 K hN (by rfl) (by exact E1_f (by omega)) (fun k => by exact E1_f (by omega)) (by exact et _), gP_X c5 K hN (fun n k hn => by rfl) (fun n k g1 g2 => by exact E1_f (by omega)) (fun k hk => ⟨by exact uV_n _ _ _ _ _ _ (by omega), by exact uV_n _ _ _ _ _ _ (by omega)⟩), gV_Y I c6 K hN (Nat.le_refl _) (fun n k hn => by rfl) (fun n k hn => by exact E1_f (by omega)) (fun f k hf9 => by exact uV_n _ _ _ _ _ _ (by omega)) (fun q hq => by exact et _), gW_X c7 K hN (Nat.le_refl _) (fun n k hn => by rfl) (fun n k hn => by exact E1_f (by omega)) (by exact uV_n _ _ _ _ _ _ (by omega)) (fun j hj => ⟨by exact et _, by exact uV_n _ _ _ _ _ _ (by omega), by exact uV_n _ _ _ _ _ _ (by omega)⟩), gA_X c8 K hN (Nat.le_refl _) (fun n k hn => by rfl) (fun n k hn => by exact E1_f (by omega)) (by exact uV_n _ _ _ _ _ _ (by omega)) (fun j hj => ⟨by exact et _, by exact uV_n _ _ _ _ _ _ (by omega), by exact uV_n _ _ _ _ _ _ (by omega)⟩), gL_X c9 c1 K hN (fun n k hn => by rfl) (fun n k hn => by exact E1_f (by omega)) (fun f k hf9 => by exact uV_n _ _ _ _ _ _ (by omega)), gM_X c10 K hN (fun n k hn => by exact E1_f (by omega)) (fun f k hf9 hk9 => by exact uV_n _ _ _ _ _ _ (by omega)), gI1_X c11 K hN (fun n k hn => by rfl), gI2_X c12 c11 c1 K hN (fun n k hn => by exact E1_f (by omega)) (fun f k hf9 => by exact uV_n _ _ _ _ _ _ (by omega)), gI3_X c13 c11 K hN (fun k => by rfl) (fun n k hn => by exact E1_f (by omega)) I.2.2.2.2.2.2.2.2.2.1.2 (fun f k hf9 => by exact uV_n _ _ _ _ _ _ (by omega))⟩
  obtain ⟨h1, h2, h3, h4, h5, h6, h7⟩ := c2
  exact ⟨h1, h2, h3, h4, h5, (st_i_pi_s _ _ _ _).trans (uV_s _ _ _ _).symm, h7⟩
theorem Iv_37 {V : VV} {n : Nat} (I : Iv V) (hn : n ≤ 31) : Iv (uV V 37 0 (nI n)) := by
  have ev : ∀ f k, f ≠ 37 → uV V 37 0 (nI n) f k = V f k := fun f k h => uV_n _ _ _ _ _ _ (by omega)
  have et : ∀ q, eTs V (uV V 37 0 (nI n)) q := fun q => ⟨ev _ _ (by omega), fun s hs => ev _ _ (by omega)⟩
  obtain ⟨g1, g2, g3, g4, g5, g6, g7, g8⟩ := I.2.2.2.1
  refine ⟨Iv1_e I.1 fun f k h => ev f k (by omega), Iv2_e I.1 I.2.1 (fun f k h => ev f k (by omega)) fun q hq _ => et q, Iv3_e I.2.2.1 (fun f k h => ev f k (by omega)) (fun q hq _ => et q) (fun q hq => VT_e (I.2.2.1.2.2.2.2.2.2 q hq) (et q)), ⟨In_e g1 (ev _ _ (by omega)), fun k hk => ⟨vLk_e (g2 k hk).1 (ev _ _ (by omega)) (ev _ _ (by omega)), vLk_e (g2 k hk).2 (ev _ _ (by omega)) (ev _ _ (by omega))⟩, fun k hk => ⟨In_e (g3 k hk).1 (ev _ _ (by omega)), In_e (g3 k hk).2 (ev _ _ (by omega))⟩, In_e g4 (ev _ _ (by omega)), (In_nI (n := n) (uV_s _ _ _ _) hn (by omega)).1, In_e g6 (ev _ _ (by omega)), In_e g7 (ev _ _ (by omega)), fun k hk => ?_⟩, Iv5_e I.2.2.2.2 fun f k h => ev f k (by omega)⟩
  obtain ⟨a, b, c, d⟩ := g8 k hk
  exact ⟨Im_e a (ev _ _ (by omega)), In_e b (ev _ _ (by omega)), In_e c (ev _ _ (by omega)), In_e d (ev _ _ (by omega))⟩
theorem Iv_38 {V : VV} {n : Nat} (I : Iv V) (hn : n ≤ 31) : Iv (uV V 38 0 (nI n)) := by
  have ev : ∀ f k, f ≠ 38 → uV V 38 0 (nI n) f k = V f k := fun f k h => uV_n _ _ _ _ _ _ (by omega)
  have et : ∀ q, eTs V (uV V 38 0 (nI n)) q := fun q => ⟨ev _ _ (by omega), fun s hs => ev _ _ (by omega)⟩
  obtain ⟨g1, g2, g3, g4, g5, g6, g7, g8⟩ := I.2.2.2.1
  refine ⟨Iv1_e I.1 fun f k h => ev f k (by omega), Iv2_e I.1 I.2.1 (fun f k h => ev f k (by omega)) fun q hq _ => et q, Iv3_e I.2.2.1 (fun f k h => ev f k (by omega)) (fun q hq _ => et q) (fun q hq => VT_e (I.2.2.1.2.2.2.2.2.2 q hq) (et q)), ⟨In_e g1 (ev _ _ (by omega)), fun k hk => ⟨vLk_e (g2 k hk).1 (ev _ _ (by omega)) (ev _ _ (by omega)), vLk_e (g2 k hk).2 (ev _ _ (by omega)) (ev _ _ (by omega))⟩, fun k hk => ⟨In_e (g3 k hk).1 (ev _ _ (by omega)), In_e (g3 k hk).2 (ev _ _ (by omega))⟩, In_e g4 (ev _ _ (by omega)), In_e g5 (ev _ _ (by omega)), (In_nI (n := n) (uV_s _ _ _ _) hn (by omega)).1, In_e g7 (ev _ _ (by omega)), fun k hk => ?_⟩, Iv5_e I.2.2.2.2 fun f k h => ev f k (by omega)⟩
  obtain ⟨a, b, c, d⟩ := g8 k hk
  exact ⟨Im_e a (ev _ _ (by omega)), In_e b (ev _ _ (by omega)), In_e c (ev _ _ (by omega)), In_e d (ev _ _ (by omega))⟩
theorem inB1_nI {x : Int32} {n : Nat} (h : inB x 1 (nI n) = true) (hn : n < 2 ^ 31) : ∃ j, 1 ≤ j ∧ j ≤ n ∧ x = nI j := by
  have h' := of_decide_eq_true h
  have e1 : (1 : Int32).toInt = 1 := rfl
  have e0 : (0 : Int32).toInt = 0 := rfl
  have h0 : inB x 0 (nI n) = true := decide_eq_true ⟨by rw [fa_le, e0]; have := (fa_le _ _).mp h'.1; omega, h'.2⟩
  obtain ⟨j, hj, e⟩ := inB_nI h0 hn
  refine ⟨j, ?_, hj, e⟩
  have := (fa_le _ _).mp h'.1
  rw [e, e1, nI_toInt (by omega)] at this
  omega
theorem uV_self (V : VV) (f k : Nat) : uV V f k (V f k) = V := by
  funext a b
  unfold uV
  split
  next hh => rw [hh.1, hh.2]
  next => rfl
def ro_ok (k t s : Int32) : Bool := inB k 1 (nI 31) && (inB t 1 (nI (pc5 k.toNatClampNeg)) && inB s 0 (nI 31))
def ro_is (V : VV) (k t s : Int32) : Bool := decide (V 38 0 ≤ i_pc V s) && decide (t ≤ nI (pc5 (s.toNatClampNeg &&& k.toNatClampNeg)))
def t_role (k t s : Int32) : Nat := if ro_ok k t s then 0 else 1
def v_role (V : VV) (k t s : Int32) : VV := if ro_ok k t s then (if ro_is V k t s then uV (uV V 37 0 k) 38 0 t else V) else V
theorem ro_x {k t s : Int32} (h : ro_ok k t s = true) : ∃ a b c, a ≤ 31 ∧ b ≤ 5 ∧ c ≤ 31 ∧ k = nI a ∧ t = nI b ∧ s = nI c := by
  unfold ro_ok at h
  rw [Bool.and_eq_true, Bool.and_eq_true] at h
  obtain ⟨a, _, ha, ea⟩ := inB1_nI h.1 (by decide)
  have p : pc5 k.toNatClampNeg ≤ 5 := pc5_b
  obtain ⟨b, _, hb, eb⟩ := inB1_nI h.2.1 (by omega)
  obtain ⟨c, hc, ec⟩ := inB_nI h.2.2 (by decide)
  exact ⟨a, b, c, ha, by omega, hc, ea, eb, ec⟩
theorem v_role_54 {V : VV} {k t s : Int32} : v_role V k t s 54 0 = V 54 0 := by
  unfold v_role
  (repeat' split) <;> first | rfl | exact (uV_n _ _ _ _ _ _ (by omega)).trans (uV_n _ _ _ _ _ _ (by omega))
theorem Iv_role {V : VV} {k t s : Int32} (I : Iv V) : Iv (v_role V k t s) := by
  unfold v_role
  split
  next h =>
    obtain ⟨a, b, c, ha, hb, hc, ea, eb, ec⟩ := ro_x h
    split
    · rw [ea, eb]; exact Iv_38 (Iv_37 I ha) (by omega)
    · exact I
  · exact I
theorem w_role {S : xm_S} {V W : VV} {N : Nat} {k t s : Int32} {g : Int32 → xm_S → Prop} (R : RR S V W N) (I : Iv V) (h : ∀ S' N', RR S' (v_role V k t s) W N' → (t_role k t s = 0 → st_l S' 1200 0 = bL (ro_is V k t s)) → g (nI (t_role k t s)) S') : wp_L_role (some 1) k t s (some 1200) S g := by
  have I' := Iv_role (k := k) (t := t) (s := s) I
  have c1 := R.1.2.2.1
  have T1 : ro_ok k t s = false → g 1 S := fun q => by
    have e : t_role k t s = 1 := by unfold t_role; rw [if_neg (by rw [q]; decide)]
    have w : v_role V k t s = V := by unfold v_role; rw [if_neg (by rw [q]; decide)]
    rw [e, w] at h
    exact h S N R (fun e => absurd e (by decide))
  unfold wp_L_role wp_L_role_18 wp_X11_role
  refine ⟨1, rfl, c1.1, q_range (fun a => ?_) (fun a => ⟨rfl, T1 (by unfold ro_ok; rw [a, Bool.false_and])⟩)⟩
  obtain ⟨ka, _, hka, eka⟩ := inB1_nI a (by decide)
  have ck : k.toNatClampNeg = ka := by rw [eka]; exact nI_clamp (by omega)
  have pe : nI (pc5 k.toNatClampNeg) = nI (pc5 ka) := by rw [ck]
  rw [eka]
  refine q_bits (by omega) ?_
  rw [← pe, ← eka]
  refine q_range (fun b => q_range (fun c => ⟨c1.1, ?_⟩) (fun c => ⟨rfl, T1 (by unfold ro_ok; rw [c, Bool.and_false, Bool.and_false])⟩)) (fun b => ⟨rfl, T1 (by unfold ro_ok; rw [b, Bool.false_and, Bool.and_false])⟩)
  have ok : ro_ok k t s = true := by unfold ro_ok; rw [a, b, c]; rfl
  have e0 : t_role k t s = 0 := by unfold t_role; rw [if_pos ok]
  have v : v_role V k t s = if ro_is V k t s then uV (uV V 37 0 k) 38 0 t else V := by unfold v_role; rw [if_pos ok]
  obtain ⟨a', b', c', ha', hb', hc', ea', eb', ec'⟩ := ro_x ok
  obtain ⟨z, hz, ez, ep⟩ := i_bits I c
  rw [e0, v] at h
  rw [v] at I'
  have x := R.1.2.2.2.1
  rw [x.2.2.2.2.1, ez]
  refine q_bits hz ⟨c1.1, ?_⟩
  rw [x.2.2.2.2.2.1, ← ep]
  have sk : s &&& k = nI (s.toNatClampNeg &&& k.toNatClampNeg) := by rw [ea', ec', fa_and, nI_clamp (by omega), nI_clamp (by omega)]
  have skb : s.toNatClampNeg &&& k.toNatClampNeg < 32 := Nat.lt_of_le_of_lt Nat.and_le_right (by rw [ck]; omega)
  have no : ro_is V k t s = false → wp_X11_role_53 1 k t S (fun r12 S11 => (r12 = 0 → ∃ n1, (some 1200 : Option Nat) = some n1 ∧ ∃ z4, st_t S11 n1 = some (103, z4) ∧ vp_in (0 : Int32) z4 ∧ ∀ S6, S6 = st_pl S11 n1 ((0 : Int32)).toNatClampNeg (0 : Int64) → g (0 : Int32) S6) ∧ (¬ r12 = 0 → ∃ n1, (some 1200 : Option Nat) = some n1 ∧ ∃ z4, st_t S11 n1 = some (103, z4) ∧ vp_in (0 : Int32) z4 ∧ ∀ S6, S6 = st_pl S11 n1 ((0 : Int32)).toNatClampNeg (1 : Int64) → g (0 : Int32) S6)) (fun X9 S9 => (X9 = xm_eA ∧ g (1 : Int32) S9)) := fun q => by
    rw [q, if_neg (by decide)] at h
    unfold wp_X11_role_53 wp_X11_role_54 wp_X11_role_71
    exact ⟨fun _ => ⟨.inl rfl, fun _ => w_out R I fun S' R' hl => h S' N R' (fun _ => hl), fun e => absurd rfl e⟩, fun e => absurd rfl e⟩
  refine ⟨fun p1 => no ?_, fun p1 => ?_⟩
  · unfold ro_is
    rw [decide_eq_false (fun hh => by rw [fa_lt] at p1; rw [fa_le] at hh; omega), Bool.false_and]
  · rw [sk]
    refine q_bits skb ⟨fun p2 => no ?_, fun p2 => ?_⟩
    · unfold ro_is
      rw [decide_eq_false (p := t ≤ _) (fun hh => by rw [fa_lt] at p2; rw [fa_le] at hh; omega), Bool.and_false]
    · have is : ro_is V k t s = true := by
        unfold ro_is
        rw [decide_eq_true (by rw [fa_lt] at p1; rw [fa_le]; omega), decide_eq_true (by rw [fa_lt] at p2; rw [fa_le]; omega)]; rfl
      rw [is, if_pos rfl] at h I'
      unfold wp_X11_role_54 wp_X11_role_71
      refine ⟨fun e => absurd e (by decide), fun _ => ⟨c1.1, fun S2 e2 S4 e4 => ⟨.inr rfl, fun e => absurd e (by decide), fun _ => ?_⟩⟩⟩
      have R4 : RR S4 (uV (uV V 37 0 k) 38 0 t) W N := by
        subst e4 e2
        exact ⟨CR_x13 (CR_x12 R.1 I) (by rw [ea']; exact Iv_37 I ha'), MR_K R.2.1 (KM_pi (KM_pi (KM_rfl _) (by omega)) (by omega)), R.2.2⟩
      exact w_out R4 I' fun S' R' hl => h S' N R' (fun _ => hl)
theorem ml_role {S : xm_S} {V W : VV} {N : Nat} {k t s : Int32} {g : Int32 → xm_S → Prop} (R : RR S V W N) (I : Iv V) (IW : Iv W) (h : ∀ S' b, RR S' V (v_role W k t s) N → st_i S' 1000 0 = nI (t_role k t s) → (t_role k t s = 0 → b = bI (ro_is W k t s)) → st_l S' 1200 0 = st_l S 1200 0 → g b S') : wp_X12_role 1000 k t s S g := by
  have X1 : ro_ok k t s = false → wp_X12_role_36 1000 k t s S g := fun q => by
    have e : t_role k t s = 1 := by unfold t_role; rw [if_neg (by rw [q]; decide)]
    have w : v_role W k t s = W := by unfold v_role; rw [if_neg (by rw [q]; decide)]
    rw [e, w] at h
    unfold wp_X12_role_36 wp_X12_role_37 wp_X12_role_50
    exact ⟨fun _ => ⟨1000, rfl, R.2.1.1.1, m_may (t := 1) R I rfl (by decide) fun S4 R4 k4 e4 => ⟨fun e => absurd rfl e, fun _ => h S4 _ R4 e4 (fun e => absurd e (by decide)) ((k4 1200 (by omega)).2.2.1 0)⟩⟩, fun e => absurd rfl e⟩
  unfold wp_X12_role
  refine m_in (bI_c (fun a => ?_) (fun a => X1 (by unfold ro_ok; rw [a, Bool.false_and])))
  obtain ⟨ka, _, hka, eka⟩ := inB1_nI a (by decide)
  have ck : k.toNatClampNeg = ka := by rw [eka]; exact nI_clamp (by omega)
  have pe : nI (pc5 k.toNatClampNeg) = nI (pc5 ka) := by rw [ck]
  rw [eka]
  refine m_size (by omega) ?_
  rw [← pe, ← eka]
  refine m_in (bI_c (fun b => m_in (bI_c (fun c => ?_) (fun c => X1 (by unfold ro_ok; rw [c, Bool.and_false, Bool.and_false])))) (fun b => X1 (by unfold ro_ok; rw [b, Bool.false_and, Bool.and_false])))
  have ok : ro_ok k t s = true := by unfold ro_ok; rw [a, b, c]; rfl
  have e0 : t_role k t s = 0 := by unfold t_role; rw [if_pos ok]
  have v : v_role W k t s = if ro_is W k t s then uV (uV W 37 0 k) 38 0 t else W := by unfold v_role; rw [if_pos ok]
  obtain ⟨a', b', c', ha', hb', hc', ea', eb', ec'⟩ := ro_x ok
  obtain ⟨z, hz, ez, ep⟩ := i_bits IW c
  rw [e0, v] at h
  unfold wp_X12_role_37 wp_X12_role_50
  refine ⟨fun e => absurd e (by decide), fun _ => ⟨1000, rfl, R.2.1.1.1, m_may (t := 0) R I rfl (by decide) fun S4 R4 k4 e4 => ⟨fun _ => ⟨R4.2.1.1.1, ?_⟩, fun e => absurd e (by decide)⟩⟩⟩
  have M := R4.2.1.2.1
  have m37 : st_i S4 1000 37 = W 37 0 := M 37 rfl
  have m38 : st_i S4 1000 38 = W 38 0 := M 38 rfl
  have hl := (k4 1200 (by omega)).2.2.1 0
  rw [m37, ez]
  refine m_size hz ⟨R4.2.1.1.1, ?_⟩
  rw [m38, ← ep]
  have sk : s &&& k = nI (s.toNatClampNeg &&& k.toNatClampNeg) := by rw [ea', ec', fa_and, nI_clamp (by omega), nI_clamp (by omega)]
  have skb : s.toNatClampNeg &&& k.toNatClampNeg < 32 := Nat.lt_of_le_of_lt Nat.and_le_right (by rw [ck]; omega)
  have no : ro_is W k t s = false → wp_X12_role_88 1000 k t S4 g := fun q => by
    rw [q, if_neg (by decide)] at h
    unfold wp_X12_role_88 wp_X12_role_89 wp_X12_role_105 wp_X12_role_122
    refine ⟨fun _ => ⟨R4.2.1.1.1, 1000, rfl, R4.2.1.1.1, fun S9 e9 => ?_⟩, fun e => absurd rfl e⟩
    rw [m37] at e9
    have M9 : MR S9 W := by have := MR_s (f := 37) (x := W 37 0) R4.2.1; rw [uV_self] at this; subst e9; exact this
    have k9 : KC S4 S9 := by subst e9; exact KC_pi (KC_rfl _) (by omega)
    refine ⟨fun _ => ⟨M9.1.1, 1000, rfl, M9.1.1, fun S10 e10 => ⟨.inl rfl, ?_⟩⟩, fun e => absurd rfl e⟩
    rw [show st_i S9 1000 38 = W 38 0 from M9.2.1 38 rfl] at e10
    have M10 : MR S10 W := by have := MR_s (f := 38) (x := W 38 0) M9; rw [uV_self] at this; subst e10; exact this
    have k10 : KC S4 S10 := by subst e10; exact KC_pi k9 (by omega)
    refine h S10 _ (RR_m R4 I k10 M10) ?_ (fun _ => rfl) (((k10 1200 (by omega)).2.2.1 0).trans hl)
    rw [e10, st_i_pi_n _ _ _ _ _ _ (by omega), e9, st_i_pi_n _ _ _ _ _ _ (by omega)]; exact e4
  refine ⟨fun p1 => no ?_, fun p1 => ?_⟩
  · unfold ro_is
    rw [decide_eq_false (fun hh => by rw [fa_lt] at p1; rw [fa_le] at hh; omega), Bool.false_and]
  · rw [sk]
    refine m_size skb ⟨fun p2 => no ?_, fun p2 => ?_⟩
    · unfold ro_is
      rw [decide_eq_false (p := t ≤ _) (fun hh => by rw [fa_lt] at p2; rw [fa_le] at hh; omega), Bool.and_false]
    · have is : ro_is W k t s = true := by
        unfold ro_is
        rw [decide_eq_true (by rw [fa_lt] at p1; rw [fa_le]; omega), decide_eq_true (by rw [fa_lt] at p2; rw [fa_le]; omega)]; rfl
      rw [is, if_pos rfl] at h
      unfold wp_X12_role_89 wp_X12_role_105 wp_X12_role_122
      refine ⟨fun e => absurd e (by decide), fun _ => ⟨1000, rfl, R4.2.1.1.1, fun S9 e9 => ?_⟩⟩
      have M9 : MR S9 (uV W 37 0 k) := by subst e9; exact MR_s R4.2.1
      have k9 : KC S4 S9 := by subst e9; exact KC_pi (KC_rfl _) (by omega)
      refine ⟨fun e => absurd e (by decide), fun _ => ⟨1000, rfl, M9.1.1, fun S10 e10 => ⟨.inr rfl, ?_⟩⟩⟩
      have M10 : MR S10 (uV (uV W 37 0 k) 38 0 t) := by subst e10; exact MR_s M9
      have k10 : KC S4 S10 := by subst e10; exact KC_pi k9 (by omega)
      refine h S10 _ (RR_m R4 I k10 M10) ?_ (fun _ => rfl) (((k10 1200 (by omega)).2.2.1 0).trans hl)
      rw [e10, st_i_pi_n _ _ _ _ _ _ (by omega), e9, st_i_pi_n _ _ _ _ _ _ (by omega)]; exact e4
theorem lc_role {m b len kc ks N : Nat} {xs : Nat → Int32} {x4 : Int32} {S : xm_S} {V : VV} {g : Int32 → xm_S → Prop} {Z : Option Nat → Option Nat → Option Nat → Int32 → xm_S → Nat → Nat → Prop} (R : RR S V V N) (I : Iv V) (hm : vn V 54 0 ≤ m) (nx : NX m b len xs x4 kc ks g Z) (hv1 : vp_in (x4 + (1 : Int32)) len) (hv2 : vp_in (x4 + nI 2) len) (hv3 : vp_in (x4 + nI 3) len) : wp_L_law_1819 b len xs (some 1) (some 1000) (some 1200) x4 S kc ks g Z := by
  obtain ⟨k1, k2, nx⟩ := nx
  unfold wp_L_law_1819 wp_L_law_1903 wp_L_law_1897 wp_L_law_1903
  refine ⟨hv1, hv2, hv3, by omega, by omega, w_role R I fun S1 N1 R1 h1 => ⟨hv1, hv2, hv3, 1000, rfl, R1.2.1.1.1, by omega, by omega, ml_role R1 (Iv_role I) I fun S2 r R2 e2 hb hl => ⟨1000, rfl, R2.2.1.1.1, by omega, by omega, m_thrown R2.2.1 e2 ?_⟩⟩⟩
  exact lc_cmpB (C := fun v w => (lg_cmp w v = 0 → wp_L_law_2965 b len xs (some 1) (some 1000) (some 1200) x4 S2 (kc + 3) (ks + 18) g Z) ∧ (¬ lg_cmp w v = 0 → kc + 3 ≤ 601024 ∧ ks + 18 ≤ 7293034 ∧ g (0 : Int32) S2)) R2.2.2 (by unfold t_role; split <;> decide) (fun e => hl.trans (h1 e)) hb (fun _ _ q => q) (nx _ _ _ _ _ R2 (Iv_role I) (md v_role_54 hm) (by omega) (by omega))
