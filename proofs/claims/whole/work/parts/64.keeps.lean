-- the tape becomes a range; a new need
def kp1 (V : VV) (q : Nat) : Nat → VV
  | 0 => uV V 25 q (V 25 154)
  | k + 1 => uV (kp1 V q k) 24 (40 * q + k) (V 24 (6160 + k))
def kpV (V : VV) (q : Nat) : VV := uV (kp1 V q (tL V 154)) 25 154 0
theorem kp1_24 {V : VV} {q : Nat} : ∀ k j, kp1 V q k 24 j = if 40 * q ≤ j ∧ j < 40 * q + k then V 24 (6160 + (j - 40 * q)) else V 24 j := by
  intro k
  induction k with
  | zero => intro j; rw [if_neg (by omega)]; exact uV_n _ _ _ _ _ _ (by omega)
  | succ k ih =>
    intro j
    unfold kp1
    by_cases e : j = 40 * q + k
    · subst e
      rw [uV_s, if_pos (by omega), show 40 * q + k - 40 * q = k by omega]
    · rw [uV_n _ _ _ _ _ _ (by omega), ih]
      by_cases h : 40 * q ≤ j ∧ j < 40 * q + k
      · rw [if_pos h, if_pos (by omega)]
      · rw [if_neg h, if_neg (by omega)]
theorem kp1_f {V : VV} {q : Nat} : ∀ k f j, f ≠ 24 → kp1 V q k f j = uV V 25 q (V 25 154) f j := by
  intro k
  induction k with
  | zero => intro f j h; rfl
  | succ k ih => intro f j h; exact (uV_n _ _ _ _ _ _ (by omega)).trans (ih f j h)
theorem kp_ev {V : VV} {q : Nat} (f k : Nat) (h1 : f ≠ 24) (h2 : f ≠ 25) : kpV V q f k = V f k := (uV_n _ _ _ _ _ _ (by omega)).trans ((kp1_f _ f k h1).trans (uV_n _ _ _ _ _ _ (by omega)))
theorem kp_24 {V : VV} {q j : Nat} : kpV V q 24 j = if 40 * q ≤ j ∧ j < 40 * q + tL V 154 then V 24 (6160 + (j - 40 * q)) else V 24 j := (uV_n _ _ _ _ _ _ (by omega)).trans (kp1_24 _ j)
theorem kp_25 {V : VV} {q k : Nat} (hk : k ≠ 154) : kpV V q 25 k = if k = q then V 25 154 else V 25 k := by
  refine (uV_n _ _ _ _ _ _ (by omega)).trans ((kp1_f _ 25 k (by decide)).trans ?_)
  by_cases e : k = q
  · subst e; rw [uV_s, if_pos rfl]
  · rw [if_neg e]; exact uV_n _ _ _ _ _ _ (by omega)
theorem kp_o {V : VV} {q q' : Nat} (h40 : tL V 154 ≤ 40) (hq : q' < 154) (hne : q' ≠ q) : eTs V (kpV V q) q' := ⟨(kp_25 (by omega)).trans (if_neg hne), fun s hs => kp_24.trans (if_neg (by omega))⟩
theorem kp_L {V : VV} {q : Nat} (hq : q < 154) : tL (kpV V q) q = tL V 154 := by unfold tL vn; rw [kp_25 (by omega), if_pos rfl]
theorem kp_T {V : VV} {q : Nat} (hq : q < 154) : tT (kpV V q) q = tT V 154 := by
  funext s
  unfold tT
  rw [kp_L hq]
  by_cases h : s < tL V 154
  · rw [if_pos h, if_pos h]
    unfold vn
    rw [kp_24, if_pos (by omega), show 40 * q + s - 40 * q = s by omega]
  · rw [if_neg h, if_neg h]
theorem kp_VT {V : VV} {q : Nat} (hq : q < 154) (h : VT V 154) : VT (kpV V q) q := by
  unfold VT
  rw [kp_L hq, kp_T hq]
  refine ⟨(kp_25 (by omega)).trans ((if_pos rfl).trans h.1), h.2.1, fun s hs => ?_⟩
  rw [kp_24, if_pos (by omega), show 40 * q + s - 40 * q = s by omega]
  exact h.2.2 s hs
theorem kp_0 {V : VV} {q : Nat} : tL (kpV V q) 154 = 0 := vn_s (n := 0) (by decide)
theorem kp_VT0 {V : VV} {q : Nat} : VT (kpV V q) 154 := by
  unfold VT
  rw [tT_0 kp_0, kp_0]
  exact ⟨uV_s _ _ _ _, TX_0, fun s hs => absurd hs (Nat.not_lt_zero s)⟩
theorem kp_VR {V : VV} {q : Nat} (hq : q < 154) (h : VT V 154) (ok : okT V = true) : VR (kpV V q) q := by
  refine ⟨kp_VT hq h, ?_⟩
  rw [kp_L hq, kp_T hq]
  exact okT_t ok
theorem kp_all {V : VV} {q : Nat} (h : ∀ q, q < 155 → VT V q) (hq : q < 154) : ∀ q', q' < 155 → VT (kpV V q) q' := by
  intro q' hq'
  have h40 := (h 154 (by decide)).2.1.1
  by_cases e1 : q' = 154
  · subst e1; exact kp_VT0
  · by_cases e2 : q' = q
    · subst e2; exact kp_VT (by omega) (h 154 (by decide))
    · exact VT_e (h q' hq') (kp_o h40 (by omega) e2)
theorem m_keeps {S : xm_S} {W : VV} {q : Nat} {g : xm_S → Prop} (M : MR S W) (hT : VT W 154) (hq : q < 154) (h : ∀ S', KC S S' → MR S' (kpV W q) → st_i S' 1000 0 = st_i S 1000 0 → g S') : wp_X12_keeps 1000 (nI q) S g := by
  have h40 := hT.2.1.1
  unfold wp_X12_keeps
  refine ⟨M.1.1, _, MS_r M.1 25, _, MS_t M.1 25, vp_in_nI (show 154 < 155 by omega) (by decide), _, MS_r M.1 25, _, MS_t M.1 25, vp_in_nI (show q < 155 by omega) (by decide), fun S39 e39 => ?_⟩
  rw [show st_i S (1001 + 25) ((nI 154)).toNatClampNeg = W 25 154 from M.2.2 25 154 rfl, nI_clamp (show q < 2 ^ 31 by omega)] at e39
  have M39 : MR S39 (kp1 W q 0) := by subst e39; exact MR_a (f := 25) M
  have k39 : KC S S39 := by subst e39; exact KC_pi (KC_rfl _) (by omega)
  have t39 : st_i S39 1000 0 = st_i S 1000 0 := by rw [e39, st_i_pi_n _ _ _ _ _ _ (by omega)]
  unfold wp_X12_keeps_16
  intro Z hZ
  have H : ∀ d k S1, k + d = tL W 154 → MR S1 (kp1 W q k) → KC S S1 → st_i S1 1000 0 = st_i S 1000 0 → Z (nI q) (nI k) S1 := by
    intro d
    induction d with
    | zero =>
      intro k S1 hk M1 K1 t1
      refine hZ _ _ _ ?_
      unfold wp_X12_keeps_16B
      refine ⟨M1.1.1, _, MS_r M1.1 25, _, MS_t M1.1 25, vp_in_nI (show 154 < 155 by omega) (by decide), ?_⟩
      rw [show st_i S1 (1001 + 25) ((nI 154)).toNatClampNeg = kp1 W q k 25 154 from M1.2.2 25 154 rfl, kp1_f _ _ _ (by decide), uV_n _ _ _ _ _ _ (by omega), hT.1]
      refine ⟨fun _ => ⟨_, MS_r M1.1 25, _, MS_t M1.1 25, vp_in_nI (show 154 < 155 by omega) (by decide), fun S12 e12 => ?_⟩, fun e => absurd (nI_le (show tL W 154 ≤ k by omega) (by omega)) e⟩
      rw [show k = tL W 154 by omega] at M1
      refine h S12 (KC_tr K1 (by subst e12; exact KC_pi (KC_rfl _) (by omega))) (by subst e12; exact MR_a (f := 25) M1) ?_
      rw [e12, st_i_pi_n _ _ _ _ _ _ (by omega)]; exact t1
    | succ d ih =>
      intro k S1 hk M1 K1 t1
      refine hZ _ _ _ ?_
      unfold wp_X12_keeps_16B
      refine ⟨M1.1.1, _, MS_r M1.1 25, _, MS_t M1.1 25, vp_in_nI (show 154 < 155 by omega) (by decide), ?_⟩
      rw [show st_i S1 (1001 + 25) ((nI 154)).toNatClampNeg = kp1 W q k 25 154 from M1.2.2 25 154 rfl, kp1_f _ _ _ (by decide), uV_n _ _ _ _ _ _ (by omega), hT.1, nI_add, pk_mul, nI_add]
      refine ⟨fun e => absurd e (nI_ge (show k < tL W 154 by omega) (by omega)), fun _ => ⟨_, MS_r M1.1 24, _, MS_t M1.1 24, vp_in_nI (show 6160 + k < 6200 by omega) (by decide), _, MS_r M1.1 24, _, MS_t M1.1 24, vp_in_nI (show 40 * q + k < 6200 by omega) (by decide), fun S24 e24 y ey => ?_⟩⟩
      rw [nI_clamp (by omega), nI_clamp (by omega), show st_i S1 (1001 + 24) (6160 + k) = W 24 (6160 + k) from (M1.2.2 24 _ rfl).trans ((kp1_24 _ _).trans (if_neg (by omega)))] at e24
      rw [ey, nI_1]
      refine ih (k + 1) S24 (by omega) (by subst e24; exact MR_a (f := 24) M1) (KC_tr K1 (by subst e24; exact KC_pi (KC_rfl _) (by omega))) ?_
      rw [e24, st_i_pi_n _ _ _ _ _ _ (by omega)]; exact t1
  exact H (tL W 154) 0 S39 (by omega) M39 k39 t39
-- a new object of Need
def NW (S S' : xm_S) (nm : Nat) : Prop := ∀ n, n ≠ nm → st_t S' n = st_t S n ∧ (∀ k, st_r S' n k = st_r S n k) ∧ (∀ k, st_l S' n k = st_l S n k) ∧ ∀ k, st_i S' n k = st_i S n k
def NB (S' : xm_S) (nm : Nat) (pk : Int32) (r : Option Nat) (ft pf ow : Int32) : Prop := st_t S' nm = some (4, 0) ∧ st_i S' nm 0 = pk ∧ st_r S' nm 1 = r ∧ st_i S' nm 2 = ft ∧ st_i S' nm 3 = pf ∧ st_i S' nm 4 = ow
theorem NW_rfl (S : xm_S) (nm : Nat) : NW S S nm := fun _ _ => ⟨rfl, fun _ => rfl, fun _ => rfl, fun _ => rfl⟩
theorem NW_tr {S S1 S2 : xm_S} {nm : Nat} (h : NW S S1 nm) (h2 : NW S1 S2 nm) : NW S S2 nm := fun n hn => ⟨(h2 n hn).1.trans (h n hn).1, fun k => ((h2 n hn).2.1 k).trans ((h n hn).2.1 k), fun k => ((h2 n hn).2.2.1 k).trans ((h n hn).2.2.1 k), fun k => ((h2 n hn).2.2.2 k).trans ((h n hn).2.2.2 k)⟩
theorem NW_pi {S S1 : xm_S} {nm k : Nat} {v : Int32} (h : NW S S1 nm) : NW S (st_pi S1 nm k v) nm := NW_tr h fun n hn => ⟨rfl, fun _ => rfl, fun _ => rfl, fun j => st_i_pi_n _ _ _ _ _ _ fun hh => hn hh.1⟩
theorem NW_pr {S S1 : xm_S} {nm k : Nat} {v : Option Nat} (h : NW S S1 nm) : NW S (st_pr S1 nm k v) nm := NW_tr h fun n hn => ⟨rfl, fun j => st_r_pr_n _ _ _ _ _ _ fun hh => hn hh.1, fun _ => rfl, fun _ => rfl⟩
theorem NW_nw {S : xm_S} {nm : Nat} {ty : Nat × Nat} : NW S (st_nw S nm ty) nm := fun n hn => ⟨by rw [st_t_nw, if_neg hn], fun k => by rw [st_r_nw, if_neg hn], fun k => by rw [st_l_nw, if_neg hn], fun k => by rw [st_i_nw, if_neg hn]⟩
theorem NW_KX {ER EI : Nat → Nat → Bool} {N nm : Nat} {S S' : xm_S} (h : NW S S' nm) (hn : st_t S nm = none) (eR : ∀ k, ER nm k = true) (eI : ∀ k, EI nm k = true) : KX ER EI N S S' := fun m _ => by
  by_cases e : m = nm
  · subst e
    refine ⟨⟨fun x hx => ?_, fun hh _ => ?_⟩, fun k hk => ?_, fun k hk => ?_⟩
    · rw [hn] at hx; cases hx
    · rcases hh with hh | hh
      · rw [eR] at hh; cases hh
      · rw [eI] at hh; cases hh
    · rw [eR] at hk; cases hk
    · rw [eI] at hk; cases hk
  · exact ⟨KX_ty (h m e).1, fun k _ => (h m e).2.1 k, fun k _ => .inr ((h m e).2.2.2 k)⟩
theorem NW_KM {nm : Nat} {S S' : xm_S} (h : NW S S' nm) (e : nm < 1000 ∨ 1200 ≤ nm) : KM S S' := fun n a b => h n (by omega)
theorem KM_pr {S S1 : xm_S} {n k : Nat} {v : Option Nat} (h : KM S S1) (e : n < 1000 ∨ 1200 ≤ n) : KM S (st_pr S1 n k v) := KM_tr h fun m _ _ => ⟨rfl, fun j => st_r_pr_n _ _ _ _ _ _ (by omega), fun _ => rfl, fun _ => rfl⟩
theorem c_newNeed {S : xm_S} {nm : Nat} {pk : Int32} {r : Option Nat} {ft pf ow : Int32} {g : xm_S → Prop} (h : ∀ S', NW S S' nm → NB S' nm pk r ft pf ow → g S') : ∀ S44, S44 = st_nw S nm (4, 0) → wp_X4_init nm pk r ft pf ow S44 g := by
  intro S44 e44
  have n44 : NW S S44 nm := by rw [e44]; exact NW_nw
  have t44 : st_t S44 nm = some (4, 0) := by rw [e44, st_t_nw, if_pos rfl]
  unfold wp_X4_init
  refine ⟨t44, fun S2 e2 S4 e4 S6 e6 S8 e8 S10 e10 S12 e12 => ?_⟩
  subst e2 e4 e6 e8 e10 e12
  refine h _ (NW_pi (NW_pi (NW_pi (NW_pr (NW_pi (NW_pi n44)))))) ⟨t44, ?_, ?_, ?_, ?_, st_i_pi_s _ _ _ _⟩
  · rw [st_i_pi_n _ _ _ _ _ _ (by omega), st_i_pi_n _ _ _ _ _ _ (by omega), st_i_pi_n _ _ _ _ _ _ (by omega), st_i_pr, st_i_pi_s]
  · rw [st_r_pi, st_r_pi, st_r_pi, st_r_pr_s]
  · rw [st_i_pi_n _ _ _ _ _ _ (by omega), st_i_pi_n _ _ _ _ _ _ (by omega), st_i_pi_s]
  · rw [st_i_pi_n _ _ _ _ _ _ (by omega), st_i_pi_s]
theorem q_room {x y : Int32} {S : xm_S} {g : xm_S → Prop} {Ex : String → xm_S → Prop} (h1 : x < y → g S) (h0 : ¬ x < y → Ex xm_eS S) : wp_X11_checkRoom x y S g Ex := by
  unfold wp_X11_checkRoom
  exact ⟨h1, h0⟩
theorem q_other {x y : Int32} {S : xm_S} {g : xm_S → Prop} {Ex : String → xm_S → Prop} (h1 : ¬ x = y → g S) (h0 : x = y → Ex xm_eA S) : wp_X11_checkOther x y S g Ex := by
  unfold wp_X11_checkOther
  exact ⟨h1, h0⟩
theorem fr_NW {N nm : Nat} {S S' : xm_S} (f : frs N S) (h : NW S S' nm) (e : nm < N) : frs N S' := fun n hn => (h n (by omega)).1.trans (f n hn)
theorem kp_cong {V V1 : VV} {q : Nat} (hq : q < 154) (e : ∀ f k, (f = 24 ∨ f = 25) → V1 f k = V f k) : ∀ f k, (f = 24 ∨ f = 25) → kpV V1 q f k = kpV V q f k := by
  have t : tL V1 154 = tL V 154 := vn_e (e 25 154 (by omega))
  intro f k h
  rcases h with h | h
  · subst h; rw [kp_24, kp_24, t, e 24 _ (by omega), e 24 _ (by omega)]
  · subst h
    by_cases h1 : k = 154
    · subst h1; exact (uV_s _ _ _ _).trans (uV_s _ _ _ _).symm
    · rw [kp_25 h1, kp_25 h1, e 25 _ (by omega), e 25 _ (by omega)]
/-- the tape became the range q -/
def KP (V V' : VV) (q : Nat) : Prop := ∀ f k, (f = 24 ∨ f = 25) → V' f k = kpV V q f k
theorem KP_s {V V' : VV} {q : Nat} (h : KP V V' q) (q' : Nat) : eTs (kpV V q) V' q' := ⟨h 25 _ (by omega), fun s _ => h 24 _ (by omega)⟩
theorem KP_t {V V' : VV} {q : Nat} (h : KP V V' q) (q' : Nat) : eT (kpV V q) V' q' := eT_v (fun f k hf => h f k hf) q'
theorem KP_o {V V' : VV} {q q' : Nat} (h : KP V V' q) (h40 : tL V 154 ≤ 40) (hq : q' < 154) (hne : q' ≠ q) : eTs V V' q' := ⟨(h 25 _ (by omega)).trans (kp_o h40 hq hne).1, fun s hs => (h 24 _ (by omega)).trans ((kp_o h40 hq hne).2 s hs)⟩
theorem KP_L {V V' : VV} {q : Nat} (h : KP V V' q) (hq : q < 154) : tL V' q = tL V 154 := (KP_t h q).1.trans (kp_L hq)
theorem KP_T {V V' : VV} {q : Nat} (h : KP V V' q) (hq : q < 154) : tT V' q = tT V 154 := (eT_T (KP_t h q)).trans (kp_T hq)
theorem KP_0 {V V' : VV} {q : Nat} (h : KP V V' q) : tL V' 154 = 0 := (KP_t h 154).1.trans kp_0
theorem KP_all {V V' : VV} {q : Nat} (h : KP V V' q) (hA : ∀ q, q < 155 → VT V q) (hq : q < 154) : ∀ q', q' < 155 → VT V' q' := fun q' hq' => VT_e (kp_all hA hq q' hq') (KP_s h q')
theorem KP_R {V V' : VV} {q : Nat} (h : KP V V' q) (hT : VT V 154) (hq : q < 154) (ok : okT V = true) : VR V' q := VR_e (kp_VR hq hT ok) (KP_s h q)
theorem Iv3_g {V V' : VV} (h : Iv3 V) (e : ∀ f k, (18 ≤ f ∧ f ≤ 23) → V' f k = V f k) (et : ∀ q, 144 ≤ q → q < 154 → eTs V V' q) (ht : ∀ q, q < 155 → VT V' q) : Iv3 V' := by
  obtain ⟨g1, g2, g3, g4, g5, g6, g7⟩ := h
  have b1 := g1.2
  have b4 := g4.2
  refine ⟨In_e g1 (e _ _ (by omega)), fun k hk => ⟨In_e (g2 k hk).1 (e _ _ (by omega)), In_e (g2 k hk).2 (e _ _ (by omega))⟩, fun k hk => ?_, In_e g4 (e _ _ (by omega)), fun k hk => ⟨In_e (g5 k hk).1 (e _ _ (by omega)), In_e (g5 k hk).2 (e _ _ (by omega))⟩, fun k hk => ?_, ht⟩
  · rw [vn_e (e 18 _ (by omega))] at hk
    exact VR_e (g3 k hk) (et _ (by omega) (by omega))
  · rw [vn_e (e 21 _ (by omega))] at hk
    exact VR_e (g6 k hk) (et _ (by omega) (by omega))
