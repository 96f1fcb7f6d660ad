-- the search
theorem chN_u {V : VV} {pl : Nat} {ul : Nat → Bool} {c : CH} {p x : Nat} : chN V pl ul (ud c p x) (p + 1) = chN V pl ul c p + (if chg V pl ul p x then 1 else 0) ∧ szN (ud c p x) (p + 1) = szN c p + (if x = 0 then 0 else 1) := by
  have q := chN_c (V := V) (pl := pl) (ul := ul) (c := c) (c' := ud c p x) p (fun j hj => ud_n _ _ _ (by omega))
  refine ⟨?_, ?_⟩
  · show chN V pl ul (ud c p x) p + (if chg V pl ul p (ud c p x p) then 1 else 0) = _
    rw [q.1, ud_s]
  · show szN (ud c p x) p + (if ud c p x p = 0 then 0 else 1) = _
    rw [q.2, ud_s]
theorem leaf_n {V : VV} {pl : Nat} {ul : Nat → Bool} {ask : Int32} {goal : Nat} {c : CH} {st : SS} (h : ¬ Clo V pl ul ask c) : leaf V pl ul ask goal c st = st := by
  unfold leaf
  split
  · rfl
  · rw [if_neg (fun hh => h (cloB_t.mp hh))]
/-- no completion is a closure: nothing is found there -/
theorem gF_no {V : VV} {pl : Nat} {ul : Nat → Bool} {ask : Int32} {goal n p : Nat} {c : CH} {st : SS} (I : Iv V) (hp : p + n = 6) (o : okc V c) (h : ∀ c', okc V c' → (∀ j, j < p → c' j = c j) → ¬ Clo V pl ul ask c') : gF V (leaf V pl ul ask goal) n p c st = st := by
  refine gF_id I n p c hp fun c' a b => leaf_n (h c' (fun j hj => ?_) a)
  rcases Nat.lt_or_ge j p with q | q
  · rw [a j q]; exact o j hj
  · exact b j q hj
theorem gF_st {V : VV} {pl : Nat} {ul : Nat → Bool} {ask : Int32} {goal n p : Nat} {c : CH} {st : SS} (I : Iv V) (hp : p + n = 6) (h : sett goal st (chN V pl ul c p) (szN c p) = true) : gF V (leaf V pl ul ask goal) n p c st = st := by
  refine gF_id I n p c hp fun c' a b => ?_
  have q := chN_c (V := V) (pl := pl) (ul := ul) (c := c) (c' := c') p a
  have m := chN_m (V := V) (pl := pl) (ul := ul) (c := c') (p := p) n
  rw [hp, q.1, q.2] at m
  unfold leaf
  rw [if_pos (sett_m h m.1 m.2)]
theorem ud_0 {c : CH} {p : Nat} (h : c p = 0) : ud c p 0 = c := by
  funext j
  by_cases e : j = p
  · rw [e, ud_s, h]
  · exact ud_n _ _ _ e
theorem x_not0 (x : Int32) : x &&& ((0 : Int32) ^^^ (-1 : Int32)) = x := bt_ext fun i hi => by rw [bt_and, bt_not _ hi, bt_0]; simp
theorem c_branch {S0 S : xm_S} {V : VV} {N pl : Nat} {ul : Nat → Bool} {ask : Int32} {goal n p x : Nat} {c : CH} {st st' : SS} {ws : Nat → Int32 → Int32 → Int32 → xm_S → (xm_S → Prop) → Prop} {g : xm_S → Prop} (I : Iv V) (B : SB S0 V N pl ul ask goal) (hp : p < 6) (o : okc V c) (h0 : c p = 0) (hx : x ≤ vn V 2 p) (X : SN S0 S c st) (hw : ∀ S' g', SN S0 S' (ud c p x) st → (∀ S2, SN S0 S2 (ud c p x) st' → g' S2) → ws 16 (nI (p + 1)) (nI (chN V pl ul (ud c p x) (p + 1))) (nI (szN (ud c p x) (p + 1))) S' g') (h : ∀ S', SN S0 S' c st' → g S') : wp_X7_branch ws 16 (nI p) (cv x) (nI (chN V pl ul c p)) (nI (szN c p)) S g := by
  have B1 := SB_k I B X.1
  have s16 := (gS_16 B1.1.2.2.1).2
  have o5 := B1.1.2.2.2.2.1
  have h4 := (I.1.1 p hp).2.2
  have nu := chN_u (V := V) (pl := pl) (ul := ul) (c := c) (p := p) (x := x)
  have e18 := B1.2.1.2.2.2.2.1 p hp
  have xm := cv_m (x := x) (by omega)
  -- the bit of the version, with what it does to the choice
  have K : ∀ b, chB c ||| b = chB (ud c p x) → chB (ud c p x) &&& (b ^^^ (-1 : Int32)) = chB c → wp_X7_branch_14 ws 16 (nI p) (cv x) (nI (chN V pl ul c p)) (nI (szN c p)) b S g := fun b b1 b2 => by
    have L : wp_X7_branch_41 ws 16 (nI p) (cv x) (nI (chN V pl ul c p)) (nI (szN c p)) b (bI (chg V pl ul p x)) S g := by
      unfold wp_X7_branch_41
      rw [nI_clamp (show p < 2 ^ 31 by omega)]
      refine ⟨s16, 20, o5.2.2.2.2.2.2.1, _, o5.2.2.2.2.2.2.2.1, vp_in_nI (show p < 6 by omega) (by decide), fun S22 e22 S24 e24 => ?_⟩
      rw [show st_i S22 16 11 = chB c by rw [e22, st_i_pi_n _ _ _ _ _ _ (by omega)]; exact X.2.2.1, b1] at e24
      have F24 : xf_F fSx S S24 := by rw [e24, e22]; exact xf_pi (xf_pi (xf_rfl _ _) rfl) rfl
      have X24 : SN S0 S24 (ud c p x) st := by
        refine ⟨xf_tr X.1 F24, fun j hj => ?_, by rw [e24, st_i_pi_s], SRe_k X.2.2.2 fun n k hn => by rw [e24, st_i_pi_n _ _ _ _ _ _ (by omega), e22, st_i_pi_n _ _ _ _ _ _ (by omega)]⟩
        rw [e24, st_i_pi_n _ _ _ _ _ _ (by omega), e22]
        by_cases e : j = p
        · rw [e, st_i_pi_s, ud_s]
        · rw [st_i_pi_n _ _ _ _ _ _ (by omega), ud_n _ _ _ e]; exact X.2.1 j hj
      -- behind the sums
      have M : wp_X7_branch_91 ws 16 (nI p) b (nI (szN (ud c p x) (p + 1))) (nI (chN V pl ul (ud c p x) (p + 1))) (nI (p + 1)) (some 16) S24 g := by
        unfold wp_X7_branch_91
        refine ⟨16, rfl, (F24.1 _).trans s16, hw S24 _ X24 fun S4 X4 => ?_⟩
        have B4 := SB_k I B X4.1
        have o4 := B4.1.2.2.2.2.1
        rw [nI_clamp (show p < 2 ^ 31 by omega)]
        refine ⟨(gS_16 B4.1.2.2.1).2, fun S7 e7 => ⟨20, by rw [e7]; exact o4.2.2.2.2.2.2.1, _, by rw [e7]; exact o4.2.2.2.2.2.2.2.1, vp_in_nI (show p < 6 by omega) (by decide), fun S14 e14 => ?_⟩⟩
        rw [X4.2.2.1, b2] at e7
        refine h S14 ⟨xf_tr X4.1 (by rw [e14, e7]; exact xf_pi (xf_pi (xf_rfl _ _) rfl) rfl), fun j hj => ?_, ?_, SRe_k X4.2.2.2 fun n k hn => by rw [e14, st_i_pi_n _ _ _ _ _ _ (by omega), e7, st_i_pi_n _ _ _ _ _ _ (by omega)]⟩
        · by_cases e : j = p
          · rw [e, e14, st_i_pi_s, h0]; rfl
          · rw [e14, st_i_pi_n _ _ _ _ _ _ (by omega), e7, st_i_pi_n _ _ _ _ _ _ (by omega), X4.2.1 j hj, ud_n _ _ _ e]
        · rw [e14, st_i_pi_n _ _ _ _ _ _ (by omega), e7, st_i_pi_s]
      rw [nu.1, nu.2] at M
      have M2 : wp_X7_branch_77 ws 16 (nI p) (cv x) (nI (szN c p)) b (nI (chN V pl ul c p + if chg V pl ul p x then 1 else 0)) (nI (p + 1)) (some 16) S24 g := by
        unfold wp_X7_branch_77
        rw [nI_1]
        refine ⟨fun e => ?_, fun e => ?_⟩
        · rw [if_neg (fun hh => e (xm.mpr hh))] at M; exact M
        · rw [if_pos (xm.mp e)] at M; exact M
      rw [nI_1, nI_1]
      refine bI_c (fun e => ?_) (fun e => ?_)
      · rw [if_pos e] at M2; exact M2
      · rw [if_neg (by rw [e]; decide)] at M2; exact M2
    unfold wp_X7_branch_14 wp_X7_branch_40
    rw [nI_clamp (show p < 2 ^ 31 by omega)]
    refine ⟨s16, 18, o5.2.2.1, _, o5.2.2.2.1, vp_in_nI (show p < 6 by omega) (by decide), ?_⟩
    rw [e18]
    unfold chg at L
    refine ⟨fun e => ?_, fun e => ⟨18, o5.2.2.1, _, o5.2.2.2.1, vp_in_nI (show p < 6 by omega) (by decide), ?_⟩⟩
    · rw [decide_eq_false (p := cnI V pl ul p ≠ -1) (fun hh => hh e), Bool.false_and] at L
      exact L
    · rw [decide_eq_true (p := cnI V pl ul p ≠ -1) e, Bool.true_and] at L
      rw [e18]
      refine ⟨fun e2 => ?_, fun e2 => ?_⟩
      · rw [decide_eq_false (p := cnI V pl ul p ≠ cv x) (fun hh => hh e2)] at L
        exact L
      · rw [decide_eq_true (p := cnI V pl ul p ≠ cv x) e2] at L
        exact L
  unfold wp_X7_branch wp_X7_bitOf
  refine ⟨fun e => ?_, fun e => ?_⟩
  · have x0 : x ≠ 0 := fun hh => e (xm.mpr hh)
    obtain ⟨v, rfl⟩ : ∃ v, x = v + 1 := ⟨x - 1, by omega⟩
    obtain ⟨a1, a2, a3⟩ := chB_u I o hp h0 (show v < vn V 2 p by omega)
    rw [show cv (v + 1) = nI v from if_neg (by omega), pk_mul, nI_add, show p * 4 + v = 4 * p + v by omega] at *
    exact K _ a2 a3
  · have x0 : x = 0 := xm.mp e
    subst x0
    have e0 := ud_0 h0
    refine K 0 ?_ ?_
    · rw [e0, Int32.or_zero]
    · rw [e0]; exact x_not0 _
theorem c_search {S0 : xm_S} {V : VV} {N pl : Nat} {ul : Nat → Bool} {ask : Int32} {goal : Nat} (I : Iv V) (hl : pl < 3) (hg : goal ≤ 2) (B : SB S0 V N pl ul ask goal) : ∀ n p c S st g, p + n = 6 → okc V c → (∀ j, p ≤ j → c j = 0) → PC V pl ul ask c → SN S0 S c st → st.1 + 5 ^ n ≤ 20000 → (∀ S', SN S0 S' c (gF V (leaf V pl ul ask goal) n p c st) → g S') → wz_X7_search (n + 2) 16 (nI p) (nI (chN V pl ul c p)) (nI (szN c p)) S g := by
  intro n
  induction n with
  | zero =>
    intro p c S st g hp o cz Pc X hf h
    have p6 : p = 6 := by omega
    subst p6
    have B1 := SB_k I B X.1
    have s16 := (gS_16 B1.1.2.2.1).2
    have cb := chN_b (V := V) (pl := pl) (ul := ul) (c := c) 6
    have h : ∀ S', SN S0 S' c (leaf V pl ul ask goal c st) → g S' := h
    show wp_X7_search (wz_X7_search 1) 16 (nI 6) (nI (chN V pl ul c 6)) (nI (szN c 6)) S g
    unfold wp_X7_search wp_X7_search_45
    refine ⟨s16, c_settled s16 B1.2.2.2.1 hg X.2.2.2 (by omega) (by omega) (by omega) (bI_c (fun b => ?_) (fun b => ⟨fun e => absurd e (by decide), fun _ => ⟨s16, ?_⟩⟩))⟩
    · unfold leaf at h
      rw [if_pos b] at h
      exact h S X
    · unfold leaf at h
      rw [if_neg (by rw [b]; decide)] at h
      rw [X.2.2.1]
      have cl : Clo V pl ul ask c ↔ ∃ s, amF V pl (chB c) ask c 0 = some s ∧ s.1 = chB c := by
        rw [am_full I hl o]
        exact ⟨fun C => C.2.2, fun A => ⟨fun p p6 h0 => bt_pm.symm.trans (wr_pm _ (Pc.1 p p6 h0)), Pc.2, A⟩⟩
      refine c_areMet B1.1 I B1.2.1 hl X.2.1 o B1.2.2.1 fun S41 F41 k41 => ?_
      have X41 := SN_k X F41
      cases ea : amF V pl (chB c) ask c 0 with
      | none =>
        have nc : cloB V pl ul ask c = false := by
          cases hc : cloB V pl ul ask c
          · rfl
          · obtain ⟨s, e1, _⟩ := cl.mp (cloB_t.mp hc)
            rw [ea] at e1; cases e1
        rw [if_neg (by rw [nc]; decide)] at h
        exact ⟨fun _ => h S41 X41, fun e => absurd rfl e⟩
      | some s =>
        refine ⟨fun e => absurd e (show ¬ bI true = 0 by decide), fun _ => ⟨(F41.1 _).trans s16, ?_⟩⟩
        rw [(k41 s ea).1, X41.2.2.1]
        refine ⟨fun ne => ?_, fun e => ?_⟩
        · have nc : cloB V pl ul ask c = false := by
            cases hc : cloB V pl ul ask c
            · rfl
            · obtain ⟨s', e1, e2⟩ := cl.mp (cloB_t.mp hc)
              rw [ea] at e1
              rw [← Option.some.inj e1] at e2
              exact absurd e2 ne
          rw [if_neg (by rw [nc]; decide)] at h
          exact h S41 X41
        · rw [if_pos (cloB_t.mpr (cl.mpr ⟨s, ea, e⟩))] at h
          exact c_record I B X41 cb.1 cb.2 fun S44 X44 => h S44 X44
  | succ n ih =>
    intro p c S st g hp o cz Pc X hf h
    have p6 : p < 6 := by omega
    have B1 := SB_k I B X.1
    have s16 := (gS_16 B1.1.2.2.1).2
    have o5 := B1.1.2.2.2.2.1
    have h4 := (I.1.1 p p6).2.2
    have cb := chN_b (V := V) (pl := pl) (ul := ul) (c := c) p
    have c0 := cz p (Nat.le_refl _)
    have pos : 0 < 5 ^ n := Nat.pow_pos (by decide)
    have hB : (vn V 2 p + 1) * 5 ^ n ≤ 5 ^ (n + 1) := by
      rw [Nat.pow_succ, Nat.mul_comm (5 ^ n) 5]; exact Nat.mul_le_mul_right _ (by omega)
    -- the fold up to a digit
    have fb : ∀ t, t ≤ vn V 2 p + 1 → (fl (fun d s => gF V (leaf V pl ul ask goal) n (p + 1) (ud c p (dgt V p d)) s) t st).1 ≤ st.1 + t * 5 ^ n := fun t ht => fl_b t fun j hj s => gF_b I n (p + 1) _ s (by omega)
    have fs : ∀ t, t < vn V 2 p + 1 → (fl (fun d s => gF V (leaf V pl ul ask goal) n (p + 1) (ud c p (dgt V p d)) s) t st).1 + 5 ^ n ≤ 20000 := fun t ht => by
      have a := fb t (by omega)
      have b : (t + 1) * 5 ^ n ≤ (vn V 2 p + 1) * 5 ^ n := Nat.mul_le_mul_right _ (by omega)
      rw [Nat.succ_mul] at b
      omega
    have h : ∀ S', SN S0 S' c (fl (fun d s => gF V (leaf V pl ul ask goal) n (p + 1) (ud c p (dgt V p d)) s) (vn V 2 p + 1) st) → g S' := h
    have hst : sett goal st (chN V pl ul c p) (szN c p) = true → SN S0 S c st → g S := fun b X => h S (by
      have := gF_st (n := n + 1) (ask := ask) I hp b
      rw [show fl (fun d s => gF V (leaf V pl ul ask goal) n (p + 1) (ud c p (dgt V p d)) s) (vn V 2 p + 1) st = st from this]; exact X)
    have hno : ∀ S1, SN S0 S1 c st → (∀ c', okc V c' → (∀ j, j < p → c' j = c j) → ¬ Clo V pl ul ask c') → g S1 := fun S1 X1 b => h S1 (by
      have := gF_no (n := n + 1) (goal := goal) (st := st) I hp o b
      rw [show fl (fun d s => gF V (leaf V pl ul ask goal) n (p + 1) (ud c p (dgt V p d)) s) (vn V 2 p + 1) st = st from this]; exact X1)
    show wp_X7_search (wz_X7_search (n + 2)) 16 (nI p) (nI (chN V pl ul c p)) (nI (szN c p)) S g
    unfold wp_X7_search wp_X7_bitsOf
    rw [nI_clamp (show p < 2 ^ 31 by omega)]
    refine ⟨s16, c_settled s16 B1.2.2.2.1 hg X.2.2.2 (by omega) (by omega) (by omega) (bI_c (fun b => hst b X) (fun b => ⟨fun _ => ⟨s16, 19, o5.2.2.2.2.1, _, o5.2.2.2.2.2.1, vp_in_nI (show p < 7 by omega) (by decide), ?_⟩, fun e => absurd ((nI_ltI (by omega) (by decide)).mpr p6) e⟩))⟩
    rw [X.2.2.1]
    refine c_areMet B1.1 I B1.2.1 hl X.2.1 o B1.2.2.1 fun S25 F25 k25 => ?_
    have X25 := SN_k X F25
    cases ea : amF V pl (chB c ||| st_i S 19 p) ask c (chB c) with
    | none =>
      refine ⟨fun e => absurd rfl e, fun _ => hno S25 X25 fun c' o' a C => ?_⟩
      obtain ⟨w1, w2⟩ := wr_snd I hl o' C
      have h1 : ∀ q, q < 6 → c' q ≠ 0 → bt (chB c ||| st_i S 19 p) (vi c' q) = true := fun q hq q0 => by
        rw [bt_or]
        rcases Nat.lt_or_ge q p with r | r
        · have : vi c' q = vi c q := by unfold vi; rw [a q r]
          rw [this, (bt_ch I o).mpr ⟨q, hq, by rw [← a q r]; exact q0, rfl⟩]; rfl
        · rw [B1.2.2.2.2 p (by omega), w2 q hq q0, (vi_4 I o' hq q0).1, decide_eq_true r]; simp
      have h2 : ∀ q, q < 6 → c q ≠ 0 → c q = c' q := fun q hq q0 => by
        rcases Nat.lt_or_ge q p with r | r
        · exact (a q r).symm
        · exact absurd (cz q r) q0
      obtain ⟨s, e⟩ := am_snd (pool := chB c ||| st_i S 19 p) (r0 := chB c) (c' := c) I hl o' C.2.2.1 C.2.2.2 h1 h2
      rw [ea] at e; cases e
    | some s =>
      refine ⟨fun _ => ⟨(F25.1 _).trans s16, ?_⟩, fun e => absurd e (show ¬ bI true = 0 by decide)⟩
      -- none of the package
      refine c_branch (x := 0) (n := n) I B p6 o c0 (Nat.zero_le _) X25 (st' := fl (fun d s => gF V (leaf V pl ul ask goal) n (p + 1) (ud c p (dgt V p d)) s) 1 st) (fun S' g' X' hh => ?_) fun S28 X28 => ?_
      · have e0 := ud_0 c0
        rw [e0] at X' hh ⊢
        refine ih (p + 1) c S' st g' (by omega) o (fun j hj => cz j (by omega)) Pc X' (by have := fs 0 (by omega); exact this) fun S2 X2 => hh S2 ?_
        have : fl (fun d s => gF V (leaf V pl ul ask goal) n (p + 1) (ud c p (dgt V p d)) s) 1 st = gF V (leaf V pl ul ask goal) n (p + 1) c st := by
          show gF V (leaf V pl ul ask goal) n (p + 1) (ud c p 0) st = _
          rw [e0]
        rw [this]; exact X2
      · have B2 := SB_k I B X28.1
        have s2 := (gS_16 B2.1.2.2.1).2
        have o2 := B2.1.2.2.2.2.1
        refine ⟨s2, 19, o2.2.2.2.2.1, _, o2.2.2.2.2.2.1, vp_in_nI (show p < 7 by omega) (by decide), fun y38 e38 => ?_⟩
        rw [pk_mul, show p * 4 = 4 * p by omega] at e38
        have wu : ∀ k, k < 4 → bt (wrF V pl ask (pmI V pl ul)) (4 * p + k) = true → k < vn V 2 p := fun k hk hb => by
          have := (pm_24 (bt_pm.symm.trans (wr_pm _ hb))).2
          have := of_decide_eq_true this
          rw [show (4 * p + k) % 4 = k by omega, show (4 * p + k) / 4 = p by omega] at this
          exact this
        have lf : ∀ k, k < 32 → (bt y38 k = true ↔ k < vn V 2 p ∧ 0 ≤ abv V p k ∧ bt (wrF V pl ask (pmI V pl ul)) (4 * p + k) = true) := fun k hk => by
          have bb : ∀ i, bt (st_i S28 19 p &&& ((nI 15) <<< (nI (4 * p) &&& 31))) i = (bt (wrF V pl ask (pmI V pl ul)) i && decide (i / 4 = p)) := fun i => by
            rw [bt_and, B2.2.2.2.2 p (by omega), bt_bits p6]
            by_cases e : i / 4 = p
            · rw [decide_eq_true e, decide_eq_true (show p ≤ i / 4 by omega), Bool.and_true, Bool.and_true]
            · rw [decide_eq_false e, Bool.and_false, Bool.and_false]
          rw [e38]
          rcases Nat.lt_or_ge (k + 4 * p) 32 with q | q
          · rw [bt_sr (by omega) q, bb, Bool.and_eq_true, decide_eq_true_eq, Nat.add_comm k]
            constructor
            · intro hh; exact ⟨wu k (by omega) hh.1, Nat.zero_le _, hh.1⟩
            · intro hh; exact ⟨hh.2.2, by omega⟩
          · rw [bt_sr2 (by omega) hk q, bb, decide_eq_false (show ¬ 31 / 4 = p by omega), Bool.and_false]
            constructor
            · intro hh; cases hh
            · intro hh; omega
        unfold wp_X7_search_97
        intro Z hZ
        have H : ∀ r t i S1 y, t + r = vn V 2 p → i ≤ t → (∀ k, k < 32 → (bt y k = true ↔ k < vn V 2 p ∧ t ≤ abv V p k ∧ bt (wrF V pl ask (pmI V pl ul)) (4 * p + k) = true)) → SN S0 S1 c (fl (fun d s => gF V (leaf V pl ul ask goal) n (p + 1) (ud c p (dgt V p d)) s) (t + 1) st) → Z (nI p) (nI (chN V pl ul c p)) (nI (szN c p)) y (nI i) S1 := by
          intro r
          induction r with
          | zero =>
            intro t i S1 y ht hi ly X1
            refine hZ _ _ _ _ _ _ ?_
            unfold wp_X7_search_97B wp_X7_search_162
            rw [show t = vn V 2 p by omega] at ly X1
            have y0 : y = 0 := bt_z.mpr fun k hk => by
              cases e : bt y k
              · rfl
              · obtain ⟨a1, a2, _⟩ := (ly k hk).mp e
                have := abv_b a1
                omega
            exact ⟨fun _ => h S1 X1, fun _ => ⟨fun _ => h S1 X1, fun e => absurd y0 e⟩⟩
          | succ r ihr =>
            intro t i S1 y ht hi ly X1
            have tc : t < vn V 2 p := by omega
            obtain ⟨oo1, oo2⟩ := od_x h4 tc
            have dt : dgt V p (t + 1) = od V p t + 1 := by unfold dgt; rw [if_neg (by omega)]; rfl
            obtain ⟨u1, u2, u3⟩ := chB_u I o p6 c0 oo1
            have vp : vi (ud c p (od V p t + 1)) p = 4 * p + od V p t := by unfold vi; rw [ud_s]; omega
            -- where the digit changes nothing
            have skip : (∀ c', okc V c' → (∀ j, j < p + 1 → c' j = ud c p (od V p t + 1) j) → ¬ Clo V pl ul ask c') → ∀ S2, SN S0 S2 c (fl (fun d s => gF V (leaf V pl ul ask goal) n (p + 1) (ud c p (dgt V p d)) s) (t + 1) st) → SN S0 S2 c (fl (fun d s => gF V (leaf V pl ul ask goal) n (p + 1) (ud c p (dgt V p d)) s) (t + 1 + 1) st) := fun hn S2 X2 => by
              show SN S0 S2 c (gF V (leaf V pl ul ask goal) n (p + 1) (ud c p (dgt V p (t + 1))) (fl (fun d s => gF V (leaf V pl ul ask goal) n (p + 1) (ud c p (dgt V p d)) s) (t + 1) st))
              rw [dt, gF_no I (by omega) u1 hn]
              exact X2
            have lx : ∀ k, k < vn V 2 p → (t ≤ abv V p k ∧ k ≠ od V p t ↔ t + 1 ≤ abv V p k) := fun k hk => by
              constructor
              · intro ⟨a1, a2⟩
                rcases Nat.lt_or_ge t (abv V p k) with q | q
                · exact q
                · exact absurd (abv_i h4 hk oo1 (by omega)) a2
              · intro a1
                exact ⟨by omega, fun hh => by rw [hh, oo2] at a1; omega⟩
            by_cases hw : bt (wrF V pl ask (pmI V pl ul)) (4 * p + od V p t) = true
            · have yo : bt y (od V p t) = true := (ly _ (by omega)).mpr ⟨oo1, by omega, hw⟩
              have B3 := SB_k I B X1.1
              have s3 := (gS_16 B3.1.2.2.1).2
              have o3 := B3.1.2.2.2.2.1
              refine hZ _ _ _ _ _ _ ?_
              unfold wp_X7_search_97B wp_X7_search_162 wp_X7_search_156
              refine ⟨fun e => absurd e (nI_ge (show i < 4 by omega) (by decide)), fun _ => ⟨fun e => (by rw [e, bt_0] at yo; cases yo), fun _ => ⟨s3, c_greatest B3.1 I B3.2.1.1.1 p6 tc yo (fun e he => ?_) fun y6 e6 => ⟨s3, 17, o3.1, _, o3.2.1, ?_⟩⟩⟩⟩
              · cases hb : bt y (od V p e)
                · rfl
                · have q := od_x h4 (show e < vn V 2 p by omega)
                  have := ((ly _ (by omega)).mp hb).2.1
                  rw [q.2] at this; omega
              · rw [pk_mul, nI_add, show p * 4 + od V p t = 4 * p + od V p t by omega, nI_clamp (show 4 * p + od V p t < 2 ^ 31 by omega), X1.2.2.1]
                refine ⟨vp_in_nI (show 4 * p + od V p t < 24 by omega) (by decide), ?_⟩
                have ly6 : ∀ k, k < 32 → (bt y6 k = true ↔ k < vn V 2 p ∧ t + 1 ≤ abv V p k ∧ bt (wrF V pl ask (pmI V pl ul)) (4 * p + k) = true) := fun k hk => by
                  rw [e6, bt_and, bt_not _ hk, bt_one (by omega), Bool.and_eq_true, ly k hk]
                  by_cases ek : k = od V p t
                  · rw [decide_eq_true ek]
                    constructor
                    · intro hh; cases hh.2
                    · intro hh
                      rw [ek, oo2] at hh; omega
                  · rw [decide_eq_false ek]
                    constructor
                    · intro ⟨⟨a1, a2, a3⟩, _⟩
                      exact ⟨a1, (lx k a1).mp ⟨a2, ek⟩, a3⟩
                    · intro ⟨a1, a2, a3⟩
                      exact ⟨⟨a1, ((lx k a1).mpr a2).1, a3⟩, rfl⟩
                have eb : ∀ k, bt (st_i S1 17 (4 * p + od V p t)) k = (decide (k < 24) && (cf V (4 * p + od V p t) k || cf V k (4 * p + od V p t))) := fun k => B3.2.1.2.2.2.1 _ (by omega) k
                refine ⟨fun ne y1 e1 => ?_, fun e => ?_⟩
                · rw [e1, nI_1]
                  refine ihr (t + 1) (i + 1) S1 y6 (by omega) (by omega) ly6 (skip (fun c' o' a C => ?_) S1 X1)
                  obtain ⟨k, hk, eq⟩ := bt_nz.mp ne
                  rw [bt_and, Bool.and_eq_true, eb, Bool.and_eq_true, Bool.or_eq_true] at eq
                  obtain ⟨q, hq, q0, ek⟩ := (bt_ch I o).mp eq.2
                  have qp : q ≠ p := fun hh => q0 (by rw [hh]; exact c0)
                  have qlt : q < p := by
                    rcases Nat.lt_or_ge q p with r2 | r2
                    · exact r2
                    · exact absurd (cz q r2) q0
                  have cq : c' q = c q := (a q (by omega)).trans (ud_n _ _ _ qp)
                  have cp : c' p = od V p t + 1 := (a p (by omega)).trans (ud_s _ _ _)
                  have vq : vi c' q = k := by unfold vi; rw [cq]; exact ek.symm
                  have vp' : vi c' p = 4 * p + od V p t := by unfold vi; rw [cp]; omega
                  have f1 := C.2.1 p q p6 hq (fun hh => qp hh.symm) (by rw [cp]; omega) (by rw [cq]; exact q0)
                  have f2 := C.2.1 q p hq p6 qp (by rw [cq]; exact q0) (by rw [cp]; omega)
                  rw [vq, vp'] at f1 f2
                  rcases eq.1.2 with z | z
                  · rw [f1] at z; cases z
                  · rw [f2] at z; cases z
                · have e := bt_and_z.mp e
                  refine c_branch (x := od V p t + 1) (n := n) I B p6 o c0 (by omega) X1 (st' := fl (fun d s => gF V (leaf V pl ul ask goal) n (p + 1) (ud c p (dgt V p d)) s) (t + 1 + 1) st) (fun S' g' X' hh => ?_) fun S14 X14 y1 e1 => ?_
                  · refine ih (p + 1) (ud c p (od V p t + 1)) S' _ g' (by omega) u1 (fun j hj => (ud_n _ _ _ (by omega)).trans (cz j (by omega))) ⟨fun q hq q0 => ?_, fun q q' hq hq' ne q0 q0' => ?_⟩ X' (fs (t + 1) (by omega)) fun S2 X2 => hh S2 ?_
                    · by_cases eq : q = p
                      · rw [eq, vp]; exact hw
                      · rw [ud_n _ _ _ eq] at q0
                        have : vi (ud c p (od V p t + 1)) q = vi c q := by unfold vi; rw [ud_n _ _ _ eq]
                        rw [this]; exact Pc.1 q hq q0
                    · -- no conflict with those chosen before
                      have nc : ∀ q, q < 6 → q ≠ p → c q ≠ 0 → cf V (4 * p + od V p t) (vi c q) = false ∧ cf V (vi c q) (4 * p + od V p t) = false := fun q hq _ q0 => by
                        obtain ⟨v1, v2, v3, v4, v5⟩ := vi_4 I o hq q0
                        have z : bt (chB c) (vi c q) = true := (bt_ch I o).mpr ⟨q, hq, q0, rfl⟩
                        have w := eb (vi c q)
                        rw [decide_eq_true v2, Bool.true_and] at w
                        have w2 : bt (st_i S1 17 (4 * p + od V p t)) (vi c q) = false := by
                          cases w3 : bt (st_i S1 17 (4 * p + od V p t)) (vi c q)
                          · rfl
                          · have := e (vi c q) (by omega) w3
                            rw [z] at this; cases this
                        rw [w2] at w
                        have w := w.symm
                        rw [Bool.or_eq_false_iff] at w
                        exact w
                      have vq : ∀ q, q ≠ p → vi (ud c p (od V p t + 1)) q = vi c q := fun q hq => by unfold vi; rw [ud_n _ _ _ hq]
                      by_cases e1 : q = p
                      · have e2 : q' ≠ p := fun hh => ne (e1.trans hh.symm)
                        rw [ud_n _ _ _ e2] at q0'
                        rw [e1, vp, vq q' e2]
                        exact (nc q' hq' e2 q0').1
                      · rw [ud_n _ _ _ e1] at q0
                        by_cases e2 : q' = p
                        · rw [e2, vp, vq q e1]
                          exact (nc q hq e1 q0).2
                        · rw [ud_n _ _ _ e2] at q0'
                          rw [vq q e1, vq q' e2]
                          exact Pc.2 q q' hq hq' ne q0 q0'
                    · show SN S0 S2 _ (gF V (leaf V pl ul ask goal) n (p + 1) (ud c p (dgt V p (t + 1))) (fl (fun d s => gF V (leaf V pl ul ask goal) n (p + 1) (ud c p (dgt V p d)) s) (t + 1) st))
                      rw [dt]; exact X2
                  · rw [e1, nI_1]
                    exact ihr (t + 1) (i + 1) S14 y6 (by omega) (by omega) ly6 X14
            · -- out of reach
              refine ihr (t + 1) i S1 y (by omega) (by omega) (fun k hk => ?_) (skip (fun c' o' a C => hw ?_) S1 X1)
              · rw [ly k hk]
                constructor
                · intro ⟨a1, a2, a3⟩
                  refine ⟨a1, (lx k a1).mp ⟨a2, fun hh => hw ?_⟩, a3⟩
                  rw [← hh]; exact a3
                · intro ⟨a1, a2, a3⟩
                  exact ⟨a1, by omega, a3⟩
              · have cp : c' p = od V p t + 1 := (a p (by omega)).trans (ud_s _ _ _)
                have := (wr_snd I hl o' C).2 p p6 (by rw [cp]; omega)
                rw [show vi c' p = 4 * p + od V p t by unfold vi; rw [cp]; omega] at this
                exact this
        exact H (vn V 2 p) 0 0 S28 y38 (by omega) (Nat.le_refl _) lf X28
