-- the reference: what is reached
def Mch (S : xm_S) (c : CH) : Prop := ∀ p, p < 6 → st_i S 1034 p = cv (c p)
theorem pv_hp {V : VV} {q a : Nat} (h : vn V 15 a ≤ 2) : (hpB V q (2 * a) || hpB V q (2 * a + 1)) = pvK V q (nP V q) a (vn V 15 a) := by
  have e0 : hpB V q (2 * a) = (decide (0 < vn V 15 a) && (decide (vn V 16 (2 * a + 0) = nP V q) && hf (vn V 1 (nP V q)) (vn V 17 (2 * a + 0)) false false (itm V q))) := by
    unfold hpB
    rw [show 2 * a % 2 = 0 by omega, show 2 * a / 2 = a by omega]; rfl
  have e1 : hpB V q (2 * a + 1) = (decide (1 < vn V 15 a) && (decide (vn V 16 (2 * a + 1) = nP V q) && hf (vn V 1 (nP V q)) (vn V 17 (2 * a + 1)) false false (itm V q))) := by
    unfold hpB
    rw [show (2 * a + 1) % 2 = 1 by omega, show (2 * a + 1) / 2 = a by omega]
  rw [e0, e1]
  have hn : vn V 15 a = 0 ∨ vn V 15 a = 1 ∨ vn V 15 a = 2 := by omega
  rcases hn with e | e | e
  · rw [e]; rfl
  · rw [e]
    show ((true && _) || (false && _)) = ((false || _) : Bool)
    rw [Bool.true_and, Bool.false_and, Bool.or_false, Bool.false_or]
  · rw [e]
    show ((true && _) || (true && _)) = (((false || _) || _) : Bool)
    rw [Bool.true_and, Bool.true_and, Bool.false_or]
/-- no version provides its own package -/
theorem pvK_own {V : VV} {q i : Nat} (I : Iv V) (hi : i < 24) (e : i / 4 = nP V q) : ∀ k, k ≤ vn V 15 i → pvK V q (nP V q) i k = false := by
  intro k
  induction k with
  | zero => intro _; rfl
  | succ k ih =>
    intro hk
    show (pvK V q (nP V q) i k || (decide (vn V 16 (2 * i + k) = nP V q) && _)) = false
    rw [ih (by omega), decide_eq_false (fun hh => (I.2.1.2.2 i hi).2.2 k (by omega) (hh.trans e.symm))]; rfl
theorem mtc_x {V : VV} {c : CH} {q p : Nat} (I : Iv V) (o : okc V c) (hp : p < 6) (h0 : c p ≠ 0) : mtc V c q p = if p = nP V q then decide (V 4 (vi c p) &&& nF V q = nF V q) && inc V q (nP V q) (c p - 1) else decide (nF V q = 0) && pvK V q (nP V q) (vi c p) (vn V 15 (vi c p)) := by
  obtain ⟨v1, v2, v3, v4, v5⟩ := vi_4 I o hp h0
  unfold mtc mt usb
  rw [decide_eq_true h0, decide_eq_true v2, v1, v3, decide_eq_true v4, Bool.true_and, Bool.true_and, Bool.true_and]
theorem m_meeters {S : xm_S} {W : VV} {c : CH} {q : Nat} {g : Int32 → xm_S → Prop} (M : MR S W) (I : Iv W) (o : okc W c) (hq : q < 148) (L : LR S W q) (ch : Mch S c) (h : g (meI W c q) S) : wp_X12_meeters 1000 (nI q) (nI (nP W q)) (nF W q) S g := by
  have hP := nP_6 I hq
  have c4 : ∀ p, p < 6 → c p ≤ 4 := fun p hp => okc_4 I o hp
  -- behind what its own package does
  have T : ∀ x, (∀ i, bt x i = (decide (i < 6) && (mtc W c q i && decide (i = nP W q)))) → wp_X12_meeters_56 1000 (nI q) (nF W q) x S g := fun x hx => by
    unfold wp_X12_meeters_56 wp_X12_meeters_59
    intro Z hZ
    have H : ∀ d k x, k + d = 6 → (∀ i, bt x i = (decide (i < 6) && (mtc W c q i && decide (i = nP W q ∨ i < k)))) → Z (nI q) (nF W q) x (nI k) S := by
      intro d
      induction d with
      | zero =>
        intro k x hk hx
        refine hZ _ _ _ _ _ ?_
        unfold wp_X12_meeters_59B wp_X12_meeters_161
        rw [show k = 6 by omega] at hx ⊢
        refine ⟨fun _ => ?_, fun e => absurd (nI_le (Nat.le_refl 6) (by decide)) e⟩
        have : x = meI W c q := bt_ext fun i hi => by
          unfold meI
          rw [hx, bt_ob 6 (by decide)]
          by_cases e : i < 6
          · rw [decide_eq_true e, decide_eq_true (show i = nP W q ∨ i < 6 from .inr e), Bool.and_true]
          · rw [decide_eq_false e]; rfl
        rw [this]; exact h
      | succ d ih =>
        intro k x hk hx
        have ih := fun x => ih (k + 1) x (by omega)
        refine hZ _ _ _ _ _ ?_
        unfold wp_X12_meeters_59B wp_X12_meeters_161
        refine ⟨fun e => absurd e (nI_ge (show k < 6 by omega) (by decide)), fun _ => ⟨fun f0 => ?_, fun f0 => ⟨M.1.1, _, MS_r M.1 33, _, MS_t M.1 33, vp_in_nI (show k < 6 by omega) (by decide), ?_⟩⟩⟩
        · have : x = meI W c q := bt_ext fun i hi => by
            unfold meI
            rw [hx, bt_ob 6 (by decide)]
            cases e : mtc W c q i
            · rfl
            · have m := e
              unfold mtc at m
              rw [Bool.and_eq_true] at m
              by_cases e6 : i < 6
              · have c0 := of_decide_eq_true m.1
                have := mt_f m.2 f0
                rw [(vi_4 I o e6 c0).1] at this
                rw [decide_eq_true (show i = nP W q ∨ i < k from .inl this)]; rfl
              · rw [decide_eq_false e6]; rfl
          rw [this]; exact h
        · -- behind the test
          have B : ∀ b : Bool, b = (decide (c k ≠ 0) && pvK W q (nP W q) (vi c k) (vn W 15 (vi c k))) → wp_X12_meeters_135 1000 (nI q) (nF W q) x (nI k) (bI b) S g Z := fun b eb => by
            have key : ∀ y, (∀ i, bt y i = (decide (i = k) && b)) → ∀ i, bt (x ||| y) i = (decide (i < 6) && (mtc W c q i && decide (i = nP W q ∨ i < k + 1))) := fun y hy i => by
              rw [bt_or, hx, hy]
              by_cases e : i = k
              · rw [e, decide_eq_true rfl, Bool.true_and, decide_eq_true (show k < 6 by omega), Bool.true_and, Bool.true_and, decide_eq_true (show k = nP W q ∨ k < k + 1 from .inr (by omega)), Bool.and_true]
                by_cases c0 : c k = 0
                · rw [eb]
                  unfold mtc
                  rw [decide_eq_false (p := c k ≠ 0) (fun hh => hh c0)]; rfl
                · obtain ⟨v1, v2, v3, v4, v5⟩ := vi_4 I o (show k < 6 by omega) c0
                  rw [eb, decide_eq_true (p := c k ≠ 0) c0, Bool.true_and]
                  by_cases ek : k = nP W q
                  · rw [decide_eq_true (show k = nP W q ∨ k < k from .inl ek), Bool.and_true, pvK_own I v2 (v1.trans ek) _ (Nat.le_refl _), Bool.or_false]
                  · rw [decide_eq_false (show ¬ (k = nP W q ∨ k < k) by omega), Bool.and_false, Bool.false_or, mtc_x I o (by omega) c0, if_neg ek, decide_eq_true f0, Bool.true_and]
              · rw [decide_eq_false e, Bool.false_and, Bool.or_false]
                by_cases e2 : i = nP W q ∨ i < k
                · rw [decide_eq_true e2, decide_eq_true (show i = nP W q ∨ i < k + 1 by omega)]
                · rw [decide_eq_false e2, decide_eq_false (show ¬ (i = nP W q ∨ i < k + 1) by omega)]
            unfold wp_X12_meeters_135 wp_X12_meeters_152
            refine bI_c (fun b1 y1 e1 y3 e3 => ?_) (fun b0 y1 e1 y3 e3 => ?_)
            · rw [e1, e3, nI_1]
              exact ih _ (key _ fun i => by rw [bt_one (by omega), b1, Bool.and_true])
            · rw [e1, e3, nI_1]
              exact ih _ (key _ fun i => by rw [bt_0, b0, Bool.and_false])
          have hk6 : k < 6 := by omega
          rw [nI_clamp (show k < 2 ^ 31 by omega), show st_i S (1001 + 33) k = cv (c k) from ch k hk6]
          -- the place of the version
          have A : ∀ a, a < 24 → (c k ≠ 0 → a = vi c k) → wp_X12_meeters_97 1000 (nI q) (nF W q) x (nI k) (nI a) S g Z := fun a ha ea => by
            unfold wp_X12_meeters_97 wp_X12_meeters_134
            rw [nI_clamp (show k < 2 ^ 31 by omega), nI_clamp (show q < 2 ^ 31 by omega)]
            refine ⟨M.1.1, _, MS_r M.1 33, _, MS_t M.1 33, vp_in_nI (show k < 6 by omega) (by decide), ?_⟩
            rw [show st_i S (1001 + 33) k = cv (c k) from ch k hk6]
            refine ⟨fun e => B false ?_, fun e => ⟨_, MS_r M.1 31, _, MS_t M.1 31, vp_in_nI (show q < 155 by omega) (by decide), ?_⟩⟩
            · rw [decide_eq_false (p := c k ≠ 0) (fun hh => hh ((cv_m (c4 k hk6)).mp e))]; rfl
            · have c0 : c k ≠ 0 := fun hh => e ((cv_m (c4 k hk6)).mpr hh)
              have ea := ea c0
              have p15 := (I.1.2.2.1 a ha).2.2.1.2
              have hh := pv_hp (q := q) p15
              rw [← L.2 _ (by omega), ← L.2 _ (by omega)] at hh
              rw [lg_z, pk_mul]
              show ((st_l S 1032 q >>> ((nI (2 * a)).toInt64 &&& 63)) &&& 3 = 0 → _) ∧ (¬ (st_l S 1032 q >>> ((nI (2 * a)).toInt64 &&& 63)) &&& 3 = 0 → _)
              rw [bl_two (by omega)]
              refine ⟨fun z => B false ?_, fun z => B true ?_⟩
              · rw [z.1, z.2] at hh
                rw [← ea, ← hh, Bool.and_comm]; rfl
              · have : (bl (st_l S 1032 q) (2 * a) || bl (st_l S 1032 q) (2 * a + 1)) = true := by
                  cases e1 : bl (st_l S 1032 q) (2 * a)
                  · cases e2 : bl (st_l S 1032 q) (2 * a + 1)
                    · exact absurd ⟨e1, e2⟩ z
                    · rfl
                  · rfl
                rw [this] at hh
                rw [← ea, ← hh, decide_eq_true (p := c k ≠ 0) c0]; rfl
          refine ⟨fun e => ⟨_, MS_r M.1 33, _, MS_t M.1 33, vp_in_nI (show k < 6 by omega) (by decide), ?_⟩, fun e => A 0 (by decide) fun c0 => absurd ((cv_m (c4 k hk6)).mp e) c0⟩
          have c0 : c k ≠ 0 := fun hh => e ((cv_m (c4 k hk6)).mpr hh)
          rw [show st_i S (1001 + 33) k = cv (c k) from ch k hk6, show cv (c k) = nI (c k - 1) from if_neg c0, pk_mul, nI_add]
          exact A _ (vi_4 I o hk6 c0).2.1 fun _ => rfl
    refine H 6 0 x rfl fun i => ?_
    rw [hx]
    by_cases e : i = nP W q
    · rw [decide_eq_true e, decide_eq_true (show i = nP W q ∨ i < 0 from .inl e)]
    · rw [decide_eq_false e, decide_eq_false (show ¬ (i = nP W q ∨ i < 0) by omega)]
  have T0 : mtc W c q (nP W q) = false → wp_X12_meeters_56 1000 (nI q) (nF W q) (0 : Int32) S g := fun e => T 0 fun i => by
    rw [bt_0]
    by_cases e2 : i = nP W q
    · rw [e2, e, Bool.false_and, Bool.and_false]
    · rw [decide_eq_false e2, Bool.and_false, Bool.and_false]
  unfold wp_X12_meeters
  rw [nI_clamp (show nP W q < 2 ^ 31 by omega), nI_clamp (show q < 2 ^ 31 by omega)]
  refine ⟨M.1.1, _, MS_r M.1 33, _, MS_t M.1 33, vp_in_nI (show nP W q < 6 by omega) (by decide), fun y33 e33 => ?_⟩
  rw [show st_i S (1001 + 33) (nP W q) = cv (c (nP W q)) from ch _ hP] at e33
  subst e33
  refine ⟨fun e => T0 ?_, fun e => ⟨_, MS_r M.1 30, _, MS_t M.1 30, vp_in_nI (show q < 155 by omega) (by decide), ?_⟩⟩
  · unfold mtc
    rw [decide_eq_false (p := c (nP W q) ≠ 0) (fun hh => hh ((cv_m (c4 _ hP)).mp e))]; rfl
  · have c0 : c (nP W q) ≠ 0 := fun hh => e ((cv_m (c4 _ hP)).mpr hh)
    obtain ⟨v1, v2, v3, v4, v5⟩ := vi_4 I o hP c0
    have mx := mtc_x (q := q) I o hP c0
    rw [if_pos rfl] at mx
    rw [show cv (c (nP W q)) = nI (c (nP W q) - 1) from if_neg c0]
    refine m_isIn (by omega) ?_
    have lb := L.1 (c (nP W q) - 1)
    rw [decide_eq_true v4, Bool.true_and] at lb
    rw [show bt (st_i S (1001 + 30) q) (c (nP W q) - 1) = inc W q (nP W q) (c (nP W q) - 1) from lb]
    refine bI_c (fun b => ⟨M.1.1, _, MS_r M.1 4, _, MS_t M.1 4, ?_⟩) (fun b => T0 (by rw [mx, b, Bool.and_false]))
    rw [pk_mul, nI_add, show 4 * nP W q + (c (nP W q) - 1) = vi c (nP W q) from rfl, nI_clamp (show vi c (nP W q) < 2 ^ 31 by omega), show st_i S (1001 + 4) (vi c (nP W q)) = W 4 (vi c (nP W q)) from M.2.2 4 _ rfl]
    refine ⟨vp_in_nI v2 (by decide), fun ne => T0 (by rw [mx, decide_eq_false ne]; rfl), fun eq y48 e48 => T y48 fun i => ?_⟩
    rw [e48, bt_or, bt_0, Bool.false_or, bt_one (by omega)]
    by_cases e2 : i = nP W q
    · rw [e2, decide_eq_true rfl, mx, b, decide_eq_true eq, decide_eq_true hP]; rfl
    · rw [decide_eq_false e2, Bool.and_false, Bool.and_false]
/-- which features are on -/
def Mon (S : xm_S) (on : Nat → Int32) : Prop := ∀ p, p < 6 → st_i S 1035 p = on p
theorem m_asks {S : xm_S} {W : VV} {c : CH} {q : Nat} {on : Nat → Int32} {g : xm_S → Prop} (M : MR S W) (I : Iv W) (o : okc W c) (hq : q < 148) (ch : Mch S c) (hon : Mon S on) (h : ∀ S', MF S S' → (∀ n k, n ≠ 1035 → st_i S' n k = st_i S n k) → (∀ n k, st_l S' n k = st_l S n k) → Mon S' (asF W c q on) → g S') : wp_X12_asks 1000 (nI (nP W q)) (nF W q) S g := by
  have hP := nP_6 I hq
  have T : ∀ x, (on (nP W q) ||| x) = asF W c q on (nP W q) → wp_X12_asks_22 1000 x (on (nP W q)) (nI (nP W q)) (st_r S 1000 34) S g := fun x ex => by
    unfold wp_X12_asks_22
    rw [nI_clamp (show nP W q < 2 ^ 31 by omega)]
    refine ⟨_, MS_r M.1 34, _, MS_t M.1 34, vp_in_nI (show nP W q < 6 by omega) (by decide), fun S6 e6 => ?_⟩
    have e6 : S6 = st_pi S 1035 (nP W q) (on (nP W q) ||| x) := e6
    refine h S6 (by rw [e6]; exact MF_i (MF_r S) (by decide)) (fun n k hn => by rw [e6, st_i_pi_n _ _ _ _ _ _ (by omega)]) (fun n k => by rw [e6]; rfl) fun p hp => ?_
    by_cases e : p = nP W q
    · rw [e, e6, st_i_pi_s, ex]
    · rw [e6, st_i_pi_n _ _ _ _ _ _ (by omega), hon p hp]
      unfold asF
      rw [if_neg e]
  unfold wp_X12_asks
  rw [nI_clamp (show nP W q < 2 ^ 31 by omega)]
  refine ⟨M.1.1, _, MS_r M.1 34, _, MS_t M.1 34, vp_in_nI (show nP W q < 6 by omega) (by decide), _, MS_r M.1 33, _, MS_t M.1 33, vp_in_nI (show nP W q < 6 by omega) (by decide), ?_⟩
  rw [show st_i S (1001 + 33) (nP W q) = cv (c (nP W q)) from ch _ hP, show st_i S (1001 + 34) (nP W q) = on (nP W q) from hon _ hP, cv_m (okc_4 I o hP)]
  unfold asF at T
  rw [if_pos rfl] at T
  refine ⟨fun e => T _ ?_, fun e => T _ ?_⟩
  · rw [if_neg e]
  · rw [if_pos e, Int32.or_zero]
theorem m_isActive {S : xm_S} {W : VV} {pl p q : Nat} {on : Nat → Int32} {g : Int32 → xm_S → Prop} (M : MR S W) (hq : q < 96) (hp : p < 6) (hl : pl < 3) (hon : Mon S on) (h : g (bI (aOn W pl on p q)) S) : wp_X12_isActive 1000 (nI q) (nI p) (nI pl) S g := by
  unfold wp_X12_isActive wp_X12_isActive_43 wp_X12_isActive_39 wp_X12_isActive_44
  rw [nI_clamp (show q < 2 ^ 31 by omega), nI_clamp (show p < 2 ^ 31 by omega)]
  unfold aOn at h
  refine ⟨M.1.1, _, MS_r M.1 11, _, MS_t M.1 11, vp_in_nI (show q < 96 by omega) (by decide), m_isIn (by omega) ?_⟩
  rw [show st_i S (1001 + 11) q = W 11 q from M.2.2 11 _ rfl]
  refine bI_c (fun b => ⟨M.1.1, _, MS_r M.1 12, _, MS_t M.1 12, vp_in_nI (show q < 96 by omega) (by decide), ?_⟩) (fun b => ⟨.inl rfl, by rw [b] at h; exact h⟩)
  rw [b, Bool.true_and] at h
  rw [show st_i S (1001 + 12) q = W 12 q from M.2.2 12 _ rfl]
  refine ⟨fun e => ⟨.inr rfl, by rw [decide_eq_true e] at h; exact h⟩, fun e => ⟨_, MS_r M.1 34, _, MS_t M.1 34, vp_in_nI (show p < 6 by omega) (by decide), _, MS_r M.1 12, _, MS_t M.1 12, vp_in_nI (show q < 96 by omega) (by decide), ?_⟩⟩
  rw [decide_eq_false e, Bool.false_or] at h
  rw [show st_i S (1001 + 12) q = W 12 q from M.2.2 12 _ rfl, show st_i S (1001 + 34) p = on p from hon p hp]
  exact ⟨fun z => ⟨.inl rfl, by rw [decide_eq_false (fun hh => hh z)] at h; exact h⟩, fun z => ⟨.inr rfl, by rw [decide_eq_true z] at h; exact h⟩⟩
theorem m_state {S : xm_S} {W : VV} {s : RT} {g : Int32 → xm_S → Prop} (M : MR S W) (hon : Mon S s.2.1) (h : g (stK s 6) S) : wp_X12_state 1000 s.1 S g := by
  unfold wp_X12_state wp_X12_state_4
  intro Z hZ
  have H : ∀ d k, k + d = 6 → Z (stK s k) (nI k) S := by
    intro d
    induction d with
    | zero =>
      intro k hk
      refine hZ _ _ _ ?_
      unfold wp_X12_state_4B
      rw [show k = 6 by omega]
      exact ⟨fun _ => h, fun e => absurd (nI_le (Nat.le_refl 6) (by decide)) e⟩
    | succ d ih =>
      intro k hk
      have ih := ih (k + 1) (by omega)
      refine hZ _ _ _ ?_
      unfold wp_X12_state_4B
      rw [nI_clamp (show k < 2 ^ 31 by omega), pk_mul, nI_add]
      refine ⟨fun e => absurd e (nI_ge (show k < 6 by omega) (by decide)), fun _ => ⟨M.1.1, _, MS_r M.1 34, _, MS_t M.1 34, vp_in_nI (show k < 6 by omega) (by decide), fun y7 e7 y9 e9 => ?_⟩⟩
      rw [show st_i S (1001 + 34) k = s.2.1 k from hon k (by omega)] at e7
      rw [e7, e9, nI_1]
      exact ih
  exact H 6 0 rfl
-- only chosen ones are reached
def Cz (c : CH) (s : RT) : Prop := ∀ p, p < 6 → bt s.1 p = true → c p ≠ 0
theorem st_cz {V : VV} {c : CH} {q : Nat} {s : RT} (h : Cz c s) : Cz c (stR V c q s) := fun p hp e => by
  have e : bt (s.1 ||| meI V c q) p = true := e
  rw [bt_or, Bool.or_eq_true, bt_me] at e
  rcases e with e | e
  · exact h p hp e
  · have := e.2
    unfold mtc at this
    rw [Bool.and_eq_true] at this
    exact of_decide_eq_true this.1
theorem hnR_cz {V : VV} {pl p a : Nat} {c : CH} {s : RT} (h : Cz c s) : ∀ n, Cz c (hnR V pl c p a n s) := by
  intro n
  induction n with
  | zero => exact h
  | succ n ih =>
    unfold hnR
    split
    · exact st_cz ih
    · exact ih
theorem paR_cz {V : VV} {pl : Nat} {c : CH} {s : RT} (h : Cz c s) : ∀ n, Cz c (paR V pl c n s) := by
  intro n
  induction n with
  | zero => exact h
  | succ n ih =>
    unfold paR
    split
    · exact hnR_cz ih _
    · exact ih
theorem wiR_cz {V : VV} {ask : Int32} {c : CH} {s : RT} (h : Cz c s) : ∀ n, Cz c (wiR V ask c n s) := by
  intro n
  induction n with
  | zero => exact h
  | succ n ih =>
    unfold wiR
    split
    · exact st_cz ih
    · exact ih
theorem ur_0 {V : VV} {pl : Nat} {ask : Int32} {c : CH} : UR V pl ask c (0, fun _ => 0, true) := ⟨fun p _ e => (by rw [bt_0] at e; cases e), fun p _ _ b _ e => (by rw [bt_0] at e; cases e), fun i _ => bt_0 i, fun p i _ => bt_0 i, fun _ _ => rfl, fun e => by cases e⟩
/-- while it is reached: what stays -/
def MO (S S1 : xm_S) : Prop := MF S S1 ∧ (∀ n k, n ≠ 1035 → st_i S1 n k = st_i S n k) ∧ ∀ n k, st_l S1 n k = st_l S n k
theorem MO_t {S S1 S2 : xm_S} (h : MO S S1) (h2 : MO S1 S2) : MO S S2 := ⟨MF_t h.1 h2.1, fun n k e => (h2.2.1 n k e).trans (h.2.1 n k e), fun n k => (h2.2.2 n k).trans (h.2.2 n k)⟩
theorem MO_r (S : xm_S) : MO S S := ⟨MF_r S, fun _ _ _ => rfl, fun _ _ => rfl⟩
theorem LRs_k {S S1 : xm_S} {V : VV} (h : LRs S V) (e1 : ∀ n k, (n = 1031 ∨ n = 1033) → st_i S1 n k = st_i S n k) (e2 : ∀ n k, st_l S1 n k = st_l S n k) : LRs S1 V := ⟨fun a ha => ⟨fun j hj => LR_k ((h.1 a ha).1 j hj) (e1 _ _ (.inl rfl)) (e2 _ _), fun j hj => LR_k ((h.1 a ha).2 j hj) (e1 _ _ (.inl rfl)) (e2 _ _)⟩, fun j hj => LR_k (h.2.1 j hj) (e1 _ _ (.inl rfl)) (e2 _ _), fun p hp k hk => (e1 _ _ (.inr rfl)).trans (h.2.2 p hp k hk)⟩
theorem m_reaches {S : xm_S} {W : VV} {pl : Nat} {ask : Int32} {c : CH} {t : RT} {g : Int32 → xm_S → Prop} (M : MR S W) (I : Iv W) (o : okc W c) (hl : pl < 3) (ch : Mch S c) (L : LRs S W) (e : reR W pl ask c = some t) (h : ∀ S', MO S S' → g (if t.2.2 then t.1 else -1) S') : wp_X12_reaches 1000 (nI pl) ask S g := by
  have w18 := I.2.2.1.1
  have w182 := w18.2
  have Q : ∀ S1, MO S S1 → MR S1 W ∧ Mch S1 c ∧ LRs S1 W := fun S1 X => ⟨MF_MR X.1 M, fun p hp => (X.2.1 _ _ (by decide)).trans (ch p hp), LRs_k L (fun n k hn => X.2.1 _ _ (by omega)) X.2.2⟩
  -- one step
  have step : ∀ S1 q (s : RT) (g' : Int32 → xm_S → Prop), MO S S1 → q < 148 → LR S1 W q → Mon S1 s.2.1 → (∀ S2, MO S S2 → Mon S2 (stR W c q s).2.1 → g' (meI W c q) S2) → wp_X12_meeters 1000 (nI q) (nI (nP W q)) (nF W q) S1 (fun r S2 => wp_X12_asks 1000 (nI (nP W q)) (nF W q) S2 (fun S3 => g' r S3)) := fun S1 q s g' X hq Lq hon hg => m_meeters (Q S1 X).1 I o hq Lq (Q S1 X).2.1 (m_asks (Q S1 X).1 I o hq (Q S1 X).2.1 hon fun S2 a b c' d => hg S2 (MO_t X ⟨a, b, c'⟩) d)
  -- the passes
  have P : ∀ S1 s, MO S S1 → Mon S1 s.2.1 → Cz c s → whR W pl c 31 s = some t → ¬ stK s 6 = -1 → wp_X12_reaches_125 1000 (nI pl) s.1 (bI s.2.2) (-1 : Int32) S1 g := fun S1 s X1 on1 cz1 e1 ne1 => by
    unfold wp_X12_reaches_125
    intro Z hZ
    have H : ∀ n s S1 bf, MO S S1 → Mon S1 s.2.1 → Cz c s → whR W pl c n s = some t → (s.2.2 = true → ¬ bf = stK s 6) → Z (nI pl) s.1 (bI s.2.2) bf S1 := by
      intro n
      induction n with
      | zero => intro s S1 bf _ _ _ e1; cases e1
      | succ n ih =>
        intro s S1 bf X1 on1 cz1 e1 ne1
        have eW : whR W pl c (n + 1) s = if s.2.2 then (if (paR W pl c 6 s).2.2 = true ∧ ¬ stK s 6 = stK (paR W pl c 6 s) 6 then whR W pl c n (paR W pl c 6 s) else some (paR W pl c 6 s)) else some s := rfl
        rw [e1] at eW
        obtain ⟨M1, ch1, L1⟩ := Q S1 X1
        refine hZ _ _ _ _ _ ?_
        unfold wp_X12_reaches_125B wp_X12_reaches_307 wp_X12_reaches_317
        refine bI_c (fun ok => ⟨M1.1.1, m_state M1 on1 ⟨fun eq => absurd eq (ne1 ok), fun _ => ⟨M1.1.1, m_state M1 on1 ?_⟩⟩⟩) (fun no => ⟨fun _ => ?_, fun hh => ?_⟩)
        · rw [if_pos ok] at eW
          unfold wp_X12_reaches_150
          intro Z2 hZ2
          have H2 : ∀ d p S2, p + d = 6 → MO S S2 → Mon S2 (paR W pl c p s).2.1 → Z2 (nI pl) (paR W pl c p s).1 (bI (paR W pl c p s).2.2) (stK s 6) (nI p) S2 := by
            intro d
            induction d with
            | zero =>
              intro p S2 hp X2 on2
              refine hZ2 _ _ _ _ _ _ ?_
              unfold wp_X12_reaches_150B
              rw [show p = 6 by omega] at on2 ⊢
              refine ⟨fun _ => ?_, fun e => absurd (nI_le (Nat.le_refl 6) (by decide)) e⟩
              by_cases q : (paR W pl c 6 s).2.2 = true ∧ ¬ stK s 6 = stK (paR W pl c 6 s) 6
              · rw [if_pos q] at eW
                exact ih (paR W pl c 6 s) S2 (stK s 6) X2 on2 (paR_cz cz1 6) eW.symm fun _ => q.2
              · rw [if_neg q] at eW
                have et : t = paR W pl c 6 s := Option.some.inj eW
                obtain ⟨M2, ch2, L2⟩ := Q S2 X2
                have hh := h S2 X2
                rw [et] at hh
                refine hZ _ _ _ _ _ ?_
                unfold wp_X12_reaches_125B wp_X12_reaches_307 wp_X12_reaches_317
                refine bI_c (fun ok2 => ⟨M2.1.1, m_state M2 on2 ⟨fun _ => ⟨fun z => ?_, fun _ => ?_⟩, fun ne => absurd (Classical.byContradiction fun r => q ⟨ok2, r⟩) ne⟩⟩) (fun no2 => ⟨fun _ => ?_, fun z => ?_⟩)
                · rw [ok2] at z; exact absurd z (by decide)
                · rw [if_pos ok2] at hh; exact hh
                · rw [if_neg (by rw [no2]; decide)] at hh; exact hh
                · rw [no2] at z; exact absurd rfl z
            | succ d ih2 =>
              intro p S2 hp X2 on2
              have p6 : p < 6 := by omega
              have ih2 := fun S' => ih2 (p + 1) S' (by omega)
              have eP : paR W pl c (p + 1) s = if bt (paR W pl c p s).1 p then hnR W pl c p (vi c p) (vn W 8 (vi c p)) (paR W pl c p s) else paR W pl c p s := rfl
              obtain ⟨M2, ch2, L2⟩ := Q S2 X2
              have czp := paR_cz (V := W) (pl := pl) cz1 p
              generalize paR W pl c p s = u at on2 eP czp ⊢
              refine hZ2 _ _ _ _ _ _ ?_
              unfold wp_X12_reaches_150B
              rw [nI_clamp (show p < 2 ^ 31 by omega)]
              refine ⟨fun e => absurd e (nI_ge (show p < 6 by omega) (by decide)), fun _ => ⟨M2.1.1, _, MS_r M2.1 33, _, MS_t M2.1 33, vp_in_nI (show p < 6 by omega) (by decide), ?_⟩⟩
              rw [show st_i S2 (1001 + 33) p = cv (c p) from ch2 p p6, cv_m (okc_4 I o p6)]
              -- it isn't reached
              have skip : bt u.1 p = false → ∀ y3, y3 = nI p + (1 : Int32) → Z2 (nI pl) u.1 (bI u.2.2) (stK s 6) y3 S2 := fun b y ey => by
                rw [if_neg (by rw [b]; decide)] at eP
                rw [ey, nI_1, ← eP]
                rw [← eP] at on2
                exact ih2 S2 X2 on2
              refine ⟨fun c0 => ⟨_, MS_r M2.1 33, _, MS_t M2.1 33, vp_in_nI (show p < 6 by omega) (by decide), ?_⟩, fun c0 => ?_⟩
              · obtain ⟨v1, v2, v3, v4, v5⟩ := vi_4 I o p6 c0
                have k8 := (I.1.2.2.1 _ v2).1
                have k82 := k8.2
                rw [show st_i S2 (1001 + 33) p = cv (c p) from ch2 p p6, show cv (c p) = nI (c p - 1) from if_neg c0, pk_mul, nI_add, show 4 * p + (c p - 1) = vi c p from rfl]
                unfold wp_X12_reaches_184 wp_X12_reaches_192
                intro y46 e46 Z3 hZ3
                rw [pk_mul] at e46
                subst e46
                cases b : bt u.1 p with
                | false =>
                  have := hZ3 (nI pl) u.1 (bI u.2.2) (stK s 6) (nI p) (nI (vi c p)) (nI (4 * vi c p)) S2
                  refine this ?_
                  unfold wp_X12_reaches_192B wp_X12_reaches_298
                  rw [nI_clamp (show vi c p < 2 ^ 31 by omega)]
                  refine ⟨M2.1.1, _, MS_r M2.1 8, _, MS_t M2.1 8, vp_in_nI v2 (by decide), fun _ => skip b, fun _ => m_isIn (by omega) ?_⟩
                  rw [b]
                  exact ⟨fun _ => skip b, fun e => absurd rfl e⟩
                | true =>
                  rw [if_pos b] at eP
                  have H3 : ∀ d3 j S3, j + d3 = vn W 8 (vi c p) → MO S S3 → Mon S3 (hnR W pl c p (vi c p) j u).2.1 → Z3 (nI pl) (hnR W pl c p (vi c p) j u).1 (bI (hnR W pl c p (vi c p) j u).2.2) (stK s 6) (nI p) (nI (vi c p)) (nI (4 * vi c p + j)) S3 := by
                    intro d3
                    induction d3 with
                    | zero =>
                      intro j S3 hj X3 on3
                      obtain ⟨M3, ch3, L3⟩ := Q S3 X3
                      refine hZ3 _ _ _ _ _ _ _ _ ?_
                      unfold wp_X12_reaches_192B wp_X12_reaches_298
                      rw [nI_clamp (show vi c p < 2 ^ 31 by omega)]
                      refine ⟨M3.1.1, _, MS_r M3.1 8, _, MS_t M3.1 8, vp_in_nI v2 (by decide), ?_⟩
                      rw [show st_i S3 (1001 + 8) (vi c p) = nI (vn W 8 (vi c p)) from (M3.2.2 8 _ rfl).trans k8.1, pk_mul, nI_add]
                      rw [show j = vn W 8 (vi c p) by omega] at on3 ⊢
                      rw [← eP] at on3 ⊢
                      refine ⟨fun _ y ey => ?_, fun e => absurd (nI_le (Nat.le_refl _) (by omega)) e⟩
                      rw [ey, nI_1]
                      exact ih2 S3 X3 on3
                    | succ d3 ih3 =>
                      intro j S3 hj X3 on3
                      have ih3 := fun S' => ih3 (j + 1) S' (by omega)
                      obtain ⟨M3, ch3, L3⟩ := Q S3 X3
                      have eH : hnR W pl c p (vi c p) (j + 1) u = if aOn W pl (hnR W pl c p (vi c p) j u).2.1 p (4 * vi c p + j) then stR W c (4 * vi c p + j) (hnR W pl c p (vi c p) j u) else hnR W pl c p (vi c p) j u := rfl
                      have br : bt (hnR W pl c p (vi c p) j u).1 p = true := (hnR_le j).1 p b
                      generalize hnR W pl c p (vi c p) j u = w at on3 eH br ⊢
                      have nm := nm_q (V := W) v2 (show j < 4 by omega)
                      have q9 := (I.2.1.1 (4 * vi c p + j) (by omega)).1
                      refine hZ3 _ _ _ _ _ _ _ _ ?_
                      unfold wp_X12_reaches_192B
                      rw [nI_clamp (show vi c p < 2 ^ 31 by omega), nI_clamp (show 4 * vi c p + j < 2 ^ 31 by omega)]
                      refine ⟨M3.1.1, _, MS_r M3.1 8, _, MS_t M3.1 8, vp_in_nI v2 (by decide), ?_⟩
                      rw [show st_i S3 (1001 + 8) (vi c p) = nI (vn W 8 (vi c p)) from (M3.2.2 8 _ rfl).trans k8.1, pk_mul, nI_add]
                      refine ⟨fun e => absurd e (nI_ge (show 4 * vi c p + j < 4 * vi c p + vn W 8 (vi c p) by omega) (by omega)), fun _ => m_isIn (by omega) ?_⟩
                      rw [br]
                      refine ⟨fun e => absurd e (by decide), fun _ => ⟨M3.1.1, m_isActive M3 (by omega) p6 hl on3 (bI_c (fun ac => ⟨M3.1.1, _, MS_r M3.1 9, _, MS_t M3.1 9, vp_in_nI (show 4 * vi c p + j < 96 by omega) (by decide), _, MS_r M3.1 10, _, MS_t M3.1 10, vp_in_nI (show 4 * vi c p + j < 96 by omega) (by decide), ?_⟩) (fun ac => ?_))⟩⟩
                      · rw [if_pos ac] at eH
                        rw [show st_i S3 (1001 + 9) (4 * vi c p + j) = nI (nP W (4 * vi c p + j)) from (M3.2.2 9 _ rfl).trans (by rw [nm.1]; exact q9.1), show st_i S3 (1001 + 10) (4 * vi c p + j) = nF W (4 * vi c p + j) from (M3.2.2 10 _ rfl).trans nm.2.symm]
                        refine m_meeters M3 I o (by omega) ((L3.1 _ v2).1 j (by omega)) ch3 ⟨M3.1.1, _, MS_r M3.1 9, _, MS_t M3.1 9, vp_in_nI (show 4 * vi c p + j < 96 by omega) (by decide), _, MS_r M3.1 10, _, MS_t M3.1 10, vp_in_nI (show 4 * vi c p + j < 96 by omega) (by decide), ?_⟩
                        rw [show st_i S3 (1001 + 9) (4 * vi c p + j) = nI (nP W (4 * vi c p + j)) from (M3.2.2 9 _ rfl).trans (by rw [nm.1]; exact q9.1), show st_i S3 (1001 + 10) (4 * vi c p + j) = nF W (4 * vi c p + j) from (M3.2.2 10 _ rfl).trans nm.2.symm]
                        refine m_asks M3 I o (by omega) ch3 on3 fun S4 a1 a2 a3 on4 y44 e44 => ?_
                        subst e44
                        have X4 := MO_t X3 ⟨a1, a2, a3⟩
                        have T : ∀ b' : Bool, b' = (w.2.2 && decide (meI W c (4 * vi c p + j) ≠ 0)) → ∀ y5, y5 = nI (4 * vi c p + j) + (1 : Int32) → Z3 (nI pl) (w.1 ||| meI W c (4 * vi c p + j)) (bI b') (stK s 6) (nI p) (nI (vi c p)) y5 S4 := fun b' eb y ey => by
                          have i3 := ih3 S4 X4 (by rw [eH]; exact on4)
                          rw [eH] at i3
                          rw [ey, nI_1, eb]
                          exact i3
                        unfold wp_X12_reaches_289 wp_X12_reaches_290 wp_X12_reaches_292
                        refine bI_c (fun b1 => ⟨fun z => T false (by rw [decide_eq_false (fun hh => hh z), Bool.and_false]), fun z => T true (by rw [b1, decide_eq_true z]; rfl)⟩) (fun b0 => T false (by rw [b0]; rfl))
                      · rw [if_neg (by rw [ac]; decide)] at eH
                        unfold wp_X12_reaches_292
                        intro y5 e5
                        have i3 := ih3 S3 X3 (by rw [eH]; exact on3)
                        rw [eH] at i3
                        rw [e5, nI_1]
                        exact i3
                  exact H3 (vn W 8 (vi c p)) 0 S2 (by omega) X2 on2
              · -- none of the package
                have b : bt u.1 p = false := by
                  cases b : bt u.1 p
                  · rfl
                  · exact absurd c0 (czp p p6 b)
                unfold wp_X12_reaches_184 wp_X12_reaches_192
                intro y46 e46 Z3 hZ3
                have := hZ3 (nI pl) u.1 (bI u.2.2) (stK s 6) (nI p) (0 : Int32) y46 S2
                refine this ?_
                have e46 : y46 = nI (4 * 0) := by rw [e46, ← pk_mul]; rfl
                subst e46
                unfold wp_X12_reaches_192B wp_X12_reaches_298
                refine ⟨M2.1.1, _, MS_r M2.1 8, _, MS_t M2.1 8, vp_in_nI (n := 0) (by decide) (by decide), fun _ => skip b, fun _ => m_isIn (by omega) ?_⟩
                rw [b]
                exact ⟨fun _ => skip b, fun e => absurd rfl e⟩
          exact H2 6 0 S1 rfl X1 on1
        · rw [if_neg (by rw [no]; decide)] at eW
          have et : t = s := Option.some.inj eW
          have hh := h S1 X1
          rw [et, if_neg (by rw [no]; decide)] at hh
          exact hh
        · rw [no] at hh; exact absurd rfl hh
    exact H 31 s S1 (-1) X1 on1 cz1 e1 fun _ hh => ne1 hh.symm
  -- the wishes
  unfold wp_X12_reaches wp_X12_reaches_8
  intro Z hZ
  have H : ∀ d p S1, p + d = 6 → MO S S1 → (∀ j, j < p → st_i S1 1035 j = 0) → Z (nI pl) ask (0 : Int32) (1 : Int32) (nI p) S1 := by
    intro d
    induction d with
    | zero =>
      intro p S1 hp X1 z1
      refine hZ _ _ _ _ _ _ ?_
      unfold wp_X12_reaches_8B
      rw [show p = 6 by omega] at z1 ⊢
      refine ⟨fun _ => ?_, fun e => absurd (nI_le (Nat.le_refl 6) (by decide)) e⟩
      unfold wp_X12_reaches_32
      intro Z2 hZ2
      have H2 : ∀ d k S2, k + d = vn W 18 0 → MO S S2 → Mon S2 (wiR W ask c k (0, fun _ => 0, true)).2.1 → Z2 (nI pl) ask (wiR W ask c k (0, fun _ => 0, true)).1 (bI (wiR W ask c k (0, fun _ => 0, true)).2.2) (nI k) S2 := by
        intro d
        induction d with
        | zero =>
          intro k S2 hk X2 on2
          obtain ⟨M2, ch2, L2⟩ := Q S2 X2
          refine hZ2 _ _ _ _ _ _ ?_
          unfold wp_X12_reaches_32B
          rw [show st_i S2 1000 18 = nI (vn W 18 0) from (M2.2.1 18 rfl).trans w18.1]
          rw [show k = vn W 18 0 by omega] at on2 ⊢
          refine ⟨M2.1.1, fun _ => P S2 _ X2 on2 (wiR_cz (fun p _ e => by rw [bt_0] at e; cases e) _) e ?_, fun e => absurd (nI_le (Nat.le_refl _) (by omega)) e⟩
          have U := (wiR_us (pl := pl) (ask := ask) (c := c) I ur_0 (vn W 18 0) (Nat.le_refl _)).1
          intro eq
          have b31 : bt (stK (wiR W ask c (vn W 18 0) (0, fun _ => 0, true)) 6) 31 = true := by rw [eq]; decide
          rcases (bt_st U.2.2.2.1 6 (Nat.le_refl _) 31).mp b31 with q | ⟨k, hk, b, hb, eb, _⟩
          · rw [U.2.2.1 31 (by decide)] at q; cases q
          · omega
        | succ d ih2 =>
          intro k S2 hk X2 on2
          have ih2 := fun S' => ih2 (k + 1) S' (by omega)
          obtain ⟨M2, ch2, L2⟩ := Q S2 X2
          have eW : wiR W ask c (k + 1) (0, fun _ => 0, true) = if bt ask k then stR W c (144 + k) (wiR W ask c k (0, fun _ => 0, true)) else wiR W ask c k (0, fun _ => 0, true) := rfl
          generalize wiR W ask c k (0, fun _ => 0, true) = w at on2 eW ⊢
          have nm := nm_w (V := W) (j := k)
          have q19 := (I.2.2.1.2.1 k (by omega)).1
          refine hZ2 _ _ _ _ _ _ ?_
          unfold wp_X12_reaches_32B
          rw [show st_i S2 1000 18 = nI (vn W 18 0) from (M2.2.1 18 rfl).trans w18.1, nI_clamp (show k < 2 ^ 31 by omega)]
          refine ⟨M2.1.1, fun e => absurd e (nI_ge (show k < vn W 18 0 by omega) (by omega)), fun _ => m_isIn (by omega) (bI_c (fun b => ⟨M2.1.1, _, MS_r M2.1 19, _, MS_t M2.1 19, vp_in_nI (show k < 4 by omega) (by decide), _, MS_r M2.1 20, _, MS_t M2.1 20, vp_in_nI (show k < 4 by omega) (by decide), ?_⟩) (fun b => ?_))⟩
          · rw [if_pos b] at eW
            rw [show st_i S2 (1001 + 19) k = nI (nP W (144 + k)) from (M2.2.2 19 _ rfl).trans (by rw [nm.1]; exact q19.1), show st_i S2 (1001 + 20) k = nF W (144 + k) from (M2.2.2 20 _ rfl).trans nm.2.symm, nI_add]
            refine m_meeters M2 I o (by omega) (L2.2.1 k (by omega)) ch2 ⟨M2.1.1, _, MS_r M2.1 19, _, MS_t M2.1 19, vp_in_nI (show k < 4 by omega) (by decide), _, MS_r M2.1 20, _, MS_t M2.1 20, vp_in_nI (show k < 4 by omega) (by decide), ?_⟩
            rw [show st_i S2 (1001 + 19) k = nI (nP W (144 + k)) from (M2.2.2 19 _ rfl).trans (by rw [nm.1]; exact q19.1), show st_i S2 (1001 + 20) k = nF W (144 + k) from (M2.2.2 20 _ rfl).trans nm.2.symm]
            refine m_asks M2 I o (by omega) ch2 on2 fun S4 a1 a2 a3 on4 y94 e94 => ?_
            subst e94
            have X4 := MO_t X2 ⟨a1, a2, a3⟩
            have T : ∀ b' : Bool, b' = (w.2.2 && decide (meI W c (144 + k) ≠ 0)) → ∀ y1, y1 = nI k + (1 : Int32) → Z2 (nI pl) ask (w.1 ||| meI W c (144 + k)) (bI b') y1 S4 := fun b' eb y ey => by
              have i2 := ih2 S4 X4 (by rw [eW]; exact on4)
              rw [eW] at i2
              rw [ey, nI_1, eb]
              exact i2
            unfold wp_X12_reaches_113 wp_X12_reaches_114 wp_X12_reaches_116
            refine bI_c (fun b1 => ⟨fun z => T false (by rw [decide_eq_false (fun hh => hh z), Bool.and_false]), fun z => T true (by rw [b1, decide_eq_true z]; rfl)⟩) (fun b0 => T false (by rw [b0]; rfl))
          · rw [if_neg (by rw [b]; decide)] at eW
            unfold wp_X12_reaches_116
            intro y1 e1
            have i2 := ih2 S2 X2 (by rw [eW]; exact on2)
            rw [eW] at i2
            rw [e1, nI_1]
            exact i2
      exact H2 (vn W 18 0) 0 S1 (by omega) X1 (fun j hj => z1 j hj)
    | succ d ih =>
      intro p S1 hp X1 z1
      obtain ⟨M1, ch1, L1⟩ := Q S1 X1
      refine hZ _ _ _ _ _ _ ?_
      unfold wp_X12_reaches_8B
      rw [nI_clamp (show p < 2 ^ 31 by omega)]
      refine ⟨fun e => absurd e (nI_ge (show p < 6 by omega) (by decide)), fun _ => ⟨M1.1.1, _, MS_r M1.1 34, _, MS_t M1.1 34, vp_in_nI (show p < 6 by omega) (by decide), fun S102 e102 y ey => ?_⟩⟩
      have e102 : S102 = st_pi S1 1035 p 0 := e102
      rw [ey, nI_1]
      refine ih (p + 1) S102 (by omega) (MO_t X1 (by rw [e102]; exact ⟨MF_i (MF_r S1) (by decide), fun n k hn => st_i_pi_n _ _ _ _ _ _ (by omega), fun _ _ => rfl⟩)) fun j hj => ?_
      by_cases e : j = p
      · rw [e, e102, st_i_pi_s]
      · rw [e102, st_i_pi_n _ _ _ _ _ _ (by omega)]; exact z1 j (by omega)
  exact H 6 0 S rfl (MO_r S) (fun j hj => absurd hj (Nat.not_lt_zero _))
