-- the search is the fold over all choices: what is left out changes nothing
abbrev SS : Type := Nat × Nat × Nat × CH
def chg (V : VV) (pl : Nat) (ul : Nat → Bool) (p x : Nat) : Bool := decide (cnI V pl ul p ≠ -1) && decide (cnI V pl ul p ≠ cv x)
def chN (V : VV) (pl : Nat) (ul : Nat → Bool) (c : CH) : Nat → Nat
  | 0 => 0
  | p + 1 => chN V pl ul c p + (if chg V pl ul p (c p) then 1 else 0)
def szN (c : CH) : Nat → Nat
  | 0 => 0
  | p + 1 => szN c p + (if c p = 0 then 0 else 1)
def sett (goal : Nat) (st : SS) (ch sz : Nat) : Bool := decide (st.1 ≠ 0) && (decide (goal ≠ 1) && (decide (goal = 0) || (decide (st.2.1 < ch) || (decide (ch = st.2.1) && decide (st.2.2.1 ≤ sz)))))
noncomputable def cloB (V : VV) (pl : Nat) (ul : Nat → Bool) (ask : Int32) (c : CH) : Bool := @decide (Clo V pl ul ask c) (Classical.propDecidable _)
theorem cloB_t {V : VV} {pl : Nat} {ul : Nat → Bool} {ask : Int32} {c : CH} : cloB V pl ul ask c = true ↔ Clo V pl ul ask c := by unfold cloB; exact @decide_eq_true_iff _ (Classical.propDecidable _)
noncomputable def leaf (V : VV) (pl : Nat) (ul : Nat → Bool) (ask : Int32) (goal : Nat) (c : CH) (st : SS) : SS := if sett goal st (chN V pl ul c 6) (szN c 6) then st else if cloB V pl ul ask c then (st.1 + 1, chN V pl ul c 6, szN c 6, c) else st
theorem sett_m {goal ch sz ch' sz' : Nat} {st : SS} (h : sett goal st ch sz = true) (h1 : ch ≤ ch') (h2 : sz ≤ sz') : sett goal st ch' sz' = true := by
  unfold sett at h ⊢
  simp only [Bool.and_eq_true, Bool.or_eq_true, decide_eq_true_eq] at h ⊢
  refine ⟨h.1, h.2.1, ?_⟩
  rcases h.2.2 with q | q | q
  · exact .inl q
  · exact .inr (.inl (by omega))
  · by_cases e : ch' = ch
    · exact .inr (.inr ⟨by omega, by omega⟩)
    · exact .inr (.inl (by omega))
theorem chN_c {V : VV} {pl : Nat} {ul : Nat → Bool} {c c' : CH} : ∀ p, (∀ j, j < p → c' j = c j) → chN V pl ul c' p = chN V pl ul c p ∧ szN c' p = szN c p := by
  intro p
  induction p with
  | zero => intro _; exact ⟨rfl, rfl⟩
  | succ p ih =>
    intro h
    obtain ⟨a, b⟩ := ih fun j hj => h j (by omega)
    unfold chN szN
    rw [a, b, h p (by omega)]
    exact ⟨rfl, rfl⟩
theorem chN_m {V : VV} {pl : Nat} {ul : Nat → Bool} {c : CH} {p : Nat} : ∀ d, chN V pl ul c p ≤ chN V pl ul c (p + d) ∧ szN c p ≤ szN c (p + d) := by
  intro d
  induction d with
  | zero => exact ⟨Nat.le_refl _, Nat.le_refl _⟩
  | succ d ih =>
    show chN V pl ul c p ≤ chN V pl ul c (p + d) + _ ∧ szN c p ≤ szN c (p + d) + _
    omega
theorem chN_b {V : VV} {pl : Nat} {ul : Nat → Bool} {c : CH} : ∀ p, chN V pl ul c p ≤ p ∧ szN c p ≤ p := by
  intro p
  induction p with
  | zero => exact ⟨Nat.le_refl _, Nat.le_refl _⟩
  | succ p ih =>
    unfold chN szN
    refine ⟨?_, ?_⟩
    · split <;> omega
    · split <;> omega
theorem leaf_b {V : VV} {pl : Nat} {ul : Nat → Bool} {ask : Int32} {goal : Nat} {c : CH} {st : SS} : (leaf V pl ul ask goal c st).1 ≤ st.1 + 1 := by
  unfold leaf
  split
  · omega
  · split
    · exact Nat.le_refl _
    · omega
theorem fl_b {f : Nat → SS → SS} {B : Nat} {st : SS} : ∀ n, (∀ j, j < n → ∀ s, (f j s).1 ≤ s.1 + B) → (fl f n st).1 ≤ st.1 + n * B := by
  intro n
  induction n with
  | zero => intro _; rw [Nat.zero_mul]; exact Nat.le_refl _
  | succ n ih =>
    intro h
    have a := ih fun j hj => h j (by omega)
    have b := h n (by omega) (fl f n st)
    rw [Nat.succ_mul]
    show (f n (fl f n st)).1 ≤ _
    omega
theorem gF_b {V : VV} {pl : Nat} {ul : Nat → Bool} {ask : Int32} {goal : Nat} (I : Iv V) : ∀ n p c st, p + n = 6 → (gF V (leaf V pl ul ask goal) n p c st).1 ≤ st.1 + 5 ^ n := by
  intro n
  induction n with
  | zero => intro p c st _; exact leaf_b
  | succ n ih =>
    intro p c st hp
    have h4 := (I.1.1 p (by omega)).2.2
    have := fl_b (f := fun d s => gF V (leaf V pl ul ask goal) n (p + 1) (ud c p (dgt V p d)) s) (B := 5 ^ n) (st := st) (vn V 2 p + 1) (fun j _ s => ih (p + 1) _ s (by omega))
    unfold gF
    refine Nat.le_trans this ?_
    have : (vn V 2 p + 1) * 5 ^ n ≤ 5 * 5 ^ n := Nat.mul_le_mul_right _ (by omega)
    rw [Nat.pow_succ, Nat.mul_comm (5 ^ n) 5]
    omega
theorem wr_pm {V : VV} {pl : Nat} {ul : Nat → Bool} {ask : Int32} : ble (wrF V pl ask (pmI V pl ul)) (pmI V pl ul) := (wt_fix 64 _ (w0_le _).1).1
theorem bt_sr2 {x : Int32} {k i : Nat} (hk : k < 32) (hi : i < 32) (h : 32 ≤ i + k) : bt (x >>> (nI k &&& 31)) i = bt x 31 := by
  unfold bt
  rw [(sm_k k hk).1, Int32.toBitVec_shiftRight, show ((nI k).toBitVec.smod (32 : BitVec 32)) = BitVec.ofNat 32 k from (sm_k k hk).2, BitVec.sshiftRight_eq', BitVec.getLsbD_sshiftRight, BitVec.toNat_ofNat, Nat.mod_eq_of_lt (show k < 2 ^ 32 by omega), if_neg (by omega), decide_eq_false (show ¬ 32 ≤ i by omega), BitVec.msb_eq_getLsbD_last]
  rfl
-- the choice as bits
theorem chB_u {V : VV} {c : CH} {p v : Nat} (I : Iv V) (o : okc V c) (hp : p < 6) (h0 : c p = 0) (hv : v < vn V 2 p) : okc V (ud c p (v + 1)) ∧ chB c ||| ((1 : Int32) <<< (nI (4 * p + v) &&& 31)) = chB (ud c p (v + 1)) ∧ chB (ud c p (v + 1)) &&& (((1 : Int32) <<< (nI (4 * p + v) &&& 31)) ^^^ (-1 : Int32)) = chB c := by
  have h4 := (I.1.1 p hp).2.2
  have o' : okc V (ud c p (v + 1)) := fun j hj => by
    by_cases e : j = p
    · rw [e, ud_s]; omega
    · rw [ud_n _ _ _ e]; exact o j hj
  have vp : vi (ud c p (v + 1)) p = 4 * p + v := by unfold vi; rw [ud_s]; omega
  have vq : ∀ q, q ≠ p → vi (ud c p (v + 1)) q = vi c q := fun q hq => by unfold vi; rw [ud_n _ _ _ hq]
  have bu : ∀ i, bt (chB (ud c p (v + 1))) i = true ↔ bt (chB c) i = true ∨ i = 4 * p + v := fun i => by
    rw [bt_ch I o', bt_ch I o]
    constructor
    · intro ⟨q, hq, hq0, e⟩
      by_cases eq : q = p
      · rw [eq, vp] at e; exact .inr e
      · rw [ud_n _ _ _ eq] at hq0
        rw [vq q eq] at e
        exact .inl ⟨q, hq, hq0, e⟩
    · intro h
      rcases h with ⟨q, hq, hq0, e⟩ | e
      · have eq : q ≠ p := fun hh => hq0 (by rw [hh]; exact h0)
        exact ⟨q, hq, by rw [ud_n _ _ _ eq]; exact hq0, by rw [vq q eq]; exact e⟩
      · exact ⟨p, hp, by rw [ud_s]; omega, by rw [vp]; exact e⟩
  have nb : bt (chB c) (4 * p + v) = false := by
    cases e : bt (chB c) (4 * p + v)
    · rfl
    · obtain ⟨q, hq, hq0, e⟩ := (bt_ch I o).mp e
      obtain ⟨v1, v2, v3, v4, v5⟩ := vi_4 I o hq hq0
      have : q = p := by omega
      exact absurd (by rw [this]; exact h0) hq0
  refine ⟨o', bt_eq (fun i h => ?_) (fun i h => ?_), bt_eq (fun i h => ?_) (fun i h => ?_)⟩
  · rw [bt_or, Bool.or_eq_true, bt_one (by omega), decide_eq_true_eq] at h
    exact (bu i).mpr h
  · rw [bt_or, Bool.or_eq_true, bt_one (by omega), decide_eq_true_eq]
    exact (bu i).mp h
  · rw [bt_and, Bool.and_eq_true] at h
    rcases (bu i).mp h.1 with q | q
    · exact q
    · rw [bt_not _ (by omega), bt_one (by omega), decide_eq_true q] at h
      cases h.2
  · have i32 : i < 32 := by
      rcases Nat.lt_or_ge i 32 with q | q
      · exact q
      · rw [bt_ge q] at h; cases h
    rw [bt_and, Bool.and_eq_true, bt_not _ i32, bt_one (by omega)]
    refine ⟨(bu i).mpr (.inl h), ?_⟩
    rw [decide_eq_false (fun e => by rw [e, nb] at h; cases h)]; rfl
def fSx (n k : Nat) : Bool := (n == 16 && decide (11 ≤ k)) || decide (20 ≤ n ∧ n ≤ 21)
theorem fSx_f {n k : Nat} (h : ¬ (n = 16 ∧ 11 ≤ k) ∧ ¬ (20 ≤ n ∧ n ≤ 21)) : fSx n k = false := by
  unfold fSx
  rw [decide_eq_false h.2, Bool.or_false]
  by_cases e : n = 16
  · rw [decide_eq_false (fun hh => h.1 ⟨e, hh⟩), Bool.and_false]
  · rw [beq_eq_false_iff_ne.mpr e]; rfl
theorem fSx_16 {k : Nat} (h : 11 ≤ k) : fSx 16 k = true := by unfold fSx; rw [decide_eq_true h]; rfl
theorem fSx_x {n k : Nat} (h : 20 ≤ n ∧ n ≤ 21) : fSx n k = true := by unfold fSx; rw [decide_eq_true h, Bool.or_true]
theorem fSx_k {S S' : xm_S} (F : xf_F fSx S S') : xf_F fSk S S' := ⟨F.1, F.2.1, F.2.2.1, fun n k e => F.2.2.2 n k (fSx_f ⟨fun hh => (by rw [hh.1, fSk_16 (by omega)] at e; cases e), fun hh => (by rw [fSk_x (by omega)] at e; cases e)⟩)⟩
theorem fRe_x {S S' : xm_S} (F : xf_F fRe S S') : xf_F fSx S S' := ⟨F.1, F.2.1, F.2.2.1, fun n k e => F.2.2.2 n k (fRe_f (fun hh => by rw [hh.1, fSx_16 (by omega)] at e; cases e))⟩
def SRe (S : xm_S) (st : SS) : Prop := st_i S 16 14 = nI st.1 ∧ (st.1 ≠ 0 → st_i S 16 16 = nI st.2.1 ∧ st_i S 16 17 = nI st.2.2.1 ∧ ∀ p, p < 6 → st_i S 21 p = cv (st.2.2.2 p)) ∧ st.2.1 ≤ 6 ∧ st.2.2.1 ≤ 6
theorem SRe_k {S S' : xm_S} {st : SS} (h : SRe S st) (e : ∀ n k, (n = 16 ∧ (k = 14 ∨ k = 16 ∨ k = 17) ∨ n = 21) → st_i S' n k = st_i S n k) : SRe S' st := ⟨(e _ _ (by omega)).trans h.1, fun h0 => ⟨(e _ _ (by omega)).trans (h.2.1 h0).1, (e _ _ (by omega)).trans (h.2.1 h0).2.1, fun p hp => (e _ _ (by omega)).trans ((h.2.1 h0).2.2 p hp)⟩, h.2.2⟩
/-- what stays while it is searched -/
def SB (S0 : xm_S) (V : VV) (N pl : Nat) (ul : Nat → Bool) (ask : Int32) (goal : Nat) : Prop := CR S0 V N ∧ STD S0 V pl ul ∧ st_i S0 16 7 = ask ∧ st_i S0 16 8 = nI goal ∧ ∀ j, j ≤ 6 → ∀ i, bt (st_i S0 19 j) i = (bt (wrF V pl ask (pmI V pl ul)) i && decide (j ≤ i / 4))
theorem SB_k {S0 S : xm_S} {V : VV} {N pl : Nat} {ul : Nat → Bool} {ask : Int32} {goal : Nat} (I : Iv V) (B : SB S0 V N pl ul ask goal) (F : xf_F fSx S0 S) : SB S V N pl ul ask goal := ⟨SF_CR (SF_k (fSx_k F)) B.1 I, STD_k B.1 (fSx_k F) B.2.1, (F.2.2.2 _ _ rfl).trans B.2.2.1, (F.2.2.2 _ _ rfl).trans B.2.2.2.1, fun j hj i => by rw [F.2.2.2 _ _ (fSx_f (by omega))]; exact B.2.2.2.2 j hj i⟩
/-- at a place of the search -/
def SN (S0 S : xm_S) (c : CH) (st : SS) : Prop := xf_F fSx S0 S ∧ Chs S c ∧ st_i S 16 11 = chB c ∧ SRe S st
theorem SN_k {S0 S S' : xm_S} {c : CH} {st : SS} (h : SN S0 S c st) (F : xf_F fRe S S') : SN S0 S' c st := ⟨xf_tr h.1 (fRe_x F), fun p hp => (F.2.2.2 _ _ rfl).trans (h.2.1 p hp), (F.2.2.2 _ _ rfl).trans h.2.2.1, SRe_k h.2.2.2 fun n k hn => F.2.2.2 _ _ (fRe_f (by omega))⟩
/-- the choice so far stands -/
def PC (V : VV) (pl : Nat) (ul : Nat → Bool) (ask : Int32) (c : CH) : Prop := (∀ p, p < 6 → c p ≠ 0 → bt (wrF V pl ask (pmI V pl ul)) (vi c p) = true) ∧ ∀ p p', p < 6 → p' < 6 → p ≠ p' → c p ≠ 0 → c p' ≠ 0 → cf V (vi c p) (vi c p') = false
theorem c_settled {S : xm_S} {goal ch sz : Nat} {st : SS} {g : Int32 → xm_S → Prop} (s16 : st_t S 16 = some (7, 0)) (h8 : st_i S 16 8 = nI goal) (hg : goal ≤ 2) (R : SRe S st) (hf : st.1 < 2 ^ 30) (hch : ch < 2 ^ 30) (hsz : sz < 2 ^ 30) (h : g (bI (sett goal st ch sz)) S) : wp_X7_isSettled 16 (nI ch) (nI sz) S g := by
  unfold wp_X7_isSettled wp_X7_isSettled_15 wp_X7_isSettled_48 wp_X7_isSettled_52 wp_X7_isSettled_53
  rw [R.1, h8, nI_z (by omega), nI_o (by omega), nI_z (show goal < 2 ^ 31 by omega)]
  obtain ⟨hb, hs⟩ := R.2.2
  unfold sett at h
  refine ⟨s16, fun e => ?_, fun e => ⟨fun e1 => ⟨fun e0 => ⟨.inr rfl, ?_⟩, fun e0 => ?_⟩, fun e1 => ?_⟩⟩
  · rw [decide_eq_false (fun hh => hh e), Bool.false_and] at h; exact h
  · rw [decide_eq_true e, decide_eq_true e1, decide_eq_true e0] at h; exact h
  · obtain ⟨r1, r2, r3⟩ := R.2.1 e
    rw [r1, r2, nI_ltI (by omega) (by omega), nI_ltI (by omega) (by omega), nI_eq (by omega) (by omega)]
    rw [decide_eq_true e, decide_eq_true e1, decide_eq_false e0, Bool.true_and, Bool.true_and, Bool.false_or] at h
    refine ⟨fun q => ⟨.inr rfl, ?_⟩, fun q => ⟨fun q1 => ⟨.inl rfl, ?_⟩, fun q1 => ⟨fun q2 => ⟨.inl rfl, ?_⟩, fun q2 => ⟨.inr rfl, ?_⟩⟩⟩⟩
    · rw [decide_eq_true q] at h; exact h
    · rw [decide_eq_false q, decide_eq_false q1] at h; exact h
    · rw [decide_eq_false q, decide_eq_true q1, decide_eq_false (by omega)] at h; exact h
    · rw [decide_eq_false q, decide_eq_true q1, decide_eq_true (by omega)] at h; exact h
  · rw [decide_eq_false (p := goal ≠ 1) (fun hh => hh e1), Bool.false_and, Bool.and_false] at h; exact h
theorem c_record {S0 S : xm_S} {V : VV} {N pl : Nat} {ul : Nat → Bool} {ask : Int32} {goal ch sz : Nat} {c : CH} {st : SS} {g : xm_S → Prop} (I : Iv V) (B : SB S0 V N pl ul ask goal) (X : SN S0 S c st) (hch : ch ≤ 6) (hsz : sz ≤ 6) (h : ∀ S', SN S0 S' c (st.1 + 1, ch, sz, c) → g S') : wp_X7_record 16 (nI ch) (nI sz) S g := by
  have B1 := SB_k I B X.1
  have s16 := (gS_16 B1.1.2.2.1).2
  have o5 := B1.1.2.2.2.2.1
  unfold wp_X7_record
  refine ⟨s16, fun S17 e17 S19 e19 S21 e21 => ?_⟩
  rw [X.2.2.2.1, nI_1] at e17
  have F21 : xf_F fSx S S21 := by rw [e21, e19, e17]; exact xf_pi (xf_pi (xf_pi (xf_rfl _ _) rfl) rfl) rfl
  unfold wp_X7_record_22
  intro Z hZ
  have H : ∀ d p S1, p + d = 6 → xf_F fSx S S1 → (∀ n k, n ≠ 21 → st_i S1 n k = st_i S21 n k) → (∀ j, j < p → st_i S1 21 j = cv (c j)) → Z (nI p) S1 := by
    intro d
    induction d with
    | zero =>
      intro p S1 hp F1 f1 k1
      refine hZ _ _ ?_
      unfold wp_X7_record_22B
      rw [show p = 6 by omega] at k1 ⊢
      refine ⟨fun _ => h S1 ⟨xf_tr X.1 F1, fun j hj => ?_, ?_, ?_, fun _ => ⟨?_, ?_, k1⟩, hch, hsz⟩, fun e => absurd (nI_le (Nat.le_refl 6) (by decide)) e⟩
      · rw [f1 _ _ (by decide), e21, st_i_pi_n _ _ _ _ _ _ (by omega), e19, st_i_pi_n _ _ _ _ _ _ (by omega), e17, st_i_pi_n _ _ _ _ _ _ (by omega)]; exact X.2.1 j hj
      · rw [f1 _ _ (by decide), e21, st_i_pi_n _ _ _ _ _ _ (by omega), e19, st_i_pi_n _ _ _ _ _ _ (by omega), e17, st_i_pi_n _ _ _ _ _ _ (by omega)]; exact X.2.2.1
      · rw [f1 _ _ (by decide), e21, st_i_pi_n _ _ _ _ _ _ (by omega), e19, st_i_pi_n _ _ _ _ _ _ (by omega), e17, st_i_pi_s]
      · rw [f1 _ _ (by decide), e21, st_i_pi_n _ _ _ _ _ _ (by omega), e19, st_i_pi_s]
      · rw [f1 _ _ (by decide), e21, st_i_pi_s]
    | succ d ih =>
      intro p S1 hp F1 f1 k1
      refine hZ _ _ ?_
      unfold wp_X7_record_22B
      rw [nI_clamp (show p < 2 ^ 31 by omega)]
      refine ⟨fun e => absurd e (nI_ge (show p < 6 by omega) (by decide)), fun _ => ⟨(F1.1 _).trans s16, 20, (F1.2.1 _ _).trans o5.2.2.2.2.2.2.1, _, (F1.1 _).trans o5.2.2.2.2.2.2.2.1, vp_in_nI (show p < 6 by omega) (by decide), 21, (F1.2.1 _ _).trans o5.2.2.2.2.2.2.2.2.1, _, (F1.1 _).trans o5.2.2.2.2.2.2.2.2.2, vp_in_nI (show p < 6 by omega) (by decide), fun S12 e12 y ey => ?_⟩⟩
      have e20 : st_i S1 20 p = cv (c p) := by
        rw [f1 _ _ (by decide), e21, st_i_pi_n _ _ _ _ _ _ (by omega), e19, st_i_pi_n _ _ _ _ _ _ (by omega), e17, st_i_pi_n _ _ _ _ _ _ (by omega)]; exact X.2.1 p (by omega)
      rw [e20] at e12
      rw [ey, nI_1]
      refine ih (p + 1) S12 (by omega) (by rw [e12]; exact xf_pi F1 rfl) (fun n k hn => by rw [e12, st_i_pi_n _ _ _ _ _ _ (by omega)]; exact f1 n k hn) fun j hj => ?_
      by_cases e : j = p
      · rw [e, e12, st_i_pi_s]
      · rw [e12, st_i_pi_n _ _ _ _ _ _ (by omega)]; exact k1 j (by omega)
  exact H 6 0 S21 rfl F21 (fun _ _ _ => rfl) (fun j hj => absurd hj (Nat.not_lt_zero _))
