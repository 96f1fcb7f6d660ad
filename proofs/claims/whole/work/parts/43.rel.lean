-- the relation as a whole
def ERs (n k : Nat) : Bool := n == 16 && (k == 0 || k == 1)
def EIs (n k : Nat) : Bool := (n == 2 && (k == 2 || k == 3)) || decide (16 ≤ n ∧ n ≤ 21) || n == 33
theorem ERs_f {n k : Nat} (h : n ≠ 16 ∨ 2 ≤ k) : ERs n k = false := by
  unfold ERs
  rcases h with h | h
  · rw [beq_eq_false_iff_ne.mpr h]; rfl
  · rw [beq_eq_false_iff_ne.mpr (show k ≠ 0 by omega), beq_eq_false_iff_ne.mpr (show k ≠ 1 by omega)]; simp
theorem EIs_f {n k : Nat} (h : (n ≠ 2 ∨ (k ≠ 2 ∧ k ≠ 3)) ∧ ¬ (16 ≤ n ∧ n ≤ 21) ∧ n ≠ 33) : EIs n k = false := by
  unfold EIs
  obtain ⟨h1, h2, h3⟩ := h
  rw [decide_eq_false h2, beq_eq_false_iff_ne.mpr h3]
  rcases h1 with h | h
  · rw [beq_eq_false_iff_ne.mpr h]; rfl
  · rw [beq_eq_false_iff_ne.mpr h.1, beq_eq_false_iff_ne.mpr h.2]; simp
theorem eT_r (V : VV) (q : Nat) : eT V V q := ⟨rfl, fun _ => rfl⟩
/-- text of a range out of the fields 24 and 25 alone -/
theorem eT_v {V V' : VV} (h : ∀ f k, (f = 24 ∨ f = 25) → V' f k = V f k) (q : Nat) : eT V V' q := by
  have e : tL V' q = tL V q := vn_e (h 25 q (by omega))
  refine ⟨e, fun s => ?_⟩
  unfold tT
  rw [e, vn_e (h 24 _ (by omega))]
theorem gV_X {ER EI : Nat → Nat → Bool} {S S' : xm_S} {V : VV} {N N' : Nat} (I : Iv V) (h : gV S V N) (K : KX ER EI N S S') (hN : 2000 ≤ N) (e : N ≤ N') (hR : ∀ n k, (200 ≤ n ∧ n < 700 ∨ 2000 ≤ n) → ER n k = false) (hI : ∀ n k, (200 ≤ n ∧ n < 700 ∨ 2000 ≤ n) → EI n k = false) : gV S' V N' := by
  intro a ha
  obtain ⟨h1, h2⟩ := h a ha
  refine ⟨fun u => ?_, fun u j hj => KX_no K (by omega) (hR _ _ (by omega)) (h2 u j hj)⟩
  obtain ⟨g1, g2, g3, g4⟩ := h1 u
  have b := I.1.2.2.1 a ha
  exact ⟨gV1_X g1 K (by omega) (fun k => hR _ k (by omega)), gV2_X g2 g1 K (by omega) (fun k => hI _ k (by omega)) (fun _ _ => rfl), gV3_X g3 g1 K (by omega) (fun n k _ _ => hI n k (by omega)) (fun _ _ => rfl) (fun _ _ => rfl) (fun _ _ => ⟨rfl, rfl⟩) (fun _ _ => ⟨rfl, rfl, rfl⟩), gN_X g4 K (by omega) e (fun n k hn => hR n k (by omega)) (fun n k hn => hI n k (by omega)) (fun _ _ => rfl) (fun _ _ => ⟨eT_r _ _, fun _ _ => rfl⟩) (fun _ _ => ⟨eT_r _ _, rfl⟩) ⟨b.1.2, b.2.1.2⟩⟩
/-- scratch, and what is made behind N, leaves the relation as it is -/
theorem CR_X {S S' : xm_S} {V : VV} {N N' : Nat} (C : CR S V N) (I : Iv V) (K : KX ERs EIs N S S') (e : N ≤ N') (f : frs N' S') : CR S' V N' := by
  obtain ⟨hN, _, c1, c2, c3, c4, c5, c6, c7, c8, c9, c10, c11, c12, c13⟩ := C
  refine ⟨by omega, f, gS_X c1 K hN (fun k => ERs_f (by omega)), gX_X c2 c1 K hN (fun k => EIs_f (by omega)) (fun _ _ => rfl), gO_X c3 K hN (fun k hk => ERs_f (by omega)), gT_X c4 K hN (ERs_f (by omega)) (EIs_f (by omega)) (fun k => EIs_f (by omega)) (eT_r _ _), gP_X c5 K hN (fun n k hn => ERs_f (by omega)) (fun n k g1 g2 => EIs_f (by omega)) (fun _ _ => ⟨rfl, rfl⟩), gV_X I c6 K hN e (fun n k hn => ERs_f (by omega)) (fun n k hn => EIs_f (by omega)), gW_X c7 K hN e (fun n k hn => ERs_f (by omega)) (fun n k hn => EIs_f (by omega)) rfl (fun _ _ => ⟨eT_r _ _, rfl, rfl⟩), gA_X c8 K hN e (fun n k hn => ERs_f (by omega)) (fun n k hn => EIs_f (by omega)) rfl (fun _ _ => ⟨eT_r _ _, rfl, rfl⟩), gL_X c9 c1 K hN (fun n k hn => ERs_f (by omega)) (fun n k hn => EIs_f (by omega)) (fun _ _ _ => rfl), gM_X c10 K hN (fun n k hn => EIs_f (by omega)) (fun _ _ _ _ => rfl), gI1_X c11 K hN (fun n k hn => ERs_f (by omega)), gI2_X c12 c11 c1 K hN (fun n k hn => EIs_f (by omega)) (fun _ _ _ => rfl), gI3_X c13 c11 K hN (fun k => ERs_f (by omega)) (fun n k hn => EIs_f (by omega)) I.2.2.2.2.2.2.2.2.2.1.2 (fun _ _ _ => rfl)⟩
theorem CR_K {S S' : xm_S} {V : VV} {N : Nat} (C : CR S V N) (I : Iv V) (k : KC S S') : CR S' V N := by
  have hN := C.1
  exact CR_X C I (fun n hn => ⟨KX_ty (k n (by omega)).1, fun j _ => (k n (by omega)).2.1 j, fun j _ => .inr ((k n (by omega)).2.2.2 j)⟩) (Nat.le_refl _) (fun n hn => (k n (by omega)).1.trans (C.2.1 n hn))
theorem CR_pl {S : xm_S} {V : VV} {N n k : Nat} {v : Int64} (C : CR S V N) (I : Iv V) : CR (st_pl S n k v) V N :=
  CR_X C I (fun _ _ => ⟨KX_ty rfl, fun _ _ => rfl, fun _ _ => .inr rfl⟩) (Nat.le_refl _) C.2.1
/-- class and reference stand for V and W -/
def RR (S : xm_S) (V W : VV) (N : Nat) : Prop := CR S V N ∧ MR S W ∧ st_t S 1200 = some (103, 1)
theorem RR_pl {S : xm_S} {V W : VV} {N k : Nat} {v : Int64} (R : RR S V W N) (I : Iv V) : RR (st_pl S 1200 k v) V W N := ⟨CR_pl R.1 I, MR_K R.2.1 (fun n a b => ⟨rfl, fun _ => rfl, fun j => st_l_pl_n _ _ _ _ _ _ (by omega), fun _ => rfl⟩), R.2.2⟩
/-- a step of the reference's -/
theorem RR_m {S S' : xm_S} {V W W' : VV} {N : Nat} (R : RR S V W N) (I : Iv V) (k : KC S S') (M : MR S' W') : RR S' V W' N := ⟨CR_K R.1 I k, M, (k _ (by omega)).1.trans R.2.2⟩
/-- reading and scratch of the class's -/
theorem RR_c {A : Nat → Nat → Bool} {S S' : xm_S} {V W : VV} {N N' : Nat} (R : RR S V W N) (I : Iv V) (G : xG A N S S') (hA : ∀ n k, EIs n k = false → A n k = false) (e : N ≤ N') (f : frs N' S') : RR S' V W N' := by
  have hN := R.1.1
  refine ⟨CR_X R.1 I (KX_G G (by omega) hA) e f, MR_K R.2.1 (KM_G G (by omega) (fun n k a b => hA n k (EIs_f (by omega)))), (G.1 _ (by omega)).trans R.2.2⟩
def E1 (a b n k : Nat) : Bool := n == a && k == b
theorem E1_f {a b n k : Nat} (h : ¬ (n = a ∧ k = b)) : E1 a b n k = false := by
  unfold E1
  by_cases h1 : n = a
  · rw [beq_eq_false_iff_ne.mpr (show k ≠ b from fun e => h ⟨h1, e⟩), Bool.and_false]
  · rw [beq_eq_false_iff_ne.mpr h1]; rfl
theorem E1_t (a b : Nat) : E1 a b a b = true := by unfold E1; simp
theorem gV_Y {ER EI : Nat → Nat → Bool} {S S' : xm_S} {V V' : VV} {N N' : Nat} (I : Iv V) (h : gV S V N) (K : KX ER EI N S S') (hN : 2000 ≤ N) (e : N ≤ N') (hR : ∀ n k, (200 ≤ n ∧ n < 700 ∨ 2000 ≤ n) → ER n k = false) (hI : ∀ n k, (200 ≤ n ∧ n < 700 ∨ 2000 ≤ n) → EI n k = false) (eV : ∀ f k, (2 ≤ f ∧ f ≤ 17 ∨ f = 40 ∨ f = 42 ∨ 44 ≤ f ∧ f ≤ 47) → V' f k = V f k) (eT : ∀ q, q < 144 → eT V V' q) : gV S' V' N' := by
  intro a ha
  obtain ⟨h1, h2⟩ := h a ha
  have eu : used V' a ↔ used V a := by unfold used; rw [vn_e (eV 2 _ (by omega))]
  rw [eu]
  refine ⟨fun u => ?_, fun u j hj => KX_no K (by omega) (hR _ _ (by omega)) (h2 u j hj)⟩
  obtain ⟨g1, g2, g3, g4⟩ := h1 u
  have b := I.1.2.2.1 a ha
  have b8 := b.1.2
  have b13 := b.2.1.2
  exact ⟨gV1_X g1 K (by omega) (fun k => hR _ k (by omega)), gV2_X g2 g1 K (by omega) (fun k => hI _ k (by omega)) (fun f hf => eV f _ (by omega)), gV3_X g3 g1 K (by omega) (fun n k _ _ => hI n k (by omega)) (fun f hf => eV f _ (by omega)) (fun _ _ => eV _ _ (by omega)) (fun _ _ => ⟨eV _ _ (by omega), eV _ _ (by omega)⟩) (fun _ _ => ⟨eV _ _ (by omega), eV _ _ (by omega), eV _ _ (by omega)⟩), gN_X g4 K (by omega) e (fun n k hn => hR n k (by omega)) (fun n k hn => hI n k (by omega)) (fun f hf => eV f _ (by omega)) (fun _ _ => ⟨eT _ (by omega), fun f hf => eV f _ (by omega)⟩) (fun _ _ => ⟨eT _ (by omega), eV _ _ (by omega)⟩) ⟨b8, b13⟩⟩
/-- the tape alone is changed -/
def EIt (n k : Nat) : Bool := E1 2 1 n k || n == 3
theorem EIt_f {n k : Nat} (h : ¬ (n = 2 ∧ k = 1) ∧ n ≠ 3) : EIt n k = false := by
  unfold EIt
  rw [E1_f h.1, beq_eq_false_iff_ne.mpr h.2]; rfl
theorem CR_t {S S' : xm_S} {V V' : VV} {N : Nat} (C : CR S V N) (I : Iv V) (K : KX fA0 EIt N S S') (hf' : frs N S') (ev : ∀ f k, f ≠ 24 → f ≠ 25 → V' f k = V f k) (et : ∀ q, q < 154 → eT V V' q) (h : gT S' V') : CR S' V' N := by
  obtain ⟨hN, hf, c1, c2, c3, c4, c5, c6, c7, c8, c9, c10, c11, c12, c13⟩ := C
  have b18 := I.2.2.1.1.2
  have b21 := I.2.2.1.2.2.2.1.2
  refine ⟨by omega, hf', gS_X c1 K hN (fun k => by rfl), gX_X c2 c1 K hN (fun k => by exact EIt_f (by omega)) (fun f hf9 => by exact ev _ _ (by omega) (by omega)), gO_X c3 K hN (fun k hk => by rfl), ?_, gP_X c5 K hN (fun n k hn => by rfl) (fun n k g1 g2 => by exact EIt_f (by omega)) (fun k hk => ⟨by exact ev _ _ (by omega) (by omega), by exact ev _ _ (by omega) (by omega)⟩), gV_Y I c6 K hN (Nat.le_refl _) (fun n k hn => by rfl) (fun n k hn => by exact EIt_f (by omega)) (fun f k hf9 => by exact ev _ _ (by omega) (by omega)) (fun q hq => by exact et _ (by omega)), gW_X c7 K hN (Nat.le_refl _) (fun n k hn => by rfl) (fun n k hn => by exact EIt_f (by omega)) (by exact ev _ _ (by omega) (by omega)) (fun j hj => ⟨by exact et _ (by omega), by exact ev _ _ (by omega) (by omega), by exact ev _ _ (by omega) (by omega)⟩), gA_X c8 K hN (Nat.le_refl _) (fun n k hn => by rfl) (fun n k hn => by exact EIt_f (by omega)) (by exact ev _ _ (by omega) (by omega)) (fun j hj => ⟨by exact et _ (by omega), by exact ev _ _ (by omega) (by omega), by exact ev _ _ (by omega) (by omega)⟩), gL_X c9 c1 K hN (fun n k hn => by rfl) (fun n k hn => by exact EIt_f (by omega)) (fun f k hf9 => by exact ev _ _ (by omega) (by omega)), gM_X c10 K hN (fun n k hn => by exact EIt_f (by omega)) (fun f k hf9 hk9 => by exact ev _ _ (by omega) (by omega)), gI1_X c11 K hN (fun n k hn => by rfl), gI2_X c12 c11 c1 K hN (fun n k hn => by exact EIt_f (by omega)) (fun f k hf9 => by exact ev _ _ (by omega) (by omega)), gI3_X c13 c11 K hN (fun k => by rfl) (fun n k hn => by exact EIt_f (by omega)) I.2.2.2.2.2.2.2.2.2.1.2 (fun f k hf9 => by exact ev _ _ (by omega) (by omega))⟩
  exact h
theorem vn_s {V : VV} {f k n : Nat} (hn : n < 2 ^ 31) : vn (uV V f k (nI n)) f k = n := by unfold vn; rw [uV_s, nI_clamp hn]
-- first the smallest
theorem TX_0 : TX (fun _ => 0) 0 := ⟨by decide, fun s hs => absurd hs (Nat.not_lt_zero s), fun _ _ => rfl⟩
theorem tT_0 {V : VV} {q : Nat} (h : tL V q = 0) : tT V q = fun _ => 0 := funext fun s => by unfold tT; rw [h, if_neg (Nat.not_lt_zero s)]
theorem eT_w {V : VV} {x : Int32} {q : Nat} (hq : q < 154) : eT V (uV V 25 154 x) q := by
  have e : tL (uV V 25 154 x) q = tL V q := vn_e (uV_n _ _ _ _ _ _ (by omega))
  refine ⟨e, fun s => ?_⟩
  unfold tT
  rw [e, vn_e (uV_n _ _ _ _ _ _ (by omega))]
/-- the tape is wiped -/
theorem CR_w {S : xm_S} {V : VV} {N : Nat} (C : CR S V N) (I : Iv V) : CR (st_pi S 2 1 0) (uV V 25 154 0) N := by
  have tl : tL (uV V 25 154 0) 154 = 0 := vn_s (n := 0) (by decide)
  refine CR_t C I (KX_pi (KX_rfl _ _ _ _) rfl) C.2.1 (fun f k h1 h2 => uV_n _ _ _ _ _ _ (by omega)) (fun q hq => eT_w hq) ?_
  obtain ⟨t1, t2, t3, t4, t5, t6⟩ := C.2.2.2.2.2.1
  unfold gT
  rw [tT_0 tl, tl]
  exact ⟨t1, t2, t3, TX_0, st_i_pi_s _ _ _ _, fun s hs => absurd hs (Nat.not_lt_zero s)⟩
theorem cl_wipe {S : xm_S} {V W : VV} {N : Nat} {g : Int32 → xm_S → Prop} (R : RR S V W N) (I : Iv V) (h : ∀ S', RR S' (uV V 25 154 0) W N → g (V 25 154) S') : wp_X11_wipe 1 S g := by
  have hN := R.1.1
  have c1 := R.1.2.2.1
  obtain ⟨t1, t2, t3, t4, t5, t6⟩ := R.1.2.2.2.2.2.1
  unfold wp_X11_wipe wp_X8_clear
  refine ⟨c1.1, 2, c1.2.1, t1, 2, c1.2.1, t1, t1, fun S2 e2 => ?_⟩
  rw [show st_i S 2 1 = V 25 154 by rw [t5]; exact (I.2.2.1.2.2.2.2.2.2 154 (by decide)).1.symm]
  subst e2
  exact h _ ⟨CR_w R.1 I, MR_K R.2.1 (KM_pi (KM_rfl _) (by omega)), R.2.2⟩
theorem ml_wipe {S : xm_S} {V W : VV} {N : Nat} {g : Int32 → xm_S → Prop} (R : RR S V W N) (I : Iv V) (h : ∀ S', RR S' V (uV W 25 154 0) N → g (W 25 154) S') : wp_X12_wipe 1000 S g := by
  have M := R.2.1.1
  unfold wp_X12_wipe
  refine ⟨M.1, fun S2 e2 => ?_⟩
  have M2 : MR S2 W := by subst e2; exact MR_thr R.2.1
  refine ⟨_, MS_r M2.1 25, _, MS_t M2.1 25, vp_in_nI (show 154 < 155 by decide) (by decide), fun y ey => ⟨_, MS_r M2.1 25, _, MS_t M2.1 25, vp_in_nI (show 154 < 155 by decide) (by decide), fun S16 e16 => ?_⟩⟩
  rw [ey, show st_i S2 (1001 + 25) ((nI 154)).toNatClampNeg = W 25 154 from M2.2.2 25 154 rfl]
  refine h S16 (RR_m R I ?_ ?_)
  · subst e16 e2; exact KC_pi (KC_pi (KC_rfl _) (by omega)) (by omega)
  · subst e16; exact MR_a M2
theorem cl_fault {S : xm_S} {V W : VV} {N : Nat} {g : Int32 → xm_S → Prop} (R : RR S V W N) (I : Iv V) (h : ∀ S' N', RR S' V W N' → g (sfo (tL V 154) (sc 41 (tT V 154) 0 true)) S') : wp_X11_fault 1 S g := by
  have hN := R.1.1
  have c1 := R.1.2.2.1
  have t := R.1.2.2.2.2.2.1
  have hL := t.2.2.2.1
  unfold wp_X11_fault wp_X8_faultPlace wp_X8_faultPlace_15
  refine ⟨c1.1, 2, c1.2.1, t.1, t.1, c_readRange t R.1.2.1 hN fun S' N' G e f => ?_⟩
  have R' : RR S' V W N' := RR_c R I G (fun n k hh => by
    revert hh
    unfold EIs fC
    cases (n == 2) <;> cases (k == 2) <;> cases (k == 3) <;> simp) e f
  have hle := sc_le hL 41 0 true (Nat.zero_le _)
  generalize hr : sc 41 (tT V 154) 0 true = r at h hle ⊢
  obtain ⟨a, b⟩ := r
  refine ⟨fun l hl _ => ⟨fun _ => ?_, fun e => by cases e⟩, fun hn hp => ⟨fun e => absurd rfl e, fun _ => ⟨(G.1 _ (by omega)).trans t.1, ?_⟩⟩⟩
  · have := h S' N' R'
    rw [hl] at this
    rw [show sfo (tL V 154) (tL V 154, some l) = -1 from if_neg (Nat.lt_irrefl _)] at this
    exact this
  · rw [hp]
    have := h S' N' R'
    cases b with
    | none => exact this
    | some l =>
      have ha : a ≠ tL V 154 := fun e => hn l (by rw [e])
      have hle : a ≤ tL V 154 := hle
      rw [show sfo (tL V 154) (a, some l) = nI a from if_pos (show a < tL V 154 by omega)] at this
      exact this
/-- the reference's texts -/
theorem MX_of {S : xm_S} {W : VV} {q : Nat} (M : MR S W) (hq : q < 155) (h : VT W q) : MX S q (tT W q) (tL W q) := ⟨M.1, hq, h.2.1, (M.2.2 25 q rfl).trans h.1, fun s hs => (M.2.2 24 _ rfl).trans (h.2.2 s hs)⟩
theorem MR_B {S S' : xm_S} {W : VV} (M : MR S W) (F : xf_F fB S S') : MR S' W := MR_F M F (fun f e => by
  unfold fB
  have : f < 60 := by
    unfold pS at e
    simp only [Bool.or_eq_true, beq_iff_eq] at e
    omega
  rw [beq_eq_false_iff_ne.mpr (show f ≠ 60 by omega), beq_eq_false_iff_ne.mpr (show f ≠ 61 by omega), beq_eq_false_iff_ne.mpr (show f ≠ 62 by omega), beq_eq_false_iff_ne.mpr (show f ≠ 64 by omega)]
  rfl) (fun f k e => by
  have h1 := pA_lt e
  have h2 : f ≠ 63 := fun hh => by subst hh; cases e
  unfold fB
  rw [beq_eq_false_iff_ne.mpr (show 1001 + f ≠ 1000 by omega), beq_eq_false_iff_ne.mpr (show 1001 + f ≠ 1064 by omega)]
  rfl)
theorem KC_B {S S' : xm_S} (F : xf_F fB S S') : KC S S' := fun n hn => ⟨F.1 n, F.2.1 n, F.2.2.1 n, fun k => F.2.2.2 n k (by
  unfold fB
  rw [beq_eq_false_iff_ne.mpr (show n ≠ 1000 by omega), beq_eq_false_iff_ne.mpr (show n ≠ 1064 by omega)]; rfl)⟩
theorem ml_fault {S : xm_S} {V W : VV} {N : Nat} {g : Int32 → xm_S → Prop} (R : RR S V W N) (I : Iv V) (hT : VT W 154) (h : ∀ S', RR S' V W N → g (sfo (tL W 154) (sc 41 (tT W 154) 0 true)) S') : wp_X12_fault 1000 S g := by
  have M := R.2.1.1
  unfold wp_X12_fault
  refine ⟨M.1, fun S2 e2 => ?_⟩
  have M2 : MR S2 W := by subst e2; exact MR_thr R.2.1
  have K2 : KC S S2 := by subst e2; exact KC_pi (KC_rfl _) (by omega)
  exact pm_faultOf (MX_of M2 (by decide) hT) fun S' F => h S' (RR_m R I (KC_tr K2 (KC_B F)) (MR_B M2 F))
