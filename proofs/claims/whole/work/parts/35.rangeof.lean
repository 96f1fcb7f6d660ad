-- the reference's isRangeOf is a fold over the items of the text
def rl (n : Nat) : Bool := decide (n % 10 = 0)
def xt (sc n : Nat) (x : Option tt) : Bool := match x with
  | none => true
  | some t => tsv sc n t
def xp (n : Nat) (x : Option tt) : Bool := match x with
  | none => false
  | some t => prv n t
def hf (sc n : Nat) : Bool → Bool → List xit → Bool
  | a, t, [] => a && t
  | a, t, x :: r => if x.1 then ((a && t) || hf sc n (xt sc n x.2) (rl n || xp n x.2) r) else hf sc n (a && xt sc n x.2) (t || xp n x.2) r
theorem cs_some {x : xit} {r : Nat × Option (List xit)} {e : Nat} {l : List xit} (h : cs x r = (e, some l)) : ∃ l', l = x :: l' ∧ r = (e, some l') := by
  obtain ⟨a, b⟩ := r
  cases b with
  | none => exact absurd (congrArg Prod.snd h) (fun hh => by cases hh)
  | some l' => exact ⟨l', (Option.some.inj (congrArg Prod.snd h)).symm, by rw [show a = e from congrArg Prod.fst h]⟩
theorem sAT_some {f s e : Nat} {T : Nat → Nat} {x : xit} {l : List xit} (h : sAT f T s x = (e, some l)) : ∃ l', l = x :: l' ∧ ((T s = 44 ∧ sc f T (s + 1) false = (e, some l')) ∨ (T s ≠ 44 ∧ (if T s = 124 then sc f T (s + 1) true else (s, some [])) = (e, some l'))) := by
  unfold sAT at h
  split at h
  next h1 => obtain ⟨l', a, b⟩ := cs_some h; exact ⟨l', a, .inl ⟨h1, b⟩⟩
  next h1 =>
    split at h
    next h2 => obtain ⟨l', a, b⟩ := cs_some h; exact ⟨l', a, .inr ⟨h1, by rw [if_pos h2]; exact b⟩⟩
    next h2 =>
      refine ⟨[], (Option.some.inj (congrArg Prod.snd h)).symm, .inr ⟨h1, ?_⟩⟩
      rw [if_neg h2, show s = e from congrArg Prod.fst h]
theorem sc_some {f s e : Nat} {o : Bool} {T : Nat → Nat} {l : List xit} (h : sc f T s o = (e, some l)) : ∃ f' x l', f = f' + 1 ∧ l = x :: l' ∧ x.1 = o ∧ ((o = true ∧ T s = 42 ∧ x.2 = none ∧ (if T (s + 1) = 124 then sc f' T (s + 2) true else (s + 1, some [])) = (e, some l')) ∨ (¬ (o = true ∧ T s = 42) ∧ ∃ s' t, rt T s = (s', some t) ∧ x.2 = some t ∧ sAT f' T s' x = (e, some (x :: l')))) := by
  cases f with
  | zero => exact absurd (congrArg Prod.snd h) (fun hh => by cases hh)
  | succ f =>
    by_cases h1 : o = true ∧ T s = 42
    · obtain ⟨ho, h42⟩ := h1
      subst ho
      rw [sc_star h42] at h
      split at h
      next h2 =>
        obtain ⟨l', a, b⟩ := cs_some h
        exact ⟨f, _, l', rfl, a, rfl, .inl ⟨rfl, h42, rfl, by rw [if_pos h2]; exact b⟩⟩
      next h2 =>
        refine ⟨f, _, [], rfl, (Option.some.inj (congrArg Prod.snd h)).symm, rfl, .inl ⟨rfl, h42, rfl, ?_⟩⟩
        rw [if_neg h2, show s + 1 = e from congrArg Prod.fst h]
    · cases hr : rt T s with
      | mk s' b =>
        cases b with
        | none => rw [sc_bad h1 hr] at h; exact absurd (congrArg Prod.snd h) (fun hh => by cases hh)
        | some t =>
          rw [sc_good h1 hr] at h
          obtain ⟨l', a, _⟩ := sAT_some h
          exact ⟨f, _, l', rfl, a, rfl, .inr ⟨h1, s', t, rfl, rfl, by rw [← a]; exact h⟩⟩
theorem hf_o {sc' n f s e : Nat} {a t : Bool} {T : Nat → Nat} {l : List xit} (h : sc f T s true = (e, some l)) : hf sc' n a t l = ((a && t) || hf sc' n false false l) := by
  obtain ⟨f', x, l', _, rfl, hx, _⟩ := sc_some h
  obtain ⟨x1, x2⟩ := x
  subst hx
  show ((a && t) || _) = ((a && t) || ((false && false) || _))
  rw [Bool.false_and, Bool.false_or]
  rfl
def pP (b : Bool) (S : xm_S) (g : Int32 → xm_S → Prop) : Prop := ∀ S', xf_F fA S S' → g (bI b) S'
theorem pP_k {b : Bool} {S S1 : xm_S} {g : Int32 → xm_S → Prop} (h : pP b S g) (F : xf_F fA S S1) : pP b S1 g := fun S' F' => h S' (xf_tr F F')
theorem pm_r27 {sc' n q L : Nat} {any : Bool} {S : xm_S} {T : Nat → Nat} {g : Int32 → xm_S → Prop} {Z27 : Int32 → Int32 → Int32 → Int32 → Int32 → xm_S → Prop} (hZ : ∀ x1 x2 x3 x4 x5 S, wp_X12_isRangeOf_27B 1000 x1 x2 x3 x4 x5 S g Z27 → Z27 x1 x2 x3 x4 x5 S) (M : MT S q T L) (hs : st_i S 1000 60 = nI L) (h : pP any S g) : Z27 (nI q) (nI sc') (nI n) (bI (!rl n)) (bI any) S := by
  have hq := M.2.1
  have hL := M.2.2.1.1
  refine hZ _ _ _ _ _ _ ?_
  unfold wp_X12_isRangeOf_27B
  refine ⟨M.1.1, _, MS_r M.1 25, _, MS_t M.1 25, vp_in_nI hq (by decide), fun _ => ⟨bI_01 _, h S (xf_rfl _ _)⟩, fun e => ?_⟩
  rw [nI_clamp (by omega), show (1001 + 25 : Nat) = 1026 from rfl, M.2.2.2.2.1, hs] at e
  exact absurd (nI_le (Nat.le_refl _) (by omega)) e
theorem pm_r130 {sc' n q L f s : Nat} {any a t : Bool} {S : xm_S} {T : Nat → Nat} {l : List xit} {g : Int32 → xm_S → Prop} {Z27 : Int32 → Int32 → Int32 → Int32 → Int32 → xm_S → Prop} (hZ : ∀ x1 x2 x3 x4 x5 S, wp_X12_isRangeOf_27B 1000 x1 x2 x3 x4 x5 S g Z27 → Z27 x1 x2 x3 x4 x5 S)
    (A : T s = 124 → ∀ S' any', MT S' q T L → st_i S' 1000 60 = nI (s + 1) → sc f T (s + 1) true = (L, some l) → pP (any' || hf sc' n false false l) S' g → Z27 (nI q) (nI sc') (nI n) (bI (!rl n)) (bI any') S') (M : MT S q T L) (hs : st_i S 1000 60 = nI s) (hL : s ≤ L) (hr : (if T s = 124 then sc f T (s + 1) true else (s, some [])) = (L, some l)) (h : pP (any || hf sc' n a t l) S g) : wp_X12_isRangeOf_130 1000 (nI q) (nI sc') (nI n) (bI (!rl n)) (bI any) (bI a) (bI t) S g Z27 := by
  have X : wp_X12_isRangeOf_150 1000 (nI q) (nI sc') (nI n) (bI (!rl n)) (bI (any || (a && t))) S g Z27 := by
    unfold wp_X12_isRangeOf_150
    refine ⟨M.1.1, pm_takes (c := 124) M hs hL (by decide) (fun e1 hlt S1 F k1 k2 s1 => ?_) (fun e1 S1 F k1 k2 s1 => ?_)⟩
    · rw [if_pos e1] at hr
      refine A e1 S1 _ (MT_F M F) s1 hr ?_
      rw [hf_o hr, ← Bool.or_assoc] at h
      exact pP_k h F
    · rw [if_neg e1] at hr
      have e2 : s = L := congrArg Prod.fst hr
      have e3 : [] = l := Option.some.inj (congrArg Prod.snd hr)
      subst e3 e2
      exact pm_r27 hZ (MT_F M F) s1 (pP_k h F)
  unfold wp_X12_isRangeOf_130 wp_X12_isRangeOf_145 wp_X12_isRangeOf_149
  revert X
  cases any <;> cases a <;> cases t <;> intro X <;> first | exact ⟨fun _ => X, fun e => absurd e (by decide)⟩ | exact ⟨fun e => absurd rfl e, fun _ => ⟨fun _ => X, fun e => absurd rfl e⟩⟩ | exact ⟨fun e => absurd rfl e, fun _ => ⟨fun e => absurd e (by decide), fun _ => ⟨fun _ => X, fun e => absurd rfl e⟩⟩⟩ | exact ⟨fun e => absurd rfl e, fun _ => ⟨fun e => absurd e (by decide), fun _ => ⟨fun e => absurd e (by decide), fun _ => X⟩⟩⟩
theorem pm_rABD {sc' n q L : Nat} {T : Nat → Nat} {g : Int32 → xm_S → Prop} {Z27 : Int32 → Int32 → Int32 → Int32 → Int32 → xm_S → Prop} (hZ : ∀ x1 x2 x3 x4 x5 S, wp_X12_isRangeOf_27B 1000 x1 x2 x3 x4 x5 S g Z27 → Z27 x1 x2 x3 x4 x5 S) (hsc : sc' ≤ 2) (hn : n < 100000) : ∀ f,
    (∀ s S any l, MT S q T L → st_i S 1000 60 = nI s → s ≤ L → sc f T s true = (L, some l) → pP (any || hf sc' n false false l) S g → Z27 (nI q) (nI sc') (nI n) (bI (!rl n)) (bI any) S) ∧
    (∀ Z67 : Int32 → Int32 → Int32 → Int32 → Int32 → Int32 → Int32 → Int32 → xm_S → Prop, (∀ x1 x2 x3 x4 x5 x6 x7 x8 S, wp_X12_isRangeOf_67B 1000 x1 x2 x3 x4 x5 x6 x7 x8 S g Z27 Z67 → Z67 x1 x2 x3 x4 x5 x6 x7 x8 S) → ∀ s S any a t x l, MT S q T L → st_i S 1000 60 = nI s → s ≤ L → sAT f T s x = (L, some (x :: l)) → pP (any || hf sc' n a t l) S g → wp_X12_isRangeOf_117 1000 (nI q) (nI sc') (nI n) (bI (!rl n)) (bI any) (bI a) (bI t) S g Z27 Z67) := by
  have RT : ∀ f, (∀ Z67 : Int32 → Int32 → Int32 → Int32 → Int32 → Int32 → Int32 → Int32 → xm_S → Prop, (∀ x1 x2 x3 x4 x5 x6 x7 x8 S, wp_X12_isRangeOf_67B 1000 x1 x2 x3 x4 x5 x6 x7 x8 S g Z27 Z67 → Z67 x1 x2 x3 x4 x5 x6 x7 x8 S) → ∀ s S any a t x l, MT S q T L → st_i S 1000 60 = nI s → s ≤ L → sAT f T s x = (L, some (x :: l)) → pP (any || hf sc' n a t l) S g → wp_X12_isRangeOf_117 1000 (nI q) (nI sc') (nI n) (bI (!rl n)) (bI any) (bI a) (bI t) S g Z27 Z67) →
      ∀ Z67 : Int32 → Int32 → Int32 → Int32 → Int32 → Int32 → Int32 → Int32 → xm_S → Prop, (∀ x1 x2 x3 x4 x5 x6 x7 x8 S, wp_X12_isRangeOf_67B 1000 x1 x2 x3 x4 x5 x6 x7 x8 S g Z27 Z67 → Z67 x1 x2 x3 x4 x5 x6 x7 x8 S) → ∀ s S any a t s' tt' x l, MT S q T L → st_i S 1000 60 = nI s → s ≤ L → rt T s = (s', some tt') → sAT f T s' x = (L, some (x :: l)) → pP (any || hf sc' n (a && tsv sc' n tt') (t || prv n tt') l) S g → Z67 (nI q) (nI sc') (nI n) (bI (!rl n)) (bI any) (bI a) (bI t) 1 S := by
    intro f D Z67 hZ67 s S any a t s' tt' x l M hs hL hrt hsat h
    refine hZ67 _ _ _ _ _ _ _ _ _ ?_
    unfold wp_X12_isRangeOf_67B
    refine ⟨fun e => absurd e (by decide), fun _ => ⟨M.1.1, pm_rt M hs hL fun S1 F s1 => ?_⟩⟩
    rw [hrt] at s1 ⊢
    refine ⟨fun t0 ht hd hsg => ?_, fun hn => by cases hn⟩
    have ht : tt' = t0 := Option.some.inj ht
    subst ht
    have M1 := MT_F M F
    have ok := rt_ok (t := tt') (T := T) (s := s) (by rw [hrt])
    have hle := (rt_le M.2.2.1 hL).2.1
    rw [hrt] at hle
    have h := pP_k h F
    have P : ∀ b, b = (a && tsv sc' n tt') → wp_X12_isRangeOf_97 1000 (nI q) (nI sc') (nI n) (bI (!rl n)) (bI any) (bI t) (bI b) S1 g Z27 Z67 := by
      intro b eb
      rw [← eb] at h
      unfold wp_X12_isRangeOf_97 wp_X12_isRangeOf_112
      refine bI_c' (fun ht => ?_) (fun ht => ⟨M1.1.1, pm_isOfPreview M1.1 hn ok hd (bI_c (fun hp => ?_) (fun hp => ?_))⟩)
      · rw [ht, Bool.true_or] at h
        exact D Z67 hZ67 s' S1 any b true x l M1 s1 hle hsat h
      · rw [hp, Bool.or_true] at h
        exact D Z67 hZ67 s' S1 any b true x l M1 s1 hle hsat h
      · rw [hp, ht, Bool.or_false] at h
        exact D Z67 hZ67 s' S1 any b false x l M1 s1 hle hsat h
    unfold wp_X12_isRangeOf_96
    refine bI_c (fun ha => ⟨M1.1.1, pm_isTestOf M1.1 hsc hn ok hd hsg (bI_c (fun hv => ?_) (fun hv => ?_))⟩) (fun ha => ?_)
    · exact P true (by rw [ha, hv]; rfl)
    · exact P false (by rw [hv, Bool.and_false])
    · exact P false (by rw [ha, Bool.false_and])
  intro f
  induction f with
  | zero =>
    refine ⟨fun s S any l M hs hL h _ => by obtain ⟨f', _, _, e, _⟩ := sc_some h; omega, fun Z67 hZ67 s S any a t x l M hs hL h hp => ?_⟩
    obtain ⟨l', el, h⟩ := sAT_some h
    have el : l = l' := (List.cons.inj el).2
    subst el
    rcases h with ⟨h1, h2⟩ | ⟨h1, h2⟩
    · obtain ⟨f', _, _, e, _⟩ := sc_some h2; omega
    · unfold wp_X12_isRangeOf_117
      refine ⟨M.1.1, pm_takes (c := 44) M hs hL (by decide) (fun e1 hlt S1 F k1 k2 s1 => absurd e1 h1) (fun e1 S1 F k1 k2 s1 => ?_)⟩
      refine hZ67 _ _ _ _ _ _ _ _ _ ?_
      unfold wp_X12_isRangeOf_67B
      exact ⟨fun _ => pm_r130 (f := 0) hZ (fun e S' any' M' hs' h' => by obtain ⟨f', _, _, e, _⟩ := sc_some h'; omega) (MT_F M F) s1 hL h2 (pP_k hp F), fun e => absurd rfl e⟩
  | succ f ih =>
    have A : ∀ s S any l, MT S q T L → st_i S 1000 60 = nI s → s ≤ L → sc (f + 1) T s true = (L, some l) → pP (any || hf sc' n false false l) S g → Z27 (nI q) (nI sc') (nI n) (bI (!rl n)) (bI any) S := by
      intro s S any l M hs hL h hp
      have hq := M.2.1
      have hL40 := M.2.2.1.1
      obtain ⟨f', x, l', ef, el, hx, h9⟩ := sc_some h
      have ef : f = f' := by omega
      subst ef el
      have hlt : s < L := by
        rcases h9 with ⟨_, h42, _⟩ | ⟨_, s', t, hrt, _⟩
        · exact TX_n M.2.2.1 (by omega)
        · have := rt_le M.2.2.1 hL
          rw [hrt] at this
          have h3 := this.2.2 (fun hh => by cases hh)
          have h4 := this.2.1
          omega
      obtain ⟨x1, x2⟩ := x
      have hx : x1 = true := hx
      subst hx
      refine hZ _ _ _ _ _ _ ?_
      unfold wp_X12_isRangeOf_27B
      refine ⟨M.1.1, _, MS_r M.1 25, _, MS_t M.1 25, vp_in_nI hq (by decide), ?_⟩
      rw [nI_clamp (by omega), show (1001 + 25 : Nat) = 1026 from rfl, M.2.2.2.2.1, hs, nI_leI (by omega) (by omega)]
      refine ⟨fun e => absurd e (by omega), fun _ => ?_⟩
      have Y : wp_X12_isRangeOf_53 1000 (nI q) (nI sc') (nI n) (bI (!rl n)) (bI any) (1 : Int32) (bI (rl n)) S g Z27 := by
        unfold wp_X12_isRangeOf_53
        refine ⟨M.1.1, pm_takes (c := 42) M hs hL (by decide) (fun e1 hlt S1 F k1 k2 s1 => ⟨fun _ => ?_, fun e => absurd e (by decide)⟩) (fun e1 S1 F k1 k2 s1 => ⟨fun e => absurd rfl e, fun _ => ?_⟩)⟩
        · rcases h9 with ⟨_, h42, hxn, hr⟩ | ⟨hne, _⟩
          · have hxn : x2 = none := hxn
            subst hxn
            refine pm_r130 (f := f) (a := true) hZ (fun e S' any' M' hs' h' hp' => ih.1 _ S' any' l' M' hs' (TX_n M.2.2.1 (s := s + 1) (by omega)) h' hp') (MT_F M F) s1 hlt hr ?_
            have hp := pP_k hp F
            rw [show hf sc' n false false ((true, none) :: l') = hf sc' n true (rl n) l' from by show ((false && false) || hf sc' n true (rl n || false) l') = _; rw [Bool.or_false, Bool.false_and, Bool.false_or]] at hp
            exact hp
          · exact absurd ⟨rfl, e1⟩ hne
        · rcases h9 with ⟨_, h42, _⟩ | ⟨hne, s', t, hrt, hx2, hsat⟩
          · exact absurd h42 e1
          · have hx2 : x2 = some t := hx2
            subst hx2
            unfold wp_X12_isRangeOf_67
            intro Z67 hZ67
            refine RT f ih.2 Z67 hZ67 s S1 any true (rl n) s' t _ l' (MT_F M F) s1 hL hrt hsat ?_
            have hp := pP_k hp F
            rw [show hf sc' n false false ((true, some t) :: l') = hf sc' n (true && tsv sc' n t) (rl n || prv n t) l' from by show ((false && false) || hf sc' n (tsv sc' n t) (rl n || prv n t) l') = _; rw [Bool.true_and, Bool.false_and, Bool.false_or]] at hp
            exact hp
      refine bI_c' (fun hr => ?_) (fun hr => ?_)
      · rw [show rl n = false by cases h9 : rl n; rfl; rw [h9] at hr; cases hr] at Y ⊢; exact Y
      · rw [show rl n = true by cases h9 : rl n; rw [h9] at hr; cases hr; rfl] at Y ⊢; exact Y
    refine ⟨A, fun Z67 hZ67 s S any a t x l M hs hL h hp => ?_⟩
    obtain ⟨l', el, h⟩ := sAT_some h
    have el : l = l' := (List.cons.inj el).2
    subst el
    unfold wp_X12_isRangeOf_117
    refine ⟨M.1.1, pm_takes (c := 44) M hs hL (by decide) (fun e1 hlt S1 F k1 k2 s1 => ?_) (fun e1 S1 F k1 k2 s1 => ?_)⟩
    · rcases h with ⟨_, h⟩ | ⟨h1, _⟩
      · obtain ⟨f', y, l2, ef, el, hy, h9⟩ := sc_some h
        have ef : f = f' := by omega
        subst ef el
        rcases h9 with ⟨hf0, _⟩ | ⟨_, s', tt', hrt, hx2, hsat⟩
        · cases hf0
        · obtain ⟨y1, y2⟩ := y
          have hy : y1 = false := hy
          have hx2 : y2 = some tt' := hx2
          subst hy hx2
          exact RT f ih.2 Z67 hZ67 (s + 1) S1 any a t s' tt' _ l2 (MT_F M F) s1 hlt hrt hsat (pP_k hp F)
      · exact absurd e1 h1
    · rcases h with ⟨h1, _⟩ | ⟨h1, h2⟩
      · exact absurd h1 e1
      · refine hZ67 _ _ _ _ _ _ _ _ _ ?_
        unfold wp_X12_isRangeOf_67B
        exact ⟨fun _ => pm_r130 (f := f + 1) hZ (fun e S' any' M' hs' h' hp' => A (s + 1) S' any' l M' hs' (TX_n M.2.2.1 (s := s) (by omega)) h' hp') (MT_F M F) s1 hL h2 (pP_k hp F), fun e => absurd rfl e⟩
/-- a text without a fault, by its items -/
def tOf (T : Nat → Nat) (L : Nat) (l : List xit) : Prop := sc 41 T 0 true = (L, some l)
theorem pm_isRangeOf {S : xm_S} {sc' n q L : Nat} {T : Nat → Nat} {l : List xit} {g : Int32 → xm_S → Prop} (M : MX S q T L) (hsc : sc' ≤ 2) (hn : n < 100000) (hl : tOf T L l) (h : ∀ S', xf_F fB S S' → g (bI (hf sc' n false false l)) S') : wp_X12_isRangeOf 1000 (nI q) (nI sc') (nI n) S g := by
  have K : wp_X12_isRangeOf_12 1000 (nI q) (nI sc') (nI n) (bI (!rl n)) S g := by
    unfold wp_X12_isRangeOf_12
    refine ⟨M.1.1, fun S26 e26 S28 e28 => ?_⟩
    have F : xf_F fB S S28 := by subst e28 e26; exact xf_pi (xf_pi (xf_rfl _ _) rfl) rfl
    unfold wp_X12_isRangeOf_27
    intro Z27 hZ
    refine (pm_rABD (Z27 := Z27) hZ hsc hn 41).1 0 S28 false l (MX_T (MX_F M F) ?_) ?_ (Nat.zero_le _) hl fun S' F' => h S' (xf_tr F (fAB F'))
    · rw [e28, st_i_pi_n _ _ _ _ _ _ fun hh => by omega, e26]; exact st_i_pi_s _ _ _ _
    · rw [e28]; exact st_i_pi_s _ _ _ _
  unfold wp_X12_isRangeOf
  rw [pk_rem (a := n) (d := 10) (by omega) (by decide) (by decide), nI_l0 (by omega)]
  refine ⟨fun e => ?_, fun e => ?_⟩
  · rw [show rl n = true from decide_eq_true e] at K; exact K
  · rw [show rl n = false from decide_eq_false e] at K; exact K
