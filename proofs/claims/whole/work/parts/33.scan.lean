-- the range level of a text
abbrev xit : Type := Bool × Option tt
def cs (x : xit) (r : Nat × Option (List xit)) : Nat × Option (List xit) := (r.1, r.2.map (fun l => x :: l))
def sc : Nat → (Nat → Nat) → Nat → Bool → Nat × Option (List xit)
  | 0, _, s, _ => (s, none)
  | f + 1, T, s, o => if o = true ∧ T s = 42 then (if T (s + 1) = 124 then cs (true, none) (sc f T (s + 2) true) else (s + 1, some [(true, none)])) else
      match rt T s with
      | (s', none) => (s', none)
      | (s', some t) => if T s' = 44 then cs (o, some t) (sc f T (s' + 1) false) else if T s' = 124 then cs (o, some t) (sc f T (s' + 1) true) else (s', some [(o, some t)])
def sAT (f : Nat) (T : Nat → Nat) (s : Nat) (x : xit) : Nat × Option (List xit) := if T s = 44 then cs x (sc f T (s + 1) false) else if T s = 124 then cs x (sc f T (s + 1) true) else (s, some [x])
theorem sc_succ (f : Nat) (T : Nat → Nat) (s : Nat) (o : Bool) : sc (f + 1) T s o = if o = true ∧ T s = 42 then (if T (s + 1) = 124 then cs (true, none) (sc f T (s + 2) true) else (s + 1, some [(true, none)])) else
      match rt T s with
      | (s', none) => (s', none)
      | (s', some t) => if T s' = 44 then cs (o, some t) (sc f T (s' + 1) false) else if T s' = 124 then cs (o, some t) (sc f T (s' + 1) true) else (s', some [(o, some t)]) := rfl
theorem sc_star {f s : Nat} {T : Nat → Nat} (e : T s = 42) : sc (f + 1) T s true = if T (s + 1) = 124 then cs (true, none) (sc f T (s + 2) true) else (s + 1, some [(true, none)]) := by
  rw [sc_succ, if_pos ⟨rfl, e⟩]
theorem sc_bad {f s s' : Nat} {o : Bool} {T : Nat → Nat} (e : ¬ (o = true ∧ T s = 42)) (h : rt T s = (s', none)) : sc (f + 1) T s o = (s', none) := by
  rw [sc_succ, if_neg e, h]
theorem sc_good {f s s' : Nat} {o : Bool} {T : Nat → Nat} {t : tt} (e : ¬ (o = true ∧ T s = 42)) (h : rt T s = (s', some t)) : sc (f + 1) T s o = sAT f T s' (o, some t) := by
  unfold sAT
  rw [sc_succ, if_neg e, h]
theorem rv3_le {T : Nat → Nat} {L s sg e M m p many : Nat} (hT : TX T L) (hs : s ≤ L) : s ≤ (rv3 T s sg e M m p many).1 ∧ (rv3 T s sg e M m p many).1 ≤ L := by
  unfold rv3
  split
  next h =>
    have := TX_n hT (s := s) (by omega)
    split
    next h2 =>
      have := TX_n hT (s := s + 1) (by have := dg_n h2; omega)
      exact ⟨by show s ≤ s + 2; omega, by show s + 2 ≤ L; omega⟩
    next => exact ⟨by show s ≤ s + 1; omega, by show s + 1 ≤ L; omega⟩
  next => exact ⟨Nat.le_refl _, hs⟩
theorem rv2b_le {T : Nat → Nat} {L s sg e M m : Nat} (hT : TX T L) (hs : s ≤ L) : s ≤ (rv2b T s sg e M m).1 ∧ (rv2b T s sg e M m).1 ≤ L := by
  unfold rv2b
  split
  next h =>
    have := TX_n hT (s := s) (by omega)
    split
    next h2 =>
      have h3 := TX_n hT (s := s + 1) (by have := dg_n h2; omega)
      have := rv3_le (sg := sg) (e := e) (M := M) (m := m) (p := T (s + 1) - 48) (many := 3) hT (show s + 2 ≤ L by omega)
      omega
    next => exact ⟨by show s ≤ s + 1; omega, by show s + 1 ≤ L; omega⟩
  next => exact rv3_le hT hs
theorem rv2_le {T : Nat → Nat} {L s sg e M : Nat} (hT : TX T L) (hs : s ≤ L) : s ≤ (rv2 T s sg e M).1 ∧ (rv2 T s sg e M).1 ≤ L := by
  unfold rv2
  split
  next h =>
    have := TX_n hT (s := s) (by omega)
    split
    next h2 =>
      have h3 := TX_n hT (s := s + 1) (by have := dg_n h2; omega)
      have := rv2b_le (sg := sg) (e := e) (M := M) (m := T (s + 1) - 48) hT (show s + 2 ≤ L by omega)
      omega
    next => exact ⟨by show s ≤ s + 1; omega, by show s + 1 ≤ L; omega⟩
  next => exact rv3_le hT hs
theorem rv_le {T : Nat → Nat} {L s sg : Nat} (hT : TX T L) (hs : s ≤ L) : s ≤ (rv T s sg).1 ∧ (rv T s sg).1 ≤ L ∧ ((rv T s sg).2 ≠ none → s + 1 ≤ (rv T s sg).1) := by
  unfold rv
  split
  next h =>
    have := TX_n hT (s := s) (by have := dg_n h; omega)
    split
    next h1 =>
      have := TX_n hT (s := s + 1) (by omega)
      split
      next h2 =>
        have h3 := TX_n hT (s := s + 2) (by have := dg_n h2; omega)
        have := rv2_le (sg := sg) (e := T s - 48) (M := T (s + 2) - 48) hT (show s + 3 ≤ L by omega)
        exact ⟨by omega, by omega, fun _ => by omega⟩
      next => exact ⟨by show s ≤ s + 2; omega, by show s + 2 ≤ L; omega, fun _ => by show s + 1 ≤ s + 2; omega⟩
    next =>
      have := rv2_le (sg := sg) (e := 0) (M := T s - 48) hT (show s + 1 ≤ L by omega)
      exact ⟨by omega, by omega, fun _ => by omega⟩
  next => exact ⟨Nat.le_refl _, hs, fun h => absurd rfl h⟩
theorem rt_le {T : Nat → Nat} {L s : Nat} (hT : TX T L) (hs : s ≤ L) : s ≤ (rt T s).1 ∧ (rt T s).1 ≤ L ∧ ((rt T s).2 ≠ none → s + 2 ≤ (rt T s).1) := by
  have A : T s ≠ 0 → ∀ sg, s ≤ (rv T (s + 1) sg).1 ∧ (rv T (s + 1) sg).1 ≤ L ∧ ((rv T (s + 1) sg).2 ≠ none → s + 2 ≤ (rv T (s + 1) sg).1) := fun e sg => by
    have h := rv_le (sg := sg) hT (show s + 1 ≤ L from TX_n hT e)
    exact ⟨by omega, h.2.1, fun hh => by have := h.2.2 hh; omega⟩
  have B : T s ≠ 0 → T (s + 1) ≠ 0 → ∀ sg, s ≤ (rv T (s + 2) sg).1 ∧ (rv T (s + 2) sg).1 ≤ L ∧ ((rv T (s + 2) sg).2 ≠ none → s + 2 ≤ (rv T (s + 2) sg).1) := fun e e1 sg => by
    have h := rv_le (sg := sg) hT (show s + 2 ≤ L from TX_n hT e1)
    exact ⟨by omega, h.2.1, fun hh => by have := h.2.2 hh; omega⟩
  unfold rt
  split
  · exact A (by omega) _
  · split
    · split
      · exact B (by omega) (by omega) _
      · exact A (by omega) _
    · split
      · split
        · exact B (by omega) (by omega) _
        · exact A (by omega) _
      · split
        · exact A (by omega) _
        · split
          · exact A (by omega) _
          · exact ⟨Nat.le_refl _, hs, fun h => absurd rfl h⟩
/-- what faultOf says of a scan -/
def sfo (L : Nat) (r : Nat × Option (List xit)) : Int32 := match r.2 with
  | none => nI r.1
  | some _ => if r.1 < L then nI r.1 else -1
theorem sfo_cs (L : Nat) (x : xit) (r : Nat × Option (List xit)) : sfo L (cs x r) = sfo L r := by
  obtain ⟨a, b⟩ := r
  cases b <;> rfl
def fB (n k : Nat) : Bool := (n == 1000 && (k == 60 || k == 61 || k == 62 || k == 64)) || n == 1064
theorem fAB {S S' : xm_S} (h : xf_F fA S S') : xf_F fB S S' := xf_mo h fun n k e => by
  revert e
  unfold fA fB
  cases (n == 1000) <;> cases (n == 1064) <;> cases (k == 60) <;> cases (k == 61) <;> cases (k == 62) <;> cases (k == 64) <;> decide
def foP (L : Nat) (r : Nat × Option (List xit)) (S : xm_S) (g : Int32 → xm_S → Prop) : Prop := ∀ S', xf_F fA S S' → g (sfo L r) S'
theorem foP_k {L : Nat} {r : Nat × Option (List xit)} {S S1 : xm_S} {g : Int32 → xm_S → Prop} (h : foP L r S g) (F : xf_F fA S S1) : foP L r S1 g := fun S' F' => h S' (xf_tr F F')
theorem foP_cs {L : Nat} {x : xit} {r : Nat × Option (List xit)} {S : xm_S} {g : Int32 → xm_S → Prop} (h : foP L (cs x r) S g) : foP L r S g := fun S' F' => by have := h S' F'; rw [sfo_cs] at this; exact this
theorem pm_fo0 {S : xm_S} {q L s : Nat} {T : Nat → Nat} {x : xit} {g : Int32 → xm_S → Prop} {Z12 : Int32 → Int32 → xm_S → Prop} (hZ : ∀ x1 x2 S, wp_X12_faultOf_12B 1000 x1 x2 S g Z12 → Z12 x1 x2 S) (M : MT S q T L) (hs : st_i S 1000 60 = nI s) (hL : s ≤ L) (h : foP L (s, some [x]) S g) : Z12 (nI q) 0 S := by
  have hL40 := M.2.2.1.1
  have hq := M.2.1
  have hg := h S (xf_rfl _ _)
  refine hZ _ _ _ ?_
  unfold wp_X12_faultOf_12B
  refine ⟨fun _ => ⟨M.1.1, _, MS_r M.1 25, _, MS_t M.1 25, vp_in_nI M.2.1 (by decide), ?_⟩, fun e => absurd rfl e⟩
  rw [nI_clamp (by omega), show (1001 + 25 : Nat) = 1026 from rfl, M.2.2.2.2.1, hs]
  unfold wp_X12_faultOf_89
  refine ⟨fun e => ?_, fun e => ?_⟩
  · rw [nI_leI (by omega) (by omega)] at e
    have : sfo L (s, some [x]) = -1 := if_neg (show ¬ s < L by omega)
    rw [this] at hg
    exact hg
  · rw [nI_leI (by omega) (by omega)] at e
    have : sfo L (s, some [x]) = nI s := if_pos (show s < L by omega)
    rw [this] at hg
    exact hg
theorem pm_fo58 {S : xm_S} {q L s f : Nat} {T : Nat → Nat} {x : xit} {g : Int32 → xm_S → Prop} {Z12 : Int32 → Int32 → xm_S → Prop} (hZ : ∀ x1 x2 S, wp_X12_faultOf_12B 1000 x1 x2 S g Z12 → Z12 x1 x2 S)
    (A : T s = 124 → ∀ S', MT S' q T L → st_i S' 1000 60 = nI (s + 1) → foP L (sc f T (s + 1) true) S' g → Z12 (nI q) 1 S') (M : MT S q T L) (hs : st_i S 1000 60 = nI s) (hL : s ≤ L) (h : foP L (if T s = 124 then cs x (sc f T (s + 1) true) else (s, some [x])) S g) : wp_X12_faultOf_58 1000 (nI q) S g Z12 := by
  unfold wp_X12_faultOf_58
  refine ⟨M.1.1, pm_takes (c := 124) M hs hL (by decide) (fun e1 hlt S1 F k1 k2 s1 => ?_) (fun e1 S1 F k1 k2 s1 => ?_)⟩
  · rw [if_pos e1] at h
    exact A e1 S1 (MT_F M F) s1 (foP_k (foP_cs h) F)
  · rw [if_neg e1] at h
    exact pm_fo0 hZ (MT_F M F) s1 hL (foP_k h F)
theorem pm_foAB {q L : Nat} {T : Nat → Nat} {g : Int32 → xm_S → Prop} {Z12 : Int32 → Int32 → xm_S → Prop} (hZ : ∀ x1 x2 S, wp_X12_faultOf_12B 1000 x1 x2 S g Z12 → Z12 x1 x2 S) : ∀ f,
    (∀ s S, MT S q T L → st_i S 1000 60 = nI s → s ≤ L → L + 1 ≤ s + f → foP L (sc f T s true) S g → Z12 (nI q) 1 S) ∧ (∀ Z37 : Int32 → xm_S → Prop, (∀ x1 S, wp_X12_faultOf_37B 1000 x1 S g Z12 Z37 → Z37 x1 S) → ∀ s S x, MT S q T L → st_i S 1000 60 = nI s → s ≤ L → L ≤ s + f → foP L (sAT f T s x) S g → Z37 (nI q) S) := by
  intro f
  induction f with
  | zero =>
    refine ⟨fun s S _ _ h1 h2 _ => absurd h1 (by omega), fun Z37 hZ37 s S x M hs h1 h2 h => ?_⟩
    have hs0 : T s = 0 := M.2.2.1.2.2 s h2
    unfold sAT at h
    rw [if_neg (by omega)] at h
    refine hZ37 _ _ ?_
    unfold wp_X12_faultOf_37B
    refine ⟨M.1.1, pm_takes (c := 44) M hs h1 (by decide) (fun e1 hlt S1 F k1 k2 s1 => absurd e1 (by omega)) (fun e1 S1 F k1 k2 s1 => ⟨fun _ => ?_, fun e => absurd rfl e⟩)⟩
    exact pm_fo58 hZ (fun e => absurd e (by omega)) (MT_F M F) s1 h1 (foP_k h F)
  | succ f ih =>
    have A : ∀ s S, MT S q T L → st_i S 1000 60 = nI s → s ≤ L → L + 1 ≤ s + (f + 1) → foP L (sc (f + 1) T s true) S g → Z12 (nI q) 1 S := by
      intro s S M hs h1 h2 h
      refine hZ _ _ _ ?_
      unfold wp_X12_faultOf_12B
      refine ⟨fun e => absurd e (by decide), fun _ => ⟨M.1.1, pm_takes (c := 42) M hs h1 (by decide) (fun e1 hlt S1 F k1 k2 s1 => ⟨fun _ => ?_, fun e => absurd e (by decide)⟩) (fun e1 S1 F k1 k2 s1 => ⟨fun e => absurd rfl e, fun _ => ?_⟩)⟩⟩
      · rw [sc_star e1] at h
        exact pm_fo58 (f := f) hZ (fun e S' M' hs' h' => ih.1 (s + 1 + 1) S' M' hs' (TX_n M.2.2.1 (s := s + 1) (by omega)) (by omega) h') (MT_F M F) s1 hlt (foP_k h F)
      · have M1 := MT_F M F
        have hle := rt_le M.2.2.1 h1
        refine ⟨M1.1.1, pm_rt M1 s1 h1 fun S2 F2 s2 => ?_⟩
        refine ⟨fun t ht hd hsg => ⟨fun _ => ?_, fun e => absurd e (by decide)⟩, fun hn => ⟨fun e => absurd rfl e, fun _ => ⟨(MT_F M1 F2).1.1, ?_⟩⟩⟩
        · rw [sc_good (s' := (rt T s).1) (t := t) (fun hh => e1 hh.2) (by rw [← ht])] at h
          have := hle.2.2 (by rw [ht]; exact fun hh => by cases hh)
          unfold wp_X12_faultOf_37
          intro Z37 hZ37
          exact ih.2 Z37 hZ37 _ S2 _ (MT_F M1 F2) s2 hle.2.1 (by omega) (foP_k h (xf_tr F F2))
        · rw [sc_bad (s' := (rt T s).1) (fun hh => e1 hh.2) (by rw [← hn])] at h
          rw [s2]
          exact h S2 (xf_tr F F2)
    refine ⟨A, fun Z37 hZ37 s S x M hs h1 h2 h => ?_⟩
    refine hZ37 _ _ ?_
    unfold wp_X12_faultOf_37B
    unfold sAT at h
    refine ⟨M.1.1, pm_takes (c := 44) M hs h1 (by decide) (fun e1 hlt S1 F k1 k2 s1 => ⟨fun e => absurd e (by decide), fun _ => ?_⟩) (fun e1 S1 F k1 k2 s1 => ⟨fun _ => ?_, fun e => absurd rfl e⟩)⟩
    · rw [if_pos e1] at h
      have h := foP_cs h
      have M1 := MT_F M F
      have hle := rt_le M.2.2.1 (show s + 1 ≤ L from hlt)
      refine ⟨M1.1.1, pm_rt M1 s1 hlt fun S2 F2 s2 => ?_⟩
      refine ⟨fun t ht hd hsg => ⟨fun _ => ?_, fun e => absurd e (by decide)⟩, fun hn => ⟨fun e => absurd rfl e, fun _ => ⟨(MT_F M1 F2).1.1, ?_⟩⟩⟩
      · rw [sc_good (s' := (rt T (s + 1)).1) (t := t) (fun hh => by cases hh.1) (by rw [← ht])] at h
        have := hle.2.2 (by rw [ht]; exact fun hh => by cases hh)
        exact ih.2 Z37 hZ37 _ S2 _ (MT_F M1 F2) s2 hle.2.1 (by omega) (foP_k h (xf_tr F F2))
      · rw [sc_bad (s' := (rt T (s + 1)).1) (fun hh => by cases hh.1) (by rw [← hn])] at h
        rw [s2]
        exact h S2 (xf_tr F F2)
    · rw [if_neg e1] at h
      exact pm_fo58 hZ (fun e S' M' hs' h' => A (s + 1) S' M' hs' (TX_n M.2.2.1 (s := s) (by omega)) (by omega) h') (MT_F M F) s1 h1 (foP_k h F)
/-- the model's object, with the text of one range -/
def MX (S : xm_S) (q : Nat) (T : Nat → Nat) (L : Nat) : Prop := MS S ∧ q < 155 ∧ TX T L ∧ st_i S 1026 q = nI L ∧ ∀ s, s < L → st_i S 1025 (40 * q + s) = nI (T s)
theorem MX_F {S S' : xm_S} {q L : Nat} {T : Nat → Nat} (h : MX S q T L) (F : xf_F fB S S') : MX S' q T L :=
  ⟨MS_F h.1 F, h.2.1, h.2.2.1, (F.2.2.2 _ _ rfl).trans h.2.2.2.1, fun s e => (F.2.2.2 _ _ rfl).trans (h.2.2.2.2 s e)⟩
theorem MX_T {S : xm_S} {q L : Nat} {T : Nat → Nat} (h : MX S q T L) (e : st_i S 1000 61 = nI q) : MT S q T L := ⟨h.1, h.2.1, h.2.2.1, e, h.2.2.2⟩
theorem pm_faultOf {S : xm_S} {q L : Nat} {T : Nat → Nat} {g : Int32 → xm_S → Prop} (M : MX S q T L) (h : ∀ S', xf_F fB S S' → g (sfo L (sc 41 T 0 true)) S') : wp_X12_faultOf 1000 (nI q) S g := by
  unfold wp_X12_faultOf
  refine ⟨M.1.1, fun S25 e25 S27 e27 => ?_⟩
  have F : xf_F fB S S27 := by subst e27 e25; exact xf_pi (xf_pi (xf_rfl _ _) rfl) rfl
  unfold wp_X12_faultOf_12
  intro Z12 hZ
  have hL40 := M.2.2.1.1
  refine (pm_foAB hZ 41).1 0 S27 (MX_T (MX_F M F) ?_) ?_ (Nat.zero_le _) (by omega) fun S' F' => h S' (xf_tr F (fAB F'))
  · rw [e27, st_i_pi_n _ _ _ _ _ _ fun hh => by omega, e25]; exact st_i_pi_s _ _ _ _
  · rw [e27]; exact st_i_pi_s _ _ _ _
