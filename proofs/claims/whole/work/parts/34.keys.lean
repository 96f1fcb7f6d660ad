-- keys of the reference, and its tests of a number
theorem nI_z {n : Nat} (h : n < 2 ^ 31) : nI n = 0 ↔ n = 0 := by rw [← nI_0, nI_eq h (by decide)]
theorem nI_o {n : Nat} (h : n < 2 ^ 31) : nI n = 1 ↔ n = 1 := nI_eq (b := 1) h (by decide)
theorem nI_l0 {n : Nat} (h : n < 2 ^ 31) : nI n ≤ 0 ↔ n = 0 := by rw [← nI_0, nI_leI h (by decide)]; omega
def ky (sc e M m p v : Nat) : Nat := ((if sc = 1 then e * 1331 else 0) + (if sc = 2 then (p * 11 + M) * 11 + m else (M * 11 + m) * 11 + p)) * 11 + (if v = 0 then 10 else v)
def kyN (sc n : Nat) : Nat := ky sc (n / 10000) (n / 1000 % 10) (n / 100 % 10) (n / 10 % 10) (n % 10)
def kyT (sc : Nat) (t : tt) : Nat := ky sc t.2.1 t.2.2.1 t.2.2.2.1 t.2.2.2.2.1 t.2.2.2.2.2.1
def tOK (t : tt) : Prop := t.1 ≤ 6 ∧ t.2.1 ≤ 9 ∧ t.2.2.1 ≤ 9 ∧ t.2.2.2.1 ≤ 9 ∧ t.2.2.2.2.1 ≤ 9 ∧ t.2.2.2.2.2.1 ≤ 9 ∧ 1 ≤ t.2.2.2.2.2.2 ∧ t.2.2.2.2.2.2 ≤ 3
def bMaj (sg M many : Nat) : Bool := if sg = 5 then decide (0 < M) else decide (many = 1)
def bMin (sg m : Nat) : Bool := decide (sg = 6 ∨ 0 < m)
def nxt (sg M m p many : Nat) : Nat × Nat × Nat := if bMaj sg M many then (M + 1, 0, 0) else if bMin sg m then (M, m + 1, 0) else (M, m, p + 1)
def tsv (sc n : Nat) (t : tt) : Bool := if t.1 = 0 then decide (kyN sc n = kyT sc t) else if t.1 = 1 then decide (kyT sc t < kyN sc n) else if t.1 = 2 then decide (kyN sc n < kyT sc t) else if t.1 = 3 then decide (kyT sc t ≤ kyN sc n) else if t.1 = 4 then decide (kyN sc n ≤ kyT sc t) else
  decide (kyT sc t ≤ kyN sc n ∧ kyN sc n < ky sc t.2.1 (nxt t.1 t.2.2.1 t.2.2.2.1 t.2.2.2.2.1 t.2.2.2.2.2.2).1 (nxt t.1 t.2.2.1 t.2.2.2.1 t.2.2.2.2.1 t.2.2.2.2.2.2).2.1 (nxt t.1 t.2.2.1 t.2.2.2.1 t.2.2.2.2.1 t.2.2.2.2.2.2).2.2 0)
def prv (n : Nat) (t : tt) : Bool := decide (0 < t.2.2.2.2.2.1 ∧ 1000 * t.2.1 + 100 * t.2.2.1 + 10 * t.2.2.2.1 + t.2.2.2.2.1 = n / 10)
theorem ky_lt {sc e M m p v : Nat} (h1 : e ≤ 10) (h2 : M ≤ 10) (h3 : m ≤ 10) (h4 : p ≤ 10) (h5 : v ≤ 10) : ky sc e M m p v < 1000000 := by
  unfold ky
  split <;> split <;> split <;> omega
theorem kyN_lt {sc n : Nat} (h : n < 100000) : kyN sc n < 1000000 := ky_lt (by omega) (by omega) (by omega) (by omega) (by omega)
theorem kyT_lt {sc : Nat} {t : tt} (h : tOK t) : kyT sc t < 1000000 := by
  obtain ⟨h1, h2, h3, h4, h5, h6, h7⟩ := h
  exact ky_lt (by omega) (by omega) (by omega) (by omega) (by omega)
theorem pm_key {sc e M m p v : Nat} {S : xm_S} {g : Int32 → xm_S → Prop} (hs : sc ≤ 2) (h5 : v ≤ 10) (h : g (nI (ky sc e M m p v)) S) : wp_X12_key (nI sc) (nI e) (nI M) (nI m) (nI p) (nI v) S g := by
  have C : ∀ r : Nat, (r = if v = 0 then 10 else v) → wp_X12_key_12 (nI sc) (nI e) (nI M) (nI m) (nI p) (nI r) S g := by
    intro r er
    unfold wp_X12_key_12 wp_X12_key_46 wp_X12_key_62
    have E2 : nI sc = nI 2 ↔ sc = 2 := nI_eq (by omega) (by decide)
    have E1 : nI sc = 1 ↔ sc = 1 := nI_o (by omega)
    rw [E1, E2, show (0 : Int32) = nI 0 from rfl]
    simp only [pk_mul, nI_add]
    refine ⟨fun a2 => ⟨fun a1 => ?_, fun a1 => ?_⟩, fun a2 => ⟨fun a1 => ?_, fun a1 => ?_⟩⟩
    · rw [show ky sc e M m p v = (0 + ((M * 11 + m) * 11 + p)) * 11 + r by unfold ky; rw [if_neg a1, if_neg a2, er]] at h; exact h
    · rw [show ky sc e M m p v = (e * 1331 + ((M * 11 + m) * 11 + p)) * 11 + r by unfold ky; rw [if_pos a1, if_neg a2, er]] at h; exact h
    · rw [show ky sc e M m p v = (0 + ((p * 11 + M) * 11 + m)) * 11 + r by unfold ky; rw [if_neg a1, if_pos a2, er]] at h; exact h
    · omega
  unfold wp_X12_key
  rw [nI_z (n := v) (by omega)]
  refine ⟨fun a => C v (by rw [if_neg a]), fun a => C 10 (by rw [if_pos a])⟩
theorem pm_keyOf {sc n : Nat} {S : xm_S} {g : Int32 → xm_S → Prop} (hs : sc ≤ 2) (hn : n < 100000) (h : g (nI (kyN sc n)) S) : wp_X12_keyOf (nI sc) (nI n) S g := by
  unfold wp_X12_keyOf
  rw [pk_div (a := n) (d := 10000) (by omega) (by decide) (by decide), pk_div (a := n) (d := 1000) (by omega) (by decide) (by decide), pk_div (a := n) (d := 100) (by omega) (by decide) (by decide), pk_rem (a := n) (d := 10) (by omega) (by decide) (by decide), pk_div (a := n) (d := 10) (by omega) (by decide) (by decide), pk_rem (a := n / 1000) (d := 10) (by omega) (by decide) (by decide), pk_rem (a := n / 100) (d := 10) (by omega) (by decide) (by decide), pk_rem (a := n / 10) (d := 10) (by omega) (by decide) (by decide)]
  exact pm_key hs (by omega) h
theorem rv3_ok {T : Nat → Nat} {s sg e M m p many : Nat} {t : tt} (h1 : sg ≤ 6 ∧ e ≤ 9 ∧ M ≤ 9 ∧ m ≤ 9 ∧ p ≤ 9 ∧ 1 ≤ many ∧ many ≤ 3) (h : (rv3 T s sg e M m p many).2 = some t) : tOK t := by
  obtain ⟨a1, a2, a3, a4, a5, a6, a7⟩ := h1
  unfold rv3 at h
  split at h
  · split at h
    next h2 =>
      have := dg_n h2
      rw [← Option.some.inj h]
      exact ⟨a1, a2, a3, a4, a5, by show T (s + 1) - 48 ≤ 9; omega, a6, a7⟩
    next => cases h
  · rw [← Option.some.inj h]
    exact ⟨a1, a2, a3, a4, a5, Nat.zero_le _, a6, a7⟩
theorem rv2b_ok {T : Nat → Nat} {s sg e M m : Nat} {t : tt} (h1 : sg ≤ 6 ∧ e ≤ 9 ∧ M ≤ 9 ∧ m ≤ 9) (h : (rv2b T s sg e M m).2 = some t) : tOK t := by
  obtain ⟨a1, a2, a3, a4⟩ := h1
  unfold rv2b at h
  split at h
  · split at h
    next h2 => have := dg_n h2; exact rv3_ok ⟨a1, a2, a3, a4, by omega, by omega, by omega⟩ h
    next => cases h
  · exact rv3_ok ⟨a1, a2, a3, a4, by omega, by omega, by omega⟩ h
theorem rv2_ok {T : Nat → Nat} {s sg e M : Nat} {t : tt} (h1 : sg ≤ 6 ∧ e ≤ 9 ∧ M ≤ 9) (h : (rv2 T s sg e M).2 = some t) : tOK t := by
  obtain ⟨a1, a2, a3⟩ := h1
  unfold rv2 at h
  split at h
  · split at h
    next h2 => have := dg_n h2; exact rv2b_ok ⟨a1, a2, a3, by omega⟩ h
    next => cases h
  · exact rv3_ok ⟨a1, a2, a3, by omega, by omega, by omega, by omega⟩ h
theorem rv_ok {T : Nat → Nat} {s sg : Nat} {t : tt} (h1 : sg ≤ 6) (h : (rv T s sg).2 = some t) : tOK t := by
  unfold rv at h
  split at h
  next h0 =>
    have := dg_n h0
    split at h
    · split at h
      next h2 => have := dg_n h2; exact rv2_ok ⟨h1, by omega, by omega⟩ h
      next => cases h
    · exact rv2_ok ⟨h1, by omega, by omega⟩ h
  next => cases h
theorem rt_ok {T : Nat → Nat} {s : Nat} {t : tt} (h : (rt T s).2 = some t) : tOK t := by
  unfold rt at h
  split at h
  · exact rv_ok (by decide) h
  · split at h
    · split at h
      · exact rv_ok (by decide) h
      · exact rv_ok (by decide) h
    · split at h
      · split at h
        · exact rv_ok (by decide) h
        · exact rv_ok (by decide) h
      · split at h
        · exact rv_ok (by decide) h
        · split at h
          · exact rv_ok (by decide) h
          · cases h
theorem pm_288 {S : xm_S} {sc e a b c its that : Nat} {g : Int32 → xm_S → Prop} (M : MS S) (hs : sc ≤ 2) (he : e ≤ 10) (ha : a ≤ 10) (hb : b ≤ 10) (hc : c ≤ 10) (hi : its < 1000000) (ht : that < 1000000) (h0 : st_i S 1064 0 = nI e) (h : g (bI (decide (that ≤ its ∧ its < ky sc e a b c 0))) S) : wp_X12_isTestOf_288 1000 (nI sc) (nI its) (nI that) (nI a) (nI b) (nI c) S g := by
  have hk := ky_lt (sc := sc) (v := 0) he ha hb hc (by decide)
  unfold wp_X12_isTestOf_288 wp_X12_isTestOf_321 wp_X12_isTestOf_322
  rw [nI_ltI (a := its) (b := that) (by omega) (by omega)]
  refine ⟨fun x => ⟨.inl rfl, ?_⟩, fun x => ⟨M.1, _, MS_r M 63, _, MS_t M 63, vp_in_nI (n := 0) (show 0 < 5 by decide) (by decide), ?_⟩⟩
  · rw [decide_eq_false (by omega)] at h; exact h
  · have e0 : st_i S (1001 + 63) ((0 : Int32)).toNatClampNeg = nI e := h0
    rw [e0]
    refine pm_key (v := 0) hs (by decide) ?_
    rw [nI_leI (by omega) (by omega)]
    refine ⟨fun y => ⟨.inl rfl, ?_⟩, fun y => ⟨.inr rfl, ?_⟩⟩
    · rw [decide_eq_false (by omega)] at h; exact h
    · rw [decide_eq_true (by omega)] at h; exact h
theorem pm_217 {S : xm_S} {sc its that : Nat} {bj bn : Bool} {t : tt} {g : Int32 → xm_S → Prop} (M : MS S) (hs : sc ≤ 2) (ok : tOK t) (hd : TD S t) (hi : its < 1000000) (ht : that < 1000000)
    (h : g (bI (decide (that ≤ its ∧ its < (if bj then ky sc t.2.1 (t.2.2.1 + 1) 0 0 0 else if bn then ky sc t.2.1 t.2.2.1 (t.2.2.2.1 + 1) 0 0 else ky sc t.2.1 t.2.2.1 t.2.2.2.1 (t.2.2.2.2.1 + 1) 0)))) S) : wp_X12_isTestOf_217 1000 (nI sc) (nI its) (nI that) (bI bj) (bI bn) S g := by
  obtain ⟨o1, o2, o3, o4, o5, o6, o7⟩ := ok
  obtain ⟨d0, d1, d2, d3, d4, d5⟩ := hd
  have e1 : st_i S (1001 + 63) ((1 : Int32)).toNatClampNeg = nI t.2.2.1 := d1
  have e2 : st_i S (1001 + 63) ((nI 2)).toNatClampNeg = nI t.2.2.2.1 := d2
  have e3 : st_i S (1001 + 63) ((nI 3)).toNatClampNeg = nI t.2.2.2.2.1 := d3
  unfold wp_X12_isTestOf_217
  refine ⟨M.1, _, MS_r M 63, _, MS_t M 63, vp_in_nI (n := 1) (show 1 < 5 by decide) (by decide), ?_⟩
  rw [e1]
  refine bI_c (fun hj => ?_) (fun hj => ?_)
  · subst hj
    unfold wp_X12_isTestOf_235
    intro y ey
    rw [nI_1] at ey
    subst ey
    refine ⟨fun e => absurd e (by decide), fun _ => ?_⟩
    unfold wp_X12_isTestOf_264
    refine ⟨fun _ => ?_, fun e => absurd e (by decide)⟩
    unfold wp_X12_isTestOf_276
    exact pm_288 (a := t.2.2.1 + 1) (b := 0) (c := 0) M hs (by omega) (by omega) (by decide) (by decide) hi ht d0 h
  · subst hj
    unfold wp_X12_isTestOf_235
    intro y ey
    rw [show (0 : Int32) = nI 0 from rfl, nI_add] at ey
    subst ey
    refine ⟨fun _ => ⟨M.1, _, MS_r M 63, _, MS_t M 63, vp_in_nI (n := 2) (show 2 < 5 by decide) (by decide), ?_⟩, fun e => absurd rfl e⟩
    rw [e2]
    unfold wp_X12_isTestOf_263 wp_X12_isTestOf_264
    refine bI_c (fun hn => ?_) (fun hn => ?_)
    · subst hn
      refine ⟨fun e => absurd rfl e, fun _ => ⟨fun e => absurd e (by decide), fun _ => ?_⟩⟩
      unfold wp_X12_isTestOf_276
      rw [nI_1]
      exact pm_288 (a := t.2.2.1 + 0) (b := t.2.2.2.1 + 1) (c := 0) M hs (by omega) (by omega) (by omega) (by decide) hi ht d0 h
    · subst hn
      refine ⟨fun e => absurd rfl e, fun _ => ⟨fun _ => ⟨M.1, _, MS_r M 63, _, MS_t M 63, vp_in_nI (n := 3) (show 3 < 5 by decide) (by decide), ?_⟩, fun e => absurd rfl e⟩⟩
      rw [e3, nI_1, show (0 : Int32) = nI 0 from rfl, nI_add]
      exact pm_288 (a := t.2.2.1 + 0) (b := t.2.2.2.1 + 0) (c := t.2.2.2.2.1 + 1) M hs (by omega) (by omega) (by omega) (by omega) hi ht d0 h
theorem pm_187 {S : xm_S} {sc its that : Nat} {bj : Bool} {t : tt} {g : Int32 → xm_S → Prop} (M : MS S) (hs : sc ≤ 2) (ok : tOK t) (hd : TD S t) (hsg : st_i S 1000 62 = nI t.1) (hi : its < 1000000) (ht : that < 1000000)
    (h : g (bI (decide (that ≤ its ∧ its < (if bj then ky sc t.2.1 (t.2.2.1 + 1) 0 0 0 else if bMin t.1 t.2.2.2.1 then ky sc t.2.1 t.2.2.1 (t.2.2.2.1 + 1) 0 0 else ky sc t.2.1 t.2.2.1 t.2.2.2.1 (t.2.2.2.2.1 + 1) 0)))) S) : wp_X12_isTestOf_187 1000 (nI sc) (nI its) (nI that) (bI bj) S g := by
  have o1 := ok.1
  have o4 := ok.2.2.2.1
  have e2 : st_i S (1001 + 63) ((nI 2)).toNatClampNeg = nI t.2.2.2.1 := hd.2.2.1
  unfold wp_X12_isTestOf_187 wp_X12_isTestOf_216 wp_X12_isTestOf_212
  refine bI_c' (fun hj => ?_) (fun hj => ⟨M.1, ?_⟩)
  · subst hj
    exact pm_217 (bj := true) (bn := false) M hs ok hd hi ht h
  · subst hj
    rw [hsg, nI_eq (by omega) (by decide)]
    refine ⟨fun e => ?_, fun e => ⟨_, MS_r M 63, _, MS_t M 63, vp_in_nI (n := 2) (show 2 < 5 by decide) (by decide), ?_⟩⟩
    · rw [show bMin t.1 t.2.2.2.1 = true from decide_eq_true (.inl e)] at h
      exact pm_217 (bj := false) (bn := true) M hs ok hd hi ht h
    · rw [e2, nI_l0 (by omega)]
      refine ⟨fun z => ?_, fun z => ?_⟩
      · rw [show bMin t.1 t.2.2.2.1 = false from decide_eq_false (fun hh => hh.elim e (fun y => by omega))] at h
        exact pm_217 (bj := false) (bn := false) M hs ok hd hi ht h
      · rw [show bMin t.1 t.2.2.2.1 = true from decide_eq_true (.inr (by omega))] at h
        exact pm_217 (bj := false) (bn := true) M hs ok hd hi ht h
theorem pm_b148 {S : xm_S} {b : Bool} {c : Prop} {g : Int32 → xm_S → Prop} (e : b = true ↔ c) (h : g (bI b) S) : (c → wp_X12_isTestOf_148 1000 (1 : Int32) S g) ∧ (¬ c → wp_X12_isTestOf_148 1000 (0 : Int32) S g) := by
  unfold wp_X12_isTestOf_148
  refine ⟨fun hc => ⟨.inr rfl, ?_⟩, fun hc => ⟨.inl rfl, ?_⟩⟩
  · rw [e.mpr hc] at h; exact h
  · rw [show b = false by cases b; rfl; exact absurd (e.mp rfl) hc] at h; exact h
theorem tsv_ge {sc n : Nat} {t : tt} (h5 : 5 ≤ t.1) : tsv sc n t = decide (kyT sc t ≤ kyN sc n ∧ kyN sc n < (if bMaj t.1 t.2.2.1 t.2.2.2.2.2.2 then ky sc t.2.1 (t.2.2.1 + 1) 0 0 0 else if bMin t.1 t.2.2.2.1 then ky sc t.2.1 t.2.2.1 (t.2.2.2.1 + 1) 0 0 else ky sc t.2.1 t.2.2.1 t.2.2.2.1 (t.2.2.2.2.1 + 1) 0)) := by
  unfold tsv nxt
  rw [if_neg (by omega), if_neg (by omega), if_neg (by omega), if_neg (by omega), if_neg (by omega)]
  by_cases h1 : bMaj t.1 t.2.2.1 t.2.2.2.2.2.2 = true
  · rw [if_pos h1, if_pos h1]
  · rw [if_neg h1, if_neg h1]
    by_cases h2 : bMin t.1 t.2.2.2.1 = true
    · rw [if_pos h2, if_pos h2]
    · rw [if_neg h2, if_neg h2]
theorem pm_isTestOf {S : xm_S} {sc n : Nat} {t : tt} {g : Int32 → xm_S → Prop} (M : MS S) (hs : sc ≤ 2) (hn : n < 100000) (ok : tOK t) (hd : TD S t) (hsg : st_i S 1000 62 = nI t.1) (h : g (bI (tsv sc n t)) S) : wp_X12_isTestOf 1000 (nI sc) (nI n) S g := by
  have hi := kyN_lt (sc := sc) hn
  have ht := kyT_lt (sc := sc) ok
  have e0 : st_i S (1001 + 63) ((0 : Int32)).toNatClampNeg = nI t.2.1 := hd.1
  have e1 : st_i S (1001 + 63) ((1 : Int32)).toNatClampNeg = nI t.2.2.1 := hd.2.1
  have e2 : st_i S (1001 + 63) ((nI 2)).toNatClampNeg = nI t.2.2.2.1 := hd.2.2.1
  have e3 : st_i S (1001 + 63) ((nI 3)).toNatClampNeg = nI t.2.2.2.2.1 := hd.2.2.2.1
  have e4 : st_i S (1001 + 63) ((nI 4)).toNatClampNeg = nI t.2.2.2.2.2.1 := hd.2.2.2.2.1
  have em := hd.2.2.2.2.2
  obtain ⟨o1, o2, o3, o4, o5, o6, o7, o8⟩ := ok
  unfold wp_X12_isTestOf
  refine pm_keyOf hs hn ⟨M.1, _, MS_r M 63, _, MS_t M 63, vp_in_nI (n := 0) (show 0 < 5 by decide) (by decide), _, MS_r M 63, _, MS_t M 63, vp_in_nI (n := 1) (show 1 < 5 by decide) (by decide), _, MS_r M 63, _, MS_t M 63, vp_in_nI (n := 2) (show 2 < 5 by decide) (by decide), _, MS_r M 63, _, MS_t M 63, vp_in_nI (n := 3) (show 3 < 5 by decide) (by decide), _, MS_r M 63, _, MS_t M 63, vp_in_nI (n := 4) (show 4 < 5 by decide) (by decide), ?_⟩
  rw [e0, e1, e2, e3, e4]
  refine pm_key hs (by omega) ⟨M.1, ?_⟩
  rw [show ky sc t.2.1 t.2.2.1 t.2.2.2.1 t.2.2.2.2.1 t.2.2.2.2.2.1 = kyT sc t from rfl, hsg, em, nI_leI (by omega) (by omega), nI_eq (a := t.1) (b := 5) (by omega) (by omega), nI_eq (a := t.1) (b := 3) (by omega) (by omega), nI_eq (a := t.1) (b := 2) (by omega) (by omega), nI_o (n := t.1) (by omega), nI_z (n := t.1) (by omega), nI_o (n := t.2.2.2.2.2.2) (by omega)]
  refine ⟨fun h5 => ⟨fun n5 => ?_, fun y5 => ⟨_, MS_r M 63, _, MS_t M 63, vp_in_nI (n := 1) (show 1 < 5 by decide) (by decide), ?_⟩⟩, fun h5 => ⟨fun x0 => ⟨fun x1 => ⟨fun x2 => ⟨fun x3 => ?_, fun x3 => ?_⟩, fun x2 => ?_⟩, fun x1 => ?_⟩, fun x0 => ?_⟩⟩
  · rw [tsv_ge h5] at h
    refine ⟨fun c => ?_, fun c => ?_⟩
    · rw [show bMaj t.1 t.2.2.1 t.2.2.2.2.2.2 = false by unfold bMaj; rw [if_neg n5]; exact decide_eq_false c] at h
      exact pm_187 (bj := false) M hs ⟨o1, o2, o3, o4, o5, o6, o7, o8⟩ hd hsg hi ht h
    · rw [show bMaj t.1 t.2.2.1 t.2.2.2.2.2.2 = true by unfold bMaj; rw [if_neg n5]; exact decide_eq_true c] at h
      exact pm_187 (bj := true) M hs ⟨o1, o2, o3, o4, o5, o6, o7, o8⟩ hd hsg hi ht h
  · rw [tsv_ge h5] at h
    rw [e1, nI_l0 (by omega)]
    refine ⟨fun c => ?_, fun c => ?_⟩
    · rw [show bMaj t.1 t.2.2.1 t.2.2.2.2.2.2 = false by unfold bMaj; rw [if_pos y5]; exact decide_eq_false (by omega)] at h
      exact pm_187 (bj := false) M hs ⟨o1, o2, o3, o4, o5, o6, o7, o8⟩ hd hsg hi ht h
    · rw [show bMaj t.1 t.2.2.1 t.2.2.2.2.2.2 = true by unfold bMaj; rw [if_pos y5]; exact decide_eq_true (by omega)] at h
      exact pm_187 (bj := true) M hs ⟨o1, o2, o3, o4, o5, o6, o7, o8⟩ hd hsg hi ht h
  · have x4 : t.1 = 4 := by omega
    unfold tsv at h
    rw [if_neg x0, if_neg x1, if_neg x2, if_neg x3, if_pos x4] at h
    rw [nI_ltI (by omega) (by omega)]
    have := pm_b148 (c := ¬ kyT sc t < kyN sc n) (by rw [decide_eq_true_iff]; omega) h
    exact ⟨fun c => this.2 (fun hh => hh c), fun c => this.1 c⟩
  · unfold tsv at h
    rw [if_neg x0, if_neg x1, if_neg x2, if_pos x3] at h
    rw [nI_ltI (by omega) (by omega)]
    have := pm_b148 (c := ¬ kyN sc n < kyT sc t) (by rw [decide_eq_true_iff]; omega) h
    exact ⟨fun c => this.2 (fun hh => hh c), fun c => this.1 c⟩
  · unfold tsv at h
    rw [if_neg x0, if_neg x1, if_pos x2] at h
    rw [nI_leI (by omega) (by omega)]
    have := pm_b148 (c := ¬ kyT sc t ≤ kyN sc n) (by rw [decide_eq_true_iff]; omega) h
    exact ⟨fun c => this.2 (fun hh => hh c), fun c => this.1 c⟩
  · unfold tsv at h
    rw [if_neg x0, if_pos x1] at h
    rw [nI_leI (by omega) (by omega)]
    have := pm_b148 (c := ¬ kyN sc n ≤ kyT sc t) (by rw [decide_eq_true_iff]; omega) h
    exact ⟨fun c => this.2 (fun hh => hh c), fun c => this.1 c⟩
  · unfold tsv at h
    rw [if_pos x0] at h
    rw [nI_eq (by omega) (by omega)]
    have := pm_b148 (c := kyN sc n = kyT sc t) (by rw [decide_eq_true_iff]) h
    exact ⟨fun c => this.2 c, fun c => this.1 c⟩
theorem pm_isOfPreview {S : xm_S} {n : Nat} {t : tt} {g : Int32 → xm_S → Prop} (M : MS S) (hn : n < 100000) (ok : tOK t) (hd : TD S t) (h : g (bI (prv n t)) S) : wp_X12_isOfPreview 1000 (nI n) S g := by
  have e0 : st_i S (1001 + 63) ((0 : Int32)).toNatClampNeg = nI t.2.1 := hd.1
  have e1 : st_i S (1001 + 63) ((1 : Int32)).toNatClampNeg = nI t.2.2.1 := hd.2.1
  have e2 : st_i S (1001 + 63) ((nI 2)).toNatClampNeg = nI t.2.2.2.1 := hd.2.2.1
  have e3 : st_i S (1001 + 63) ((nI 3)).toNatClampNeg = nI t.2.2.2.2.1 := hd.2.2.2.1
  have e4 : st_i S (1001 + 63) ((nI 4)).toNatClampNeg = nI t.2.2.2.2.2.1 := hd.2.2.2.2.1
  obtain ⟨o1, o2, o3, o4, o5, o6, o7, o8⟩ := ok
  unfold wp_X12_isOfPreview wp_X12_isOfPreview_57 wp_X12_isOfPreview_58
  refine ⟨M.1, _, MS_r M 63, _, MS_t M 63, vp_in_nI (n := 4) (show 4 < 5 by decide) (by decide), ?_⟩
  rw [e4, nI_l0 (by omega)]
  refine ⟨fun z => ⟨.inl rfl, ?_⟩, fun z => ⟨_, MS_r M 63, _, MS_t M 63, vp_in_nI (n := 0) (show 0 < 5 by decide) (by decide), _, MS_r M 63, _, MS_t M 63, vp_in_nI (n := 1) (show 1 < 5 by decide) (by decide), _, MS_r M 63, _, MS_t M 63, vp_in_nI (n := 2) (show 2 < 5 by decide) (by decide), _, MS_r M 63, _, MS_t M 63, vp_in_nI (n := 3) (show 3 < 5 by decide) (by decide), ?_⟩⟩
  · rw [show prv n t = false from decide_eq_false (by omega)] at h; exact h
  · rw [e0, e1, e2, e3, pk_div (a := n) (d := 10) (by omega) (by decide) (by decide)]
    simp only [pk_mul, nI_add]
    rw [nI_eq (by omega) (by omega)]
    refine ⟨fun c => ⟨.inl trivial, ?_⟩, fun c => ⟨.inr trivial, ?_⟩⟩
    · rw [show prv n t = false from decide_eq_false (fun hh => c hh.2)] at h; exact h
    · rw [show prv n t = true from decide_eq_true ⟨by omega, c⟩] at h; exact h
