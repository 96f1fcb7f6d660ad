-- the reference: all choices, by their numbers
-- what doesn't matter of what is asked, and of what is unlocked
theorem Cls_ask {V : VV} {pl : Nat} {ask ask' : Int32} {c : CH} (h : ∀ k, k < vn V 18 0 → bt ask k = bt ask' k) : Cls V pl ask c = Cls V pl ask' c := by
  funext R F
  refine propext ⟨fun C => ⟨fun k hk e => C.1 k hk (by rw [h k hk]; exact e), C.2⟩, fun C => ⟨fun k hk e => C.1 k hk (by rw [← h k hk]; exact e), C.2⟩⟩
theorem Clo_c {V : VV} {pl : Nat} {ul ul' : Nat → Bool} {ask ask' : Int32} {c : CH} (I : Iv V) (o : okc V c) (h : ∀ k, k < vn V 18 0 → bt ask k = bt ask' k) (hu : ∀ p, p < 6 → ul p = ul' p) : Clo V pl ul ask c ↔ Clo V pl ul' ask' c := by
  have e1 : Rs V pl ask c = Rs V pl ask' c := by unfold Rs; rw [Cls_ask h]
  have e2 : Fs V pl ask c = Fs V pl ask' c := by unfold Fs; rw [Cls_ask h]
  have e3 : AllMet V pl ask c ↔ AllMet V pl ask' c := by
    unfold AllMet
    rw [e1, e2]
    exact ⟨fun A => ⟨fun k hk e => A.1 k hk (by rw [h k hk]; exact e), A.2⟩, fun A => ⟨fun k hk e => A.1 k hk (by rw [← h k hk]; exact e), A.2⟩⟩
  have e4 : ∀ p, p < 6 → c p ≠ 0 → pm V pl ul (vi c p) = pm V pl ul' (vi c p) := fun p hp h0 => by
    unfold pm cnI
    rw [(vi_4 I o hp h0).1, hu p hp]
  unfold Clo
  rw [e1, e3]
  exact ⟨fun C => ⟨fun p hp h0 => (e4 p hp h0).symm.trans (C.1 p hp h0), C.2⟩, fun C => ⟨fun p hp h0 => (e4 p hp h0).trans (C.1 p hp h0), C.2⟩⟩
theorem cloB_c {V : VV} {pl : Nat} {ul ul' : Nat → Bool} {ask ask' : Int32} {c : CH} (I : Iv V) (o : okc V c) (h : ∀ k, k < vn V 18 0 → bt ask k = bt ask' k) (hu : ∀ p, p < 6 → ul p = ul' p) : cloB V pl ul ask c = cloB V pl ul' ask' c := Bool.eq_iff_iff.mpr (by rw [cloB_t, cloB_t]; exact Clo_c I o h hu)
theorem chN_ul {V : VV} {pl : Nat} {ul ul' : Nat → Bool} {c : CH} (hu : ∀ p, p < 6 → ul p = ul' p) : ∀ n, n ≤ 6 → chN V pl ul c n = chN V pl ul' c n := by
  intro n
  induction n with
  | zero => intro _; rfl
  | succ n ih =>
    intro hn
    unfold chN chg cnI
    rw [ih (by omega), hu n (by omega)]
theorem leaf_c {V : VV} {pl goal : Nat} {ul ul' : Nat → Bool} {ask ask' : Int32} {c : CH} {st : SS} (I : Iv V) (o : okc V c) (h : ∀ k, k < vn V 18 0 → bt ask k = bt ask' k) (hu : ∀ p, p < 6 → ul p = ul' p) : leaf V pl ul ask goal c st = leaf V pl ul' ask' goal c st := by
  unfold leaf
  rw [chN_ul hu 6 (Nat.le_refl _), cloB_c I o h hu]
theorem gF_c {V : VV} {f f' : CH → SS → SS} (I : Iv V) (hf : ∀ c, okc V c → ∀ s, f c s = f' c s) : ∀ n p c s, p + n = 6 → okc V c → gF V f n p c s = gF V f' n p c s := by
  intro n
  induction n with
  | zero => intro p c s _ o; exact hf c o s
  | succ n ih =>
    intro p c s hp o
    have h4 := (I.1.1 p (by omega)).2.2
    unfold gF
    refine fl_c _ fun d hd s => ih (p + 1) _ s (by omega) fun j hj => ?_
    by_cases e : j = p
    · rw [e, ud_s]; exact dgt_b h4 (by omega)
    · rw [ud_n _ _ _ e]; exact o j hj
theorem ok0 {V : VV} : okc V (fun _ => 0) := fun _ _ => Nat.zero_le _
theorem skF_c {V : VV} {pl goal : Nat} {ul ul' : Nat → Bool} {ask ask' : Int32} (I : Iv V) (h : ∀ k, k < vn V 18 0 → bt ask k = bt ask' k) (hu : ∀ p, p < 6 → ul p = ul' p) : skF V pl ul ask goal = skF V pl ul' ask' goal := gF_c I (fun c o s => leaf_c I o h hu) 6 0 _ _ rfl ok0
-- codes
def dp (code p : Nat) : Nat := code / 5 ^ (5 - p) % 5
theorem dOK_p {V : VV} {code : Nat} (hc : code < 15625) : dOK V 6 0 code = true ↔ ∀ p, p < 6 → dp code p ≤ vn V 2 p := by
  have e : dOK V 6 0 code = (decide (code / 3125 ≤ vn V 2 0) && (decide (code % 3125 / 625 ≤ vn V 2 1) && (decide (code % 3125 % 625 / 125 ≤ vn V 2 2) && (decide (code % 3125 % 625 % 125 / 25 ≤ vn V 2 3) && (decide (code % 3125 % 625 % 125 % 25 / 5 ≤ vn V 2 4) && (decide (code % 3125 % 625 % 125 % 25 % 5 / 1 ≤ vn V 2 5) && true)))))) := rfl
  have d0 : dp code 0 = code / 3125 := by show code / 3125 % 5 = _; omega
  have d1 : dp code 1 = code % 3125 / 625 := by show code / 625 % 5 = _; omega
  have d2 : dp code 2 = code % 3125 % 625 / 125 := by show code / 125 % 5 = _; omega
  have d3 : dp code 3 = code % 3125 % 625 % 125 / 25 := by show code / 25 % 5 = _; omega
  have d4 : dp code 4 = code % 3125 % 625 % 125 % 25 / 5 := by show code / 5 % 5 = _; omega
  have d5 : dp code 5 = code % 3125 % 625 % 125 % 25 % 5 / 1 := by show code / 1 % 5 = _; omega
  rw [e, ← d0, ← d1, ← d2, ← d3, ← d4, ← d5]
  simp only [Bool.and_eq_true, decide_eq_true_eq, and_true]
  constructor
  · intro ⟨h0, h1, h2, h3, h4, h5⟩ p hp
    have : p = 0 ∨ p = 1 ∨ p = 2 ∨ p = 3 ∨ p = 4 ∨ p = 5 := by omega
    rcases this with e | e | e | e | e | e <;> rw [e] <;> assumption
  · intro h
    exact ⟨h 0 (by decide), h 1 (by decide), h 2 (by decide), h 3 (by decide), h 4 (by decide), h 5 (by decide)⟩
theorem cOf_p {V : VV} {c : CH} {code p : Nat} (hc : code < 15625) (hp : p < 6) : cOf V 6 0 c code p = dgt V p (dp code p) := by
  have d0 : dp code 0 = code / 3125 := by show code / 3125 % 5 = _; omega
  have d1 : dp code 1 = code % 3125 / 625 := by show code / 625 % 5 = _; omega
  have d2 : dp code 2 = code % 3125 % 625 / 125 := by show code / 125 % 5 = _; omega
  have d3 : dp code 3 = code % 3125 % 625 % 125 / 25 := by show code / 25 % 5 = _; omega
  have d4 : dp code 4 = code % 3125 % 625 % 125 % 25 / 5 := by show code / 5 % 5 = _; omega
  have d5 : dp code 5 = code % 3125 % 625 % 125 % 25 % 5 / 1 := by show code / 1 % 5 = _; omega
  have e : cOf V 6 0 c code = ud (ud (ud (ud (ud (ud c 0 (dgt V 0 (code / 3125))) 1 (dgt V 1 (code % 3125 / 625))) 2 (dgt V 2 (code % 3125 % 625 / 125))) 3 (dgt V 3 (code % 3125 % 625 % 125 / 25))) 4 (dgt V 4 (code % 3125 % 625 % 125 % 25 / 5))) 5 (dgt V 5 (code % 3125 % 625 % 125 % 25 % 5 / 1)) := rfl
  rw [e, ← d0, ← d1, ← d2, ← d3, ← d4, ← d5]
  have : p = 0 ∨ p = 1 ∨ p = 2 ∨ p = 3 ∨ p = 4 ∨ p = 5 := by omega
  rcases this with e | e | e | e | e | e
  · subst e; rw [ud_n _ _ _ (by decide), ud_n _ _ _ (by decide), ud_n _ _ _ (by decide), ud_n _ _ _ (by decide), ud_n _ _ _ (by decide), ud_s]
  · subst e; rw [ud_n _ _ _ (by decide), ud_n _ _ _ (by decide), ud_n _ _ _ (by decide), ud_n _ _ _ (by decide), ud_s]
  · subst e; rw [ud_n _ _ _ (by decide), ud_n _ _ _ (by decide), ud_n _ _ _ (by decide), ud_s]
  · subst e; rw [ud_n _ _ _ (by decide), ud_n _ _ _ (by decide), ud_s]
  · subst e; rw [ud_n _ _ _ (by decide), ud_s]
  · subst e; rw [ud_s]
/-- while choices are gone through: what stays -/
def MC (S S1 : xm_S) : Prop := MF S S1 ∧ (∀ n k, n ≠ 1034 → n ≠ 1035 → n ≠ 1036 → st_i S1 n k = st_i S n k) ∧ ∀ n k, st_l S1 n k = st_l S n k
theorem MC_r (S : xm_S) : MC S S := ⟨MF_r S, fun _ _ _ _ _ => rfl, fun _ _ => rfl⟩
theorem MC_t {S S1 S2 : xm_S} (h : MC S S1) (h2 : MC S1 S2) : MC S S2 := ⟨MF_t h.1 h2.1, fun n k a b d => (h2.2.1 n k a b d).trans (h.2.1 n k a b d), fun n k => (h2.2.2 n k).trans (h.2.2 n k)⟩
theorem MO_C {S S1 : xm_S} (h : MO S S1) : MC S S1 := ⟨h.1, fun n k _ b _ => h.2.1 n k b, h.2.2⟩
theorem MC_i {S S1 : xm_S} {n k : Nat} {v : Int32} (h : MC S S1) (hn : n = 1034 ∨ n = 1036) : MC S (st_pi S1 n k v) := MC_t h ⟨MF_i (MF_r S1) (by omega), fun m j a b d => st_i_pi_n _ _ _ _ _ _ (by omega), fun _ _ => rfl⟩
theorem MC_L {S S1 : xm_S} {V : VV} (h : MC S S1) (L : LRs S V) : LRs S1 V := LRs_k L (fun n k hn => h.2.1 n k (by omega) (by omega) (by omega)) h.2.2
theorem m_chooses {S : xm_S} {W : VV} {code : Nat} {g : Int32 → xm_S → Prop} (M : MR S W) (I : Iv W) (L : LRs S W) (hc : code < 15625) (h : ∀ S', MC S S' → (∀ k, st_i S' 1036 k = st_i S 1036 k) → (dOK W 6 0 code = true → Mch S' (cOf W 6 0 (fun _ => 0) code)) → g (bI (dOK W 6 0 code)) S') : wp_X12_chooses 1000 (nI code) S g := by
  unfold wp_X12_chooses wp_X12_chooses_7
  intro Z hZ
  have H : ∀ k S1 (b : Bool), k ≤ 6 → MC S S1 → (∀ j, st_i S1 1036 j = st_i S 1036 j) → (∀ p, k ≤ p → p < 6 → st_i S1 1034 p = cv (if dp code p ≤ vn W 2 p then dgt W p (dp code p) else 0)) → (b = true ↔ ∀ p, k ≤ p → p < 6 → dp code p ≤ vn W 2 p) → Z (nI (code / 5 ^ (6 - k))) (bI b) (dn k) S1 := by
    intro k
    induction k with
    | zero =>
      intro S1 b _ X1 b1 k1 hb
      refine hZ _ _ _ _ ?_
      unfold wp_X12_chooses_7B
      refine ⟨fun _ => ⟨bI_01 _, ?_⟩, fun e => absurd dn_0 e⟩
      have eb : b = dOK W 6 0 code := Bool.eq_iff_iff.mpr (hb.trans (by rw [dOK_p hc]; exact ⟨fun hh p hp => hh p (Nat.zero_le _) hp, fun hh p _ hp => hh p hp⟩))
      rw [eb]
      refine h S1 X1 b1 fun ok p hp => ?_
      rw [k1 p (Nat.zero_le _) hp, cOf_p hc hp, if_pos ((dOK_p hc).mp ok p hp)]
    | succ k ih =>
      intro S1 b hk X1 b1 k1 hb
      have ih := fun S' b' => ih S' b' (by omega)
      have M1 := MF_MR X1.1 M
      have L1 := MC_L X1 L
      have cn := (I.1.1 k (by omega)).2
      have cn2 := cn.2
      have rb : code / 5 ^ (6 - (k + 1)) < 2 ^ 31 := Nat.lt_of_le_of_lt (Nat.div_le_self _ _) (by omega)
      have eD : code / 5 ^ (6 - (k + 1)) % 5 = dp code k := by unfold dp; rw [show 6 - (k + 1) = 5 - k by omega]
      have eR : code / 5 ^ (6 - (k + 1)) / 5 = code / 5 ^ (6 - k) := by
        rw [Nat.div_div_eq_div_mul, show 6 - k = 6 - (k + 1) + 1 by omega, Nat.pow_succ]
      have d5 : dp code k < 5 := Nat.mod_lt _ (by decide)
      refine hZ _ _ _ _ ?_
      unfold wp_X12_chooses_7B
      rw [dn_s, pk_rem rb (by decide) (by decide), pk_div rb (by decide) (by decide), eD, eR]
      refine ⟨fun e => absurd e (dn_n (by omega)), fun _ y16 e16 y18 e18 => ⟨M1.1.1, ?_⟩⟩
      subst e16 e18
      -- behind the choice
      have T : ∀ x, x = cv (if dp code k ≤ vn W 2 k then dgt W k (dp code k) else 0) → wp_X12_chooses_62 1000 (nI (code / 5 ^ (6 - k))) (bI b) (nI k) (nI (dp code k)) x (nI k) (st_r S1 1000 33) S1 g Z := fun x ex => by
        unfold wp_X12_chooses_62 wp_X12_chooses_83 wp_X12_chooses_84
        rw [nI_clamp (show k < 2 ^ 31 by omega)]
        refine ⟨_, MS_r M1.1 33, _, MS_t M1.1 33, vp_in_nI (show k < 6 by omega) (by decide), fun S8 e8 => ?_⟩
        have e8 : S8 = st_pi S1 1034 k x := e8
        have X8 : MC S S8 := by rw [e8]; exact MC_i X1 (.inl rfl)
        have M8 := MF_MR X8.1 M
        have N : ∀ b' : Bool, (b' = true ↔ b = true ∧ dp code k ≤ vn W 2 k) → ∀ y1, y1 = nI k + (-1 : Int32) → Z (nI (code / 5 ^ (6 - k))) (bI b') y1 S8 := fun b' hb' y ey => by
          rw [ey, dn_a]
          refine ih S8 b' X8 (fun j => by rw [e8, st_i_pi_n _ _ _ _ _ _ (by omega)]; exact b1 j) (fun p h1 h2 => ?_) ?_
          · by_cases e : p = k
            · rw [e, e8, st_i_pi_s]; exact ex
            · rw [e8, st_i_pi_n _ _ _ _ _ _ (by omega)]; exact k1 p (by omega) h2
          · rw [hb', hb]
            constructor
            · intro ⟨a1, a2⟩ p h1 h2
              by_cases e : p = k
              · rw [e]; exact a2
              · exact a1 p (by omega) h2
            · intro hh
              exact ⟨fun p h1 h2 => hh p (by omega) h2, hh k (Nat.le_refl _) (by omega)⟩
        refine bI_c (fun b1' => ⟨M8.1.1, _, MS_r M8.1 2, _, MS_t M8.1 2, vp_in_nI (show k < 6 by omega) (by decide), ?_⟩) (fun b0 => N false ⟨fun hh => (by cases hh), fun hh => by rw [b0] at hh; cases hh.1⟩)
        rw [show st_i S8 (1001 + 2) k = nI (vn W 2 k) from (M8.2.2 2 _ rfl).trans cn.1, nI_ltI (by omega) (by omega)]
        exact ⟨fun q => N false ⟨fun hh => (by cases hh), fun hh => by omega⟩, fun q => N true ⟨fun _ => ⟨b1', by omega⟩, fun _ => rfl⟩⟩
      unfold wp_X12_chooses_44
      rw [nI_z (by omega), nI_clamp (show k < 2 ^ 31 by omega)]
      refine ⟨fun e => T _ ?_, fun e => ⟨_, MS_r M1.1 2, _, MS_t M1.1 2, vp_in_nI (show k < 6 by omega) (by decide), ?_⟩⟩
      · rw [e, if_pos (Nat.zero_le _)]; rfl
      · rw [show st_i S1 (1001 + 2) k = nI (vn W 2 k) from (M1.2.2 2 _ rfl).trans cn.1, nI_leI (by omega) (by omega), pk_mul, nI_add, show nI (4 * k + dp code k) - 1 = nI (4 * k + dp code k - 1) from pk_sub (a := 4 * k + dp code k) (b := 1) (by omega), nI_clamp (show 4 * k + dp code k - 1 < 2 ^ 31 by omega)]
        refine ⟨fun q => ⟨_, MS_r M1.1 32, _, MS_t M1.1 32, vp_in_nI (show 4 * k + dp code k - 1 < 24 by omega) (by decide), T _ ?_⟩, fun q => T _ ?_⟩
        · have o := od_x (V := W) (p := k) (d := dp code k - 1) cn2 (by omega)
          have oo := L1.2.2 k (by omega) _ o.1
          rw [o.2] at oo
          rw [if_pos q, show 4 * k + dp code k - 1 = 4 * k + (dp code k - 1) by omega]
          unfold dgt cv
          rw [if_neg e, if_neg (by omega)]
          exact oo
        · rw [if_neg q]; rfl
  have q := H 6 S true (Nat.le_refl _) (MC_r S) (fun _ => rfl) (fun p h1 h2 => by omega) ⟨fun _ p h1 h2 => by omega, fun _ => rfl⟩
  rw [show code / 5 ^ (6 - 6) = code from Nat.div_one _] at q
  exact q
def chM (W : VV) (pl : Nat) (but : Int32) (S : xm_S) : Nat → Nat
  | 0 => 0
  | p + 1 => chM W pl but S p + (if ¬ nI p = but ∧ ¬ W 29 (6 * pl + p) = -1 ∧ ¬ W 29 (6 * pl + p) = st_i S 1034 p then 1 else 0)
theorem chM_b {W : VV} {pl : Nat} {but : Int32} {S : xm_S} : ∀ p, chM W pl but S p ≤ p := by
  intro p
  induction p with
  | zero => exact Nat.le_refl _
  | succ p ih => unfold chM; split <;> omega
theorem chg_t {V : VV} {pl p x : Nat} {ul : Nat → Bool} : chg V pl ul p x = true ↔ cnI V pl ul p ≠ -1 ∧ cnI V pl ul p ≠ cv x := by
  unfold chg
  rw [Bool.and_eq_true, decide_eq_true_eq, decide_eq_true_eq]
theorem chM_c {W : VV} {pl : Nat} {but : Int32} {S : xm_S} {c : CH} (hb : but ≠ -2) (ch : Mch S c) : ∀ p, p ≤ 6 → chM W pl but S p = chN W pl (ulB but) c p := by
  intro p
  induction p with
  | zero => intro _; rfl
  | succ p ih =>
    intro hp
    have e : (¬ nI p = but ∧ ¬ W 29 (6 * pl + p) = -1 ∧ ¬ W 29 (6 * pl + p) = st_i S 1034 p) ↔ chg W pl (ulB but) p (c p) = true := by
      rw [ch p (by omega), chg_t]
      by_cases e : nI p = but
      · have ec : cnI W pl (ulB but) p = -1 := by
          unfold cnI ulB
          rw [if_pos (decide_eq_true (.inr e.symm))]
        rw [ec]
        exact ⟨fun hh => absurd e hh.1, fun hh => absurd rfl hh.1⟩
      · have ec : cnI W pl (ulB but) p = W 29 (6 * pl + p) := by
          unfold cnI ulB
          rw [if_neg (by rw [decide_eq_false (fun hh => hh.elim hb fun q => e q.symm)]; decide)]
        rw [ec]
        exact ⟨fun hh => hh.2, fun hh => ⟨e, hh⟩⟩
    unfold chM chN
    rw [ih (by omega)]
    by_cases q : chg W pl (ulB but) p (c p) = true
    · rw [if_pos (e.mpr q), if_pos q]
    · rw [if_neg (fun hh => q (e.mp hh)), if_neg q]
theorem m_changes {S : xm_S} {W : VV} {pl : Nat} {but : Int32} {g : Int32 → xm_S → Prop} (M : MR S W) (hl : pl < 3) (h : g (nI (chM W pl but S 6)) S) : wp_X12_changes 1000 (nI pl) but S g := by
  unfold wp_X12_changes wp_X12_changes_5
  intro Z hZ
  have H : ∀ d p, p + d = 6 → Z (nI pl) but (nI (chM W pl but S p)) (nI p) S := by
    intro d
    induction d with
    | zero =>
      intro p hp
      refine hZ _ _ _ _ _ ?_
      unfold wp_X12_changes_5B
      rw [show p = 6 by omega]
      exact ⟨fun _ => h, fun e => absurd (nI_le (Nat.le_refl 6) (by decide)) e⟩
    | succ d ih =>
      intro p hp
      have ih := ih (p + 1) (by omega)
      rw [show chM W pl but S (p + 1) = chM W pl but S p + (if ¬ nI p = but ∧ ¬ W 29 (6 * pl + p) = -1 ∧ ¬ W 29 (6 * pl + p) = st_i S 1034 p then 1 else 0) from rfl] at ih
      have N0 : ¬ (¬ nI p = but ∧ ¬ W 29 (6 * pl + p) = -1 ∧ ¬ W 29 (6 * pl + p) = st_i S 1034 p) → wp_X12_changes_55 1000 (nI pl) but (nI p) (nI (chM W pl but S p)) S g Z := fun hh => by
        unfold wp_X12_changes_55 wp_X12_changes_56
        intro y1 e1 y3 e3
        rw [if_neg hh] at ih
        rw [e1, e3, nI_1, Int32.add_zero]; exact ih
      refine hZ _ _ _ _ _ ?_
      unfold wp_X12_changes_5B
      rw [pk_mul, nI_add, nI_clamp (show p < 2 ^ 31 by omega), nI_clamp (show 6 * pl + p < 2 ^ 31 by omega)]
      refine ⟨fun e => absurd e (nI_ge (show p < 6 by omega) (by decide)), fun _ => ⟨M.1.1, _, MS_r M.1 29, _, MS_t M.1 29, vp_in_nI (show 6 * pl + p < 18 by omega) (by decide), fun y11 e11 => ?_⟩⟩
      rw [show st_i S (1001 + 29) (6 * pl + p) = W 29 (6 * pl + p) from M.2.2 29 _ rfl] at e11
      subst e11
      refine ⟨fun e => N0 fun hh => hh.1 e, fun e => ⟨fun e2 => N0 fun hh => hh.2.1 e2, fun e2 => ⟨_, MS_r M.1 33, _, MS_t M.1 33, vp_in_nI (show p < 6 by omega) (by decide), fun e3 => N0 fun hh => hh.2.2 e3, fun e3 => ?_⟩⟩⟩
      unfold wp_X12_changes_56
      intro y1 e1 y3 e4
      rw [if_pos ⟨e, e2, e3⟩] at ih
      rw [e1, e4, nI_1, nI_1]; exact ih
  exact H 6 0 rfl
def szM (S : xm_S) : Nat → Nat
  | 0 => 0
  | p + 1 => szM S p + (if st_i S 1034 p = -1 then 0 else 1)
theorem szM_b {S : xm_S} : ∀ p, szM S p ≤ p := by
  intro p
  induction p with
  | zero => exact Nat.le_refl _
  | succ p ih => unfold szM; split <;> omega
theorem szM_c {V : VV} {S : xm_S} {c : CH} (I : Iv V) (o : okc V c) (ch : Mch S c) : ∀ p, p ≤ 6 → szM S p = szN c p := by
  intro p
  induction p with
  | zero => intro _; rfl
  | succ p ih =>
    intro hp
    unfold szM szN
    rw [ih (by omega), ch p (by omega)]
    have := cv_m (okc_4 I o (show p < 6 by omega))
    by_cases e : c p = 0
    · rw [if_pos (this.mpr e), if_pos e]
    · rw [if_neg (fun hh => e (this.mp hh)), if_neg e]
theorem m_many {S : xm_S} {W : VV} {g : Int32 → xm_S → Prop} (M : MR S W) (h : g (nI (szM S 6)) S) : wp_X12_chosenMany 1000 S g := by
  unfold wp_X12_chosenMany wp_X12_chosenMany_4
  intro Z hZ
  have H : ∀ d p, p + d = 6 → Z (nI (szM S p)) (nI p) S := by
    intro d
    induction d with
    | zero =>
      intro p hp
      refine hZ _ _ _ ?_
      unfold wp_X12_chosenMany_4B
      rw [show p = 6 by omega]
      exact ⟨fun _ => h, fun e => absurd (nI_le (Nat.le_refl 6) (by decide)) e⟩
    | succ d ih =>
      intro p hp
      have ih := ih (p + 1) (by omega)
      rw [show szM S (p + 1) = szM S p + (if st_i S 1034 p = -1 then 0 else 1) from rfl] at ih
      refine hZ _ _ _ ?_
      unfold wp_X12_chosenMany_4B wp_X12_chosenMany_26
      rw [nI_clamp (show p < 2 ^ 31 by omega)]
      refine ⟨fun e => absurd e (nI_ge (show p < 6 by omega) (by decide)), fun _ => ⟨M.1.1, _, MS_r M.1 33, _, MS_t M.1 33, vp_in_nI (show p < 6 by omega) (by decide), fun e y1 e1 y3 e3 => ?_, fun e y1 e1 y3 e3 => ?_⟩⟩
      · rw [if_neg e] at ih
        rw [e1, e3, nI_1, nI_1]; exact ih
      · rw [if_pos e] at ih
        rw [e1, e3, nI_1, Int32.add_zero]; exact ih
  exact H 6 0 rfl
