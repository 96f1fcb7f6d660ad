-- the reference: is a choice a closure
theorem mt_cf {V : VV} {c : CH} {a j p : Nat} (I : Iv V) (o : okc V c) (ha : a < 24) (hj : j < 2) (hp : p < 6) (h0 : c p ≠ 0) : mt V (96 + (2 * a + j)) (vi c p) = if p = vn V 14 (2 * a + j) then inc V (96 + (2 * a + j)) p (c p - 1) else pvK V (96 + (2 * a + j)) (vn V 14 (2 * a + j)) (vi c p) (vn V 15 (vi c p)) := by
  have nm := nm_c (V := V) ha hj
  have x := mtc_x (q := 96 + (2 * a + j)) I o hp h0
  unfold mtc at x
  rw [decide_eq_true h0, Bool.true_and, nm.1, nm.2] at x
  rw [x]
  by_cases e : p = vn V 14 (2 * a + j)
  · rw [if_pos e, if_pos e, ← e, decide_eq_true (show V 4 (vi c p) &&& 0 = 0 from bt_z.mpr fun i hi => by rw [bt_and, bt_0, Bool.and_false]), Bool.true_and]
  · rw [if_neg e, if_neg e, decide_eq_true rfl, Bool.true_and]
def hcP (V : VV) (c : CH) (p n : Nat) : Prop := ∃ p', p' < 6 ∧ p' ≠ p ∧ c p' ≠ 0 ∧ cfK V (vi c p) (vi c p') n = true
theorem m_hasConflict {S : xm_S} {W : VV} {c : CH} {p : Nat} {g : Int32 → xm_S → Prop} (M : MR S W) (I : Iv W) (o : okc W c) (hp : p < 6) (h0 : c p ≠ 0) (L : LRs S W) (ch : Mch S c) (h : ∀ b : Bool, (b = true ↔ hcP W c p (vn W 13 (vi c p))) → g (bI b) S) : wp_X12_hasConflict 1000 (nI p) S g := by
  have c4 : ∀ p, p < 6 → c p ≤ 4 := fun p hp => okc_4 I o hp
  obtain ⟨v1, v2, v3, v4, v5⟩ := vi_4 I o hp h0
  have k13 := (I.1.2.2.1 _ v2).2.1
  have k132 := k13.2
  unfold wp_X12_hasConflict
  rw [nI_clamp (show p < 2 ^ 31 by omega)]
  refine ⟨M.1.1, _, MS_r M.1 33, _, MS_t M.1 33, vp_in_nI (show p < 6 by omega) (by decide), fun y63 e63 y65 e65 => ?_⟩
  rw [show st_i S (1001 + 33) p = cv (c p) from ch p hp, show cv (c p) = nI (c p - 1) from if_neg h0, pk_mul, nI_add] at e63
  have e63 : y63 = nI (vi c p) := e63
  subst e63
  rw [pk_mul] at e65
  subst e65
  unfold wp_X12_hasConflict_18
  intro Z hZ
  have H : ∀ d j (b : Bool), j + d = vn W 13 (vi c p) → (b = true ↔ hcP W c p j) → Z (nI p) (nI (vi c p)) (bI b) (nI (2 * vi c p + j)) S := by
    intro d
    induction d with
    | zero =>
      intro j b hj hb
      refine hZ _ _ _ _ _ ?_
      unfold wp_X12_hasConflict_18B
      rw [nI_clamp (show vi c p < 2 ^ 31 by omega)]
      refine ⟨M.1.1, _, MS_r M.1 13, _, MS_t M.1 13, vp_in_nI v2 (by decide), ?_⟩
      rw [show st_i S (1001 + 13) (vi c p) = nI (vn W 13 (vi c p)) from (M.2.2 13 _ rfl).trans k13.1, pk_mul, nI_add]
      rw [show j = vn W 13 (vi c p) by omega] at hb ⊢
      exact ⟨fun _ => ⟨bI_01 _, h b hb⟩, fun e => absurd (nI_le (Nat.le_refl _) (by omega)) e⟩
    | succ d ih =>
      intro j b hj hb
      have ih := fun b' => ih (j + 1) b' (by omega)
      have hj2 : j < 2 := by omega
      have nm := nm_c (V := W) v2 hj2
      have q14 := (I.2.1.2.1 (2 * vi c p + j) (by omega)).1
      have q142 := q14.2
      have ne14 := ((I.2.1.2.2 _ v2).2.1 j (by omega)).2
      rw [v1] at ne14
      have Lc := (L.1 _ v2).2 j (by omega)
      -- one conflict, in words of the memory
      have eC : ∀ p', p' < 6 → p' ≠ p → c p' ≠ 0 → cfK W (vi c p) (vi c p') (j + 1) = (cfK W (vi c p) (vi c p') j || (if p' = vn W 14 (2 * vi c p + j) then inc W (96 + (2 * vi c p + j)) p' (c p' - 1) else pvK W (96 + (2 * vi c p + j)) (vn W 14 (2 * vi c p + j)) (vi c p') (vn W 15 (vi c p')))) := fun p' hp' hne h0' => by
        show (cfK W (vi c p) (vi c p') j || (mt W (96 + (2 * vi c p + j)) (vi c p') && decide (vi c p' / 4 ≠ vi c p / 4))) = _
        rw [mt_cf I o v2 hj2 hp' h0', v1, (vi_4 I o hp' h0').1, decide_eq_true hne, Bool.and_true]
      -- the packages one after another
      have X : ∀ b1 : Bool, (b1 = true ↔ hcP W c p j ∨ (c (vn W 14 (2 * vi c p + j)) ≠ 0 ∧ inc W (96 + (2 * vi c p + j)) (vn W 14 (2 * vi c p + j)) (c (vn W 14 (2 * vi c p + j)) - 1) = true)) → wp_X12_hasConflict_85 1000 (nI p) (nI (vi c p)) (nI (2 * vi c p + j)) (bI b1) S g Z := fun b1 hb1 => by
        unfold wp_X12_hasConflict_85 wp_X12_hasConflict_89
        intro Z2 hZ2
        have H2 : ∀ d2 k (b2 : Bool), k + d2 = 6 → (b2 = true ↔ hcP W c p j ∨ (c (vn W 14 (2 * vi c p + j)) ≠ 0 ∧ inc W (96 + (2 * vi c p + j)) (vn W 14 (2 * vi c p + j)) (c (vn W 14 (2 * vi c p + j)) - 1) = true) ∨ ∃ p', p' < k ∧ p' ≠ p ∧ c p' ≠ 0 ∧ pvK W (96 + (2 * vi c p + j)) (vn W 14 (2 * vi c p + j)) (vi c p') (vn W 15 (vi c p')) = true) → Z2 (nI p) (nI (vi c p)) (bI b2) (nI (2 * vi c p + j)) (nI k) S := by
          intro d2
          induction d2 with
          | zero =>
            intro k b2 hk hb2
            refine hZ2 _ _ _ _ _ _ ?_
            unfold wp_X12_hasConflict_89B
            rw [show k = 6 by omega] at hb2 ⊢
            refine ⟨fun _ y ey => ?_, fun e => absurd (nI_le (Nat.le_refl 6) (by decide)) e⟩
            rw [ey, nI_1]
            refine ih b2 (hb2.trans ⟨fun hh => ?_, fun hh => ?_⟩)
            · rcases hh with ⟨p', a1, a2, a3, a4⟩ | ⟨a1, a2⟩ | ⟨p', a1, a2, a3, a4⟩
              · refine ⟨p', a1, a2, a3, ?_⟩
                rw [eC p' a1 a2 a3, a4]; rfl
              · refine ⟨_, by omega, ne14, a1, ?_⟩
                rw [eC _ (by omega) ne14 a1, if_pos rfl, a2, Bool.or_true]
              · refine ⟨p', a1, a2, a3, ?_⟩
                obtain ⟨w1, w2, w3, w4, w5⟩ := vi_4 I o a1 a3
                have ne : p' ≠ vn W 14 (2 * vi c p + j) := fun hh => by
                  have := pvK_own (q := 96 + (2 * vi c p + j)) I w2 (w1.trans (hh.trans nm.1.symm)) _ (Nat.le_refl _)
                  rw [nm.1, a4] at this; cases this
                rw [eC p' a1 a2 a3, if_neg ne, a4, Bool.or_true]
            · obtain ⟨p', a1, a2, a3, a4⟩ := hh
              rw [eC p' a1 a2 a3, Bool.or_eq_true] at a4
              rcases a4 with a4 | a4
              · exact .inl ⟨p', a1, a2, a3, a4⟩
              · by_cases e : p' = vn W 14 (2 * vi c p + j)
                · rw [if_pos e] at a4
                  rw [e] at a3 a4
                  exact .inr (.inl ⟨a3, a4⟩)
                · rw [if_neg e] at a4
                  exact .inr (.inr ⟨p', a1, a2, a3, a4⟩)
          | succ d2 ih2 =>
            intro k b2 hk hb2
            have hk6 : k < 6 := by omega
            have ih2 := fun b' => ih2 (k + 1) b' (by omega)
            -- it stays
            have same : (b2 = true ∨ ¬ (k ≠ p ∧ c k ≠ 0 ∧ pvK W (96 + (2 * vi c p + j)) (vn W 14 (2 * vi c p + j)) (vi c k) (vn W 15 (vi c k)) = true)) → ∀ y1, y1 = nI k + (1 : Int32) → Z2 (nI p) (nI (vi c p)) (bI b2) (nI (2 * vi c p + j)) y1 S := fun hs y ey => by
              rw [ey, nI_1]
              refine ih2 b2 (hb2.trans ⟨fun hh => ?_, fun hh => ?_⟩)
              · rcases hh with q | q | ⟨p', a1, a2⟩
                · exact .inl q
                · exact .inr (.inl q)
                · exact .inr (.inr ⟨p', by omega, a2⟩)
              · rcases hs with hs | hs
                · exact hb2.mp hs
                · rcases hh with q | q | ⟨p', a1, a2⟩
                  · exact .inl q
                  · exact .inr (.inl q)
                  · by_cases e : p' = k
                    · rw [e] at a2; exact absurd a2 hs
                    · exact .inr (.inr ⟨p', by omega, a2⟩)
            have on : (k ≠ p ∧ c k ≠ 0 ∧ pvK W (96 + (2 * vi c p + j)) (vn W 14 (2 * vi c p + j)) (vi c k) (vn W 15 (vi c k)) = true) → ∀ y1, y1 = nI k + (1 : Int32) → Z2 (nI p) (nI (vi c p)) (1 : Int32) (nI (2 * vi c p + j)) y1 S := fun hs y ey => by
              rw [ey, nI_1]
              exact ih2 true ⟨fun _ => .inr (.inr ⟨k, by omega, hs⟩), fun _ => rfl⟩
            have A : ∀ a, a < 24 → (c k ≠ 0 → a = vi c k) → wp_X12_hasConflict_123 1000 (nI p) (nI (vi c p)) (bI b2) (nI (2 * vi c p + j)) (nI k) (nI a) S g Z Z2 := fun a ha ea => by
              unfold wp_X12_hasConflict_123 wp_X12_hasConflict_170 wp_X12_hasConflict_174 wp_X12_hasConflict_175
              rw [nI_clamp (show k < 2 ^ 31 by omega), nI_add, nI_clamp (show 96 + (2 * vi c p + j) < 2 ^ 31 by omega), nI_eq (by omega) (by omega)]
              refine bI_c' (fun b1 => by rw [b1] at same; exact same (.inl rfl)) (fun b0 => ?_)
              rw [b0] at same
              refine ⟨fun e => same (.inr fun hh => hh.1 e), fun e => ⟨M.1.1, _, MS_r M.1 33, _, MS_t M.1 33, vp_in_nI (show k < 6 by omega) (by decide), ?_⟩⟩
              rw [show st_i S (1001 + 33) k = cv (c k) from ch k hk6, cv_m (c4 k hk6)]
              refine ⟨fun c0 => same (.inr fun hh => hh.2.1 c0), fun c0 => ⟨_, MS_r M.1 31, _, MS_t M.1 31, vp_in_nI (show 96 + (2 * vi c p + j) < 155 by omega) (by decide), ?_⟩⟩
              have ea := ea c0
              have p15 := (I.1.2.2.1 a ha).2.2.1.2
              have hh := pv_hp (q := 96 + (2 * vi c p + j)) p15
              rw [← Lc.2 _ (by omega), ← Lc.2 _ (by omega), nm.1] at hh
              rw [lg_z, pk_mul]
              show ((st_l S 1032 (96 + (2 * vi c p + j)) >>> ((nI (2 * a)).toInt64 &&& 63)) &&& 3 = 0 → _) ∧ (¬ (st_l S 1032 (96 + (2 * vi c p + j)) >>> ((nI (2 * a)).toInt64 &&& 63)) &&& 3 = 0 → _)
              rw [bl_two (by omega)]
              refine ⟨fun z => same (.inr fun q => ?_), fun z => on ⟨e, c0, ?_⟩⟩
              · rw [z.1, z.2] at hh
                rw [← ea, ← hh] at q
                exact absurd q.2.2 (by decide)
              · rw [← ea, ← hh]
                cases e1 : bl (st_l S 1032 (96 + (2 * vi c p + j))) (2 * a)
                · cases e2 : bl (st_l S 1032 (96 + (2 * vi c p + j))) (2 * a + 1)
                  · exact absurd ⟨e1, e2⟩ z
                  · rfl
                · rfl
            refine hZ2 _ _ _ _ _ _ ?_
            unfold wp_X12_hasConflict_89B
            rw [nI_clamp (show k < 2 ^ 31 by omega)]
            refine ⟨fun e => absurd e (nI_ge (show k < 6 by omega) (by decide)), fun _ => ⟨M.1.1, _, MS_r M.1 33, _, MS_t M.1 33, vp_in_nI (show k < 6 by omega) (by decide), ?_⟩⟩
            rw [show st_i S (1001 + 33) k = cv (c k) from ch k hk6, cv_m (c4 k hk6)]
            refine ⟨fun c0 => ⟨_, MS_r M.1 33, _, MS_t M.1 33, vp_in_nI (show k < 6 by omega) (by decide), ?_⟩, fun c0 => A 0 (by decide) fun hh => absurd c0 hh⟩
            rw [show st_i S (1001 + 33) k = cv (c k) from ch k hk6, show cv (c k) = nI (c k - 1) from if_neg c0, pk_mul, nI_add]
            exact A _ (vi_4 I o hk6 c0).2.1 fun _ => rfl
        exact H2 6 0 b1 rfl (hb1.trans ⟨fun hh => hh.elim .inl fun q => .inr (.inl q), fun hh => hh.elim .inl fun q => q.elim .inr fun ⟨p', a, _⟩ => absurd a (Nat.not_lt_zero _)⟩)
      refine hZ _ _ _ _ _ ?_
      unfold wp_X12_hasConflict_18B wp_X12_hasConflict_80 wp_X12_hasConflict_84
      rw [nI_clamp (show vi c p < 2 ^ 31 by omega), nI_clamp (show 2 * vi c p + j < 2 ^ 31 by omega)]
      refine ⟨M.1.1, _, MS_r M.1 13, _, MS_t M.1 13, vp_in_nI v2 (by decide), ?_⟩
      rw [show st_i S (1001 + 13) (vi c p) = nI (vn W 13 (vi c p)) from (M.2.2 13 _ rfl).trans k13.1, pk_mul, nI_add]
      refine ⟨fun e => absurd e (nI_ge (show 2 * vi c p + j < 2 * vi c p + vn W 13 (vi c p) by omega) (by omega)), fun _ => ⟨_, MS_r M.1 14, _, MS_t M.1 14, vp_in_nI (show 2 * vi c p + j < 48 by omega) (by decide), fun y38 e38 => ?_⟩⟩
      rw [show st_i S (1001 + 14) (2 * vi c p + j) = nI (vn W 14 (2 * vi c p + j)) from (M.2.2 14 _ rfl).trans q14.1] at e38
      subst e38
      refine bI_c' (fun b1 => X true ⟨fun _ => .inl (hb.mp b1), fun _ => rfl⟩) (fun b0 => ⟨_, MS_r M.1 33, _, MS_t M.1 33, vp_in_nI (show vn W 14 (2 * vi c p + j) < 6 by omega) (by decide), ?_⟩)
      have nh : ¬ hcP W c p j := fun hh => by rw [hb.mpr hh] at b0; cases b0
      rw [nI_clamp (show vn W 14 (2 * vi c p + j) < 2 ^ 31 by omega), show st_i S (1001 + 33) (vn W 14 (2 * vi c p + j)) = cv (c (vn W 14 (2 * vi c p + j))) from ch _ (by omega), cv_m (c4 _ (by omega))]
      refine ⟨fun c0 => X false ⟨fun hh => (by cases hh), fun hh => hh.elim (fun q => absurd q nh) fun q => absurd c0 q.1⟩, fun c0 => ⟨_, MS_r M.1 30, _, MS_t M.1 30, ?_⟩⟩
      rw [nI_add, nI_clamp (show 96 + (2 * vi c p + j) < 2 ^ 31 by omega)]
      obtain ⟨w1, w2, w3, w4, w5⟩ := vi_4 I o (show vn W 14 (2 * vi c p + j) < 6 by omega) c0
      have lb := Lc.1 (c (vn W 14 (2 * vi c p + j)) - 1)
      rw [nm.1, decide_eq_true w4, Bool.true_and] at lb
      refine ⟨vp_in_nI (show 96 + (2 * vi c p + j) < 155 by omega) (by decide), _, MS_r M.1 33, _, MS_t M.1 33, vp_in_nI (show vn W 14 (2 * vi c p + j) < 6 by omega) (by decide), ?_⟩
      rw [show st_i S (1001 + 33) (vn W 14 (2 * vi c p + j)) = cv (c (vn W 14 (2 * vi c p + j))) from ch _ (by omega), show cv (c (vn W 14 (2 * vi c p + j))) = nI (c (vn W 14 (2 * vi c p + j)) - 1) from if_neg c0]
      refine m_isIn (by omega) ?_
      rw [show bt (st_i S (1001 + 30) (96 + (2 * vi c p + j))) (c (vn W 14 (2 * vi c p + j)) - 1) = inc W (96 + (2 * vi c p + j)) (vn W 14 (2 * vi c p + j)) (c (vn W 14 (2 * vi c p + j)) - 1) from lb]
      refine bI_c (fun b1 => X true ⟨fun _ => .inr ⟨c0, b1⟩, fun _ => rfl⟩) (fun b1 => X false ⟨fun hh => (by cases hh), fun hh => hh.elim (fun q => absurd q nh) fun q => by rw [b1] at q; cases q.2⟩)
  exact H (vn W 13 (vi c p)) 0 false (by omega) ⟨fun hh => (by cases hh), fun ⟨p', _, _, _, q⟩ => by cases q⟩
/-- of which package the lock doesn't count -/
def ulB (but : Int32) (p : Nat) : Bool := decide (but = -2 ∨ but = nI p)
theorem m_isClosure {S : xm_S} {W : VV} {pl : Nat} {ask but : Int32} {c : CH} {g : Int32 → xm_S → Prop} (M : MR S W) (I : Iv W) (o : okc W c) (hl : pl < 3) (L : LRs S W) (ch : Mch S c) (h : ∀ S', MO S S' → g (bI (cloB W pl (ulB but) ask c)) S') : wp_X12_isClosure 1000 (nI pl) ask but S g := by
  have c4 : ∀ p, p < 6 → c p ≤ 4 := fun p hp => okc_4 I o hp
  have no : ¬ Clo W pl (ulB but) ask c → ∀ S', MO S S' → g 0 S' := fun hn S' X => by
    have q := h S' X
    rw [show cloB W pl (ulB but) ask c = false by cases e : cloB W pl (ulB but) ask c; rfl; exact absurd (cloB_t.mp e) hn] at q
    exact q
  unfold wp_X12_isClosure wp_X12_isClosure_6
  intro Z hZ
  have H : ∀ d p, p + d = 6 → (∀ q, q < p → c q ≠ 0 → pm W pl (ulB but) (vi c q) = true ∧ ¬ hcP W c q (vn W 13 (vi c q))) → Z (nI pl) ask but (ob (fun p => decide (c p ≠ 0)) p) (nI p) S := by
    intro d
    induction d with
    | zero =>
      intro p hp hq
      refine hZ _ _ _ _ _ _ ?_
      unfold wp_X12_isClosure_6B wp_X12_isClosure_153
      rw [show p = 6 by omega] at hq ⊢
      refine ⟨fun _ => ?_, fun e => absurd (nI_le (Nat.le_refl 6) (by decide)) e⟩
      obtain ⟨t, e, ex⟩ := re_x (pl := pl) (ask := ask) I o
      refine ⟨M.1.1, m_reaches M I o hl ch L e fun S' X => ?_⟩
      have cl : Clo W pl (ulB but) ask c ↔ (if t.2.2 then t.1 else -1) = chP c := by
        rw [ex]
        refine ⟨fun C => C.2.2, fun A => ⟨fun q hq6 h0 => (hq q hq6 h0).1, fun q q' hq6 hq6' ne h0 h0' => ?_, A⟩⟩
        cases e2 : cf W (vi c q) (vi c q')
        · rfl
        · exact absurd ⟨q', hq6', fun hh => ne hh.symm, h0', e2⟩ (hq q hq6 h0).2
      refine ⟨fun ne => ⟨.inl rfl, no (fun C => ne (cl.mp C)) S' X⟩, fun eq => ⟨.inr rfl, ?_⟩⟩
      have q := h S' X
      rw [cloB_t.mpr (cl.mpr eq)] at q
      exact q
    | succ d ih =>
      intro p hp hq
      have p6 : p < 6 := by omega
      have ih := ih (p + 1) (by omega)
      rw [show ob (fun p => decide (c p ≠ 0)) (p + 1) = if decide (c p ≠ 0) = true then ob (fun p => decide (c p ≠ 0)) p ||| ((1 : Int32) <<< (nI p &&& 31)) else ob (fun p => decide (c p ≠ 0)) p from rfl] at ih
      refine hZ _ _ _ _ _ _ ?_
      unfold wp_X12_isClosure_6B
      rw [nI_clamp (show p < 2 ^ 31 by omega)]
      refine ⟨fun e => absurd e (nI_ge (show p < 6 by omega) (by decide)), fun _ => ⟨M.1.1, _, MS_r M.1 33, _, MS_t M.1 33, vp_in_nI (show p < 6 by omega) (by decide), ?_⟩⟩
      rw [show st_i S (1001 + 33) p = cv (c p) from ch p p6, cv_m (c4 p p6)]
      refine ⟨fun c0 => ?_, fun c0 => ⟨_, MS_r M.1 33, _, MS_t M.1 33, vp_in_nI (show p < 6 by omega) (by decide), fun y36 e36 => ?_⟩⟩
      · unfold wp_X12_isClosure_131
        intro y ey
        rw [if_neg (by rw [decide_eq_false (fun hh => hh c0)]; decide)] at ih
        rw [ey, nI_1]
        refine ih fun q hq1 h0 => hq q ?_ h0
        have : q ≠ p := fun hh => h0 (by rw [hh]; exact c0)
        omega
      · rw [show st_i S (1001 + 33) p = cv (c p) from ch p p6, show cv (c p) = nI (c p - 1) from if_neg c0, pk_mul, nI_add] at e36
        have e36 : y36 = nI (vi c p) := e36
        subst e36
        obtain ⟨v1, v2, v3, v4, v5⟩ := vi_4 I o p6 c0
        have n5 := (I.1.2.1 _ v2).2.2.1
        have n52 := n5.2
        have us : usb W (vi c p) = true := decide_eq_true (by rw [v1, v3]; exact v4)
        have eM : pm W pl (ulB but) (vi c p) = (bt (W 26 0) (vn W 5 (vi c p)) && (decide (W 7 (vi c p) = 0) || decide (cnI W pl (ulB but) p = nI (c p - 1)))) := by
          unfold pm
          rw [decide_eq_true v2, us, Bool.true_and, Bool.true_and, v1, v3]
        have T : ∀ b : Bool, b = decide (cnI W pl (ulB but) p = nI (c p - 1)) → wp_X12_isClosure_77 1000 (nI pl) ask but (ob (fun p => decide (c p ≠ 0)) p) (nI p) (nI (vi c p)) (bI b) S g Z := fun b eb => by
          have no1 : pm W pl (ulB but) (vi c p) = false → g 0 S := fun e => no (fun C => by have := C.1 p p6 c0; rw [e] at this; cases this) S (MO_r S)
          -- behind what is permitted
          have K : pm W pl (ulB but) (vi c p) = true → wp_X12_isClosure_111 1000 (nI pl) ask but (ob (fun p => decide (c p ≠ 0)) p) (nI p) S g Z := fun e => by
            unfold wp_X12_isClosure_111 wp_X12_isClosure_120 wp_X12_isClosure_131
            refine ⟨M.1.1, m_hasConflict M I o p6 c0 L ch fun b' hb' => bI_c (fun b1 => no (fun C => ?_) S (MO_r S)) (fun b0 y6 e6 y1 e1 => ?_)⟩
            · obtain ⟨p', a1, a2, a3, a4⟩ := hb'.mp b1
              have := C.2.1 p p' p6 a1 (fun hh => a2 hh.symm) c0 a3
              unfold cf at this
              rw [a4] at this; cases this
            · rw [if_pos (decide_eq_true c0)] at ih
              rw [e1, e6, nI_1]
              refine ih fun q hq1 h0 => ?_
              by_cases eq : q = p
              · rw [eq]; exact ⟨e, fun hh => by rw [hb'.mpr hh] at b0; cases b0⟩
              · exact hq q (by omega) h0
          unfold wp_X12_isClosure_77 wp_X12_isClosure_120
          rw [nI_clamp (show vi c p < 2 ^ 31 by omega)]
          refine ⟨M.1.1, _, MS_r M.1 5, _, MS_t M.1 5, vp_in_nI v2 (by decide), ?_⟩
          rw [show st_i S (1001 + 5) (vi c p) = nI (vn W 5 (vi c p)) from (M.2.2 5 _ rfl).trans n5.1, show st_i S 1000 26 = W 26 0 from M.2.1 26 rfl]
          refine m_isIn (by omega) (bI_c (fun b1 => ⟨M.1.1, _, MS_r M.1 7, _, MS_t M.1 7, vp_in_nI v2 (by decide), ?_⟩) (fun b0 => no1 (by rw [eM, b0]; rfl)))
          rw [show st_i S (1001 + 7) (vi c p) = W 7 (vi c p) from M.2.2 7 _ rfl]
          rw [b1, Bool.true_and] at eM
          refine ⟨fun e7 => K (by rw [eM, decide_eq_true e7]; rfl), fun e7 => bI_c (fun b1 => K (by rw [eM, ← eb, b1, Bool.or_true])) (fun b0 => no1 (by rw [eM, decide_eq_false e7, ← eb, b0]; rfl))⟩
        unfold wp_X12_isClosure_76
        rw [pk_mul, nI_add, nI_clamp (show 6 * pl + p < 2 ^ 31 by omega)]
        have neq : nI (c p - 1) ≠ -1 := nI_m1 (by omega)
        refine ⟨fun e => T false ?_, fun e => ⟨fun e2 => T false ?_, fun e2 => ⟨_, MS_r M.1 29, _, MS_t M.1 29, vp_in_nI (show 6 * pl + p < 18 by omega) (by decide), _, MS_r M.1 33, _, MS_t M.1 33, vp_in_nI (show p < 6 by omega) (by decide), ?_⟩⟩⟩
        · unfold cnI ulB
          rw [if_pos (decide_eq_true (.inl e)), decide_eq_false (fun hh => neq hh.symm)]
        · unfold cnI ulB
          rw [if_pos (decide_eq_true (.inr e2)), decide_eq_false (fun hh => neq hh.symm)]
        · have ec : cnI W pl (ulB but) p = W 29 (6 * pl + p) := by
            unfold cnI ulB
            rw [if_neg (by rw [decide_eq_false (fun hh => hh.elim e e2)]; decide)]
          rw [show st_i S (1001 + 29) (6 * pl + p) = W 29 (6 * pl + p) from M.2.2 29 _ rfl, show st_i S (1001 + 33) p = cv (c p) from ch p p6, show cv (c p) = nI (c p - 1) from if_neg c0]
          rw [ec] at T
          exact ⟨fun ne => T false (by rw [decide_eq_false ne]), fun eq => T true (by rw [decide_eq_true eq])⟩
  exact H 6 0 rfl (fun q hq => absurd hq (Nat.not_lt_zero _))
