-- the class's includes is the same fold
def RO (S : xm_S) (r : Nat) (l : List xit) (N : Nat) : Prop := 2000 ≤ r ∧ r < N ∧ st_t S r = some (6, 0) ∧ l.length ≤ 20 ∧ st_i S r 1 = nI l.length ∧ ∃ ta, 2000 ≤ ta ∧ ta < N ∧ st_r S r 0 = some ta ∧ st_t S ta = some (119, 20) ∧ ∀ i x, l[i]? = some x → ∃ o, 2000 ≤ o ∧ o + 3 ≤ N ∧ st_r S ta i = some o ∧ TO S o x
def lOK (l : List xit) : Prop := ∀ x, x ∈ l → ∀ t, x.2 = some t → tOK t
theorem RO_G {A : Nat → Nat → Bool} {S S' : xm_S} {r N N' : Nat} {l : List xit} (h : RO S r l N) (G : xG A N S S') (hA : ∀ n k, 2000 ≤ n → A n k = false) (e : N ≤ N') : RO S' r l N' := by
  obtain ⟨h1, h2, h3, h4, h5, ta, h6, h7, h8, h9, h10⟩ := h
  refine ⟨h1, by omega, (G.1 _ h2).trans h3, h4, (G.2.2.2 _ _ h2 (hA _ _ h1)).trans h5, ta, h6, by omega, (G.2.1 _ _ h2).trans h8, (G.1 _ h7).trans h9, fun i x hx => ?_⟩
  obtain ⟨o, o1, o2, o3, o4⟩ := h10 i x hx
  exact ⟨o, o1, by omega, (G.2.1 _ _ h7).trans o3, TO_G o4 G (fun n k hn => hA n k (by omega)) o2⟩
theorem dig4 (e M m p a b c d : Nat) (h1 : e ≤ 9) (h2 : M ≤ 9) (h3 : m ≤ 9) (h4 : p ≤ 9) (g1 : a ≤ 9) (g2 : b ≤ 9) (g3 : c ≤ 9) (g4 : d ≤ 9) : 4096 * e + (256 * M + (16 * m + p)) = 4096 * a + (256 * b + (16 * c + d)) ↔ 1000 * e + 100 * M + 10 * m + p = 1000 * a + 100 * b + 10 * c + d := by
  have U : ∀ x y u v : Nat, u ≤ 9 → v ≤ 9 → (16 * x + u = 16 * y + v ↔ x = y ∧ u = v) ∧ (10 * x + u = 10 * y + v ↔ x = y ∧ u = v) := fun x y u v _ _ => by omega
  rw [show 4096 * e + (256 * M + (16 * m + p)) = 16 * (16 * (16 * e + M) + m) + p by omega, show 4096 * a + (256 * b + (16 * c + d)) = 16 * (16 * (16 * a + b) + c) + d by omega, show 1000 * e + 100 * M + 10 * m + p = 10 * (10 * (10 * e + M) + m) + p by omega, show 1000 * a + 100 * b + 10 * c + d = 10 * (10 * (10 * a + b) + c) + d by omega]
  rw [(U _ _ p d h4 g4).1, (U _ _ m c h3 g3).1, (U _ _ M b h2 g2).1, (U _ _ p d h4 g4).2, (U _ _ m c h3 g3).2, (U _ _ M b h2 g2).2]
theorem cq_tells {S : xm_S} {o n : Nat} {x : xit} {g : Int32 → xm_S → Prop} (T : TO S o x) (ok : ∀ t, x.2 = some t → tOK t) (hn : n < 100000) (h : g (bI (xp n x.2)) S) : wp_X9_tellsPreviewOf o (nI (dgN n)) S g := by
  have hdn : dgN n < 1048576 := dgf_lt (by omega) (by omega) (by omega) (by omega) (by omega)
  have hdx : dgX x.2 < 1048576 := by
    cases hx : x.2 with
    | none => exact (by decide : (10 : Nat) < 1048576)
    | some t =>
      obtain ⟨o1, o2, o3, o4, o5, o6, o7, o8⟩ := ok t hx
      exact dgf_lt (by omega) (by omega) (by omega) (by omega) (by omega)
  unfold wp_X9_tellsPreviewOf wp_X9_tellsPreviewOf_28 wp_X9_tellsPreviewOf_29
  refine ⟨T.1, ?_⟩
  rw [T.2.2.2.2.2.1, pk_andN (n := dgX x.2) (by omega) 4 (by decide), pk_shrN (n := dgX x.2) (by omega) (nI 4 &&& 31) 4 (by decide), pk_shrN (n := dgN n) (by omega) (nI 4 &&& 31) 4 (by decide), nI_eq (by omega) (by decide), nI_eq (by omega) (by omega)]
  have K : (¬ dgX x.2 % 2 ^ 4 = 10 ∧ dgX x.2 / 2 ^ 4 = dgN n / 2 ^ 4) ↔ xp n x.2 = true := by
    cases hx : x.2 with
    | none => exact ⟨fun hh => absurd rfl hh.1, fun hh => by cases hh⟩
    | some t =>
      obtain ⟨o1, o2, o3, o4, o5, o6, o7, o8⟩ := ok t hx
      have r1 := rp10_b (v := t.2.2.2.2.2.1) (by omega)
      have r2 := rp10_b (v := n % 10) (by omega)
      have r3 : rp10 t.2.2.2.2.2.1 = 10 ↔ t.2.2.2.2.2.1 = 0 := by unfold rp10; split <;> omega
      show (¬ dgT t % 2 ^ 4 = 10 ∧ dgT t / 2 ^ 4 = dgN n / 2 ^ 4) ↔ decide _ = true
      rw [decide_eq_true_iff]
      have e1 : dgT t % 2 ^ 4 = rp10 t.2.2.2.2.2.1 := by unfold dgT dgf; omega
      have e2 : dgT t / 2 ^ 4 = 4096 * t.2.1 + (256 * t.2.2.1 + (16 * t.2.2.2.1 + t.2.2.2.2.1)) := by unfold dgT dgf; omega
      have e3 : dgN n / 2 ^ 4 = 4096 * (n / 10000) + (256 * (n / 1000 % 10) + (16 * (n / 100 % 10) + n / 10 % 10)) := by unfold dgN dgf; omega
      have E : n / 10 = 1000 * (n / 10000) + 100 * (n / 1000 % 10) + 10 * (n / 100 % 10) + n / 10 % 10 := by
        have q1 : n / 100 = n / 10 / 10 := by omega
        have q2 : n / 1000 = n / 100 / 10 := by omega
        have q3 : n / 10000 = n / 1000 / 10 := by omega
        omega
      have D := dig4 t.2.1 t.2.2.1 t.2.2.2.1 t.2.2.2.2.1 (n / 10000) (n / 1000 % 10) (n / 100 % 10) (n / 10 % 10) o2 o3 o4 o5 (by omega) (by omega) (by omega) (by omega)
      rw [e1, e2, e3, r3, D, ← E]
      exact ⟨fun hh => ⟨by have := hh.1; omega, hh.2⟩, fun hh => ⟨by have := hh.1; omega, hh.2⟩⟩
  refine ⟨fun a => ⟨.inl rfl, ?_⟩, fun a => ⟨fun b => ⟨.inl rfl, ?_⟩, fun b => ⟨.inr rfl, ?_⟩⟩⟩
  · rw [show xp n x.2 = false by cases hb : xp n x.2; rfl; exact absurd a (K.mpr hb).1] at h; exact h
  · rw [show xp n x.2 = false by cases hb : xp n x.2; rfl; exact absurd (K.mpr hb).2 b] at h; exact h
  · rw [K.mp ⟨a, b⟩] at h; exact h
theorem cq_includes {S : xm_S} {r N sc n : Nat} {l : List xit} {g : Int32 → xm_S → Prop} (R : RO S r l N) (hok : lOK l) (hs : sc ≤ 2) (hn : n < 100000) (h : g (bI (hf sc n false false l)) S) : wp_X6_includes r (nI (dgN n)) (nI sc) S g := by
  obtain ⟨h1, h2, h3, h4, h5, ta, h6, h7, h8, h9, h10⟩ := R
  have hdn : dgN n < 1048576 := dgf_lt (by omega) (by omega) (by omega) (by omega) (by omega)
  have hrn : rkN sc n < 1048576 := rkf_lt (by omega) (by omega) (by omega) (by omega) (by omega)
  have r2 := rp10_b (v := n % 10) (by omega)
  have r3 : rp10 (n % 10) = 10 ↔ n % 10 = 0 := by unfold rp10; split <;> omega
  unfold wp_X6_includes
  refine cq_rank hs (by omega) (by omega) (by omega) (by omega) (by omega) ?_
  rw [show rkf sc (n / 10000) (n / 1000 % 10) (n / 100 % 10) (n / 10 % 10) (n % 10) = rkN sc n from rfl, pk_andN (n := dgN n) (by omega) 4 (by decide), nI_eq (by omega) (by decide), show dgN n % 2 ^ 4 = rp10 (n % 10) by unfold dgN dgf; omega, r3]
  have X : wp_X6_includes_20 r (nI (dgN n)) (nI sc) (nI (rkN sc n)) (bI (rl n)) S g := by
    unfold wp_X6_includes_20 wp_X6_includes_31
    intro Z hZ
    have H : ∀ d i a t, i + d = l.length → g (bI (hf sc n a t (l.drop i))) S → Z (nI (dgN n)) (nI sc) (nI (rkN sc n)) (bI (rl n)) (bI a) (bI t) (nI i) S := by
      intro d
      induction d with
      | zero =>
        intro i a t hi hg
        refine hZ _ _ _ _ _ _ _ _ ?_
        unfold wp_X6_includes_31B wp_X6_includes_151 wp_X6_includes_152
        rw [List.drop_eq_nil_of_le (by omega)] at hg
        rw [h5]
        refine ⟨h3, fun _ => bI_c (fun ha => bI_c (fun ht => ⟨.inr rfl, ?_⟩) (fun ht => ⟨.inl rfl, ?_⟩)) (fun ha => ⟨.inl rfl, ?_⟩), fun e => absurd (nI_le (by omega) (by omega)) e⟩
        · rw [ha, ht] at hg; exact hg
        · rw [ha, ht] at hg; exact hg
        · rw [ha] at hg; exact hg
      | succ d ih =>
        intro i a t hi hg
        have hil : i < l.length := by omega
        have hgl : l[i]? = some l[i] := List.getElem?_eq_getElem hil
        obtain ⟨o, o1, o2, o3, o4⟩ := h10 i _ hgl
        have okx : ∀ t, l[i].2 = some t → tOK t := hok _ (List.getElem_mem hil)
        rw [List.drop_eq_getElem_cons hil] at hg
        generalize l[i] = x at *
        refine hZ _ _ _ _ _ _ _ _ ?_
        unfold wp_X6_includes_31B
        rw [h5]
        refine ⟨h3, fun e => absurd e (nI_ge hil (by omega)), fun _ => ⟨_, h8, _, h9, vp_in_nI (show i < 20 by omega) (by decide), ?_⟩⟩
        rw [nI_clamp (by omega), o3]
        refine ⟨o, rfl, o4.1, ?_⟩
        rw [o4.2.2.2.2.2.2.1]
        have P108 : ∀ a' t' ac : Bool, ac = (a' && xt sc n x.2) → g (bI (hf sc n (a' && xt sc n x.2) (t' || xp n x.2) (l.drop (i + 1)))) S → wp_X6_includes_108 r (nI (dgN n)) (nI sc) (nI (rkN sc n)) (bI (rl n)) (bI t') (nI i) (some o) (bI ac) S g Z := by
          intro a' t' ac eac hg'
          rw [← eac] at hg'
          unfold wp_X6_includes_108 wp_X6_includes_124 wp_X6_includes_129
          refine bI_c' (fun ht y ey => ?_) (fun ht => ⟨o, rfl, o4.1, cq_tells o4 okx hn (bI_c (fun hp y ey => ?_) (fun hp y ey => ?_))⟩)
          · rw [ey, nI_1]
            rw [ht, Bool.true_or] at hg'
            exact ih (i + 1) ac true (by omega) hg'
          · rw [ey, nI_1]
            rw [hp, Bool.or_true] at hg'
            exact ih (i + 1) ac true (by omega) hg'
          · rw [ey, nI_1]
            rw [ht, hp] at hg'
            exact ih (i + 1) ac false (by omega) hg'
        have P76 : ∀ a' t' : Bool, g (bI (hf sc n (a' && xt sc n x.2) (t' || xp n x.2) (l.drop (i + 1)))) S → wp_X6_includes_76 r (nI (dgN n)) (nI sc) (nI (rkN sc n)) (bI (rl n)) (bI a') (bI t') (nI i) (some o) S g Z := by
          intro a' t' hg'
          have P := P108 a' t'
          have ts := o4.2.2.2.2.2.2.2 sc (by omega)
          have AI := acc_iff (sc := sc) (n := n) (x := x.2) hs hn okx
          have fb : frx sc x.2 < 2 ^ 31 ∧ bex sc x.2 < 2 ^ 31 := by
            cases hx : x.2 with
            | none => exact ⟨(by decide : (0 : Nat) < 2 ^ 31), (by decide : (1048576 : Nat) < 2 ^ 31)⟩
            | some t =>
              obtain ⟨q1, q2, q3, q4, q5, q6, q7, q8⟩ := okx t hx
              have hb := nxt_b t.1 t.2.2.1 t.2.2.2.1 t.2.2.2.2.1 t.2.2.2.2.2.2 ⟨q3, q4, q5⟩
              have b1 : rkT sc t < 1048576 := rkf_lt (by omega) (by omega) (by omega) (by omega) (by omega)
              have b2 : rkf sc t.2.1 (nxt t.1 t.2.2.1 t.2.2.2.1 t.2.2.2.2.1 t.2.2.2.2.2.2).1 (nxt t.1 t.2.2.1 t.2.2.2.1 t.2.2.2.2.1 t.2.2.2.2.2.2).2.1 (nxt t.1 t.2.2.1 t.2.2.2.1 t.2.2.2.2.1 t.2.2.2.2.2.2).2.2 0 < 1048576 := rkf_lt (by omega) hb.1 hb.2.1 hb.2.2 (by omega)
              constructor
              · show (if t.1 = 2 ∨ t.1 = 4 then 0 else if t.1 = 1 then rkT sc t + 1 else rkT sc t) < 2 ^ 31
                repeat' split
                all_goals omega
              · show (if t.1 = 1 ∨ t.1 = 3 then 1048576 else if t.1 = 2 then rkT sc t else if t.1 = 5 ∨ t.1 = 6 then rkf sc t.2.1 (nxt t.1 t.2.2.1 t.2.2.2.1 t.2.2.2.2.1 t.2.2.2.2.2.2).1 (nxt t.1 t.2.2.1 t.2.2.2.1 t.2.2.2.2.1 t.2.2.2.2.2.2).2.1 (nxt t.1 t.2.2.1 t.2.2.2.1 t.2.2.2.2.1 t.2.2.2.2.2.2).2.2 0 else rkT sc t + 1) < 2 ^ 31
                repeat' split
                all_goals omega
          unfold wp_X6_includes_76 wp_X6_includes_107
          refine bI_c (fun ha => ⟨o, rfl, o4.1, _, o4.2.1, _, o4.2.2.2.1, vp_in_nI (show sc < 3 by omega) (by decide), ?_⟩) (fun ha => P false (by rw [ha, Bool.false_and]) hg')
          rw [nI_clamp (by omega), ts.1, nI_ltI (by omega) fb.1]
          refine ⟨fun c => P false ?_ hg', fun c => ⟨o, rfl, o4.1, _, o4.2.2.1, _, o4.2.2.2.2.1, vp_in_nI (show sc < 3 by omega) (by decide), ?_⟩⟩
          · rw [ha, Bool.true_and]
            cases hb : xt sc n x.2
            · rfl
            · have := (AI.mpr hb).1; omega
          · rw [ts.2, nI_leI fb.2 (by omega)]
            refine ⟨fun c' => P false ?_ hg', fun c' => P true ?_ hg'⟩
            · rw [ha, Bool.true_and]
              cases hb : xt sc n x.2
              · rfl
              · have := (AI.mpr hb).2; omega
            · rw [ha, Bool.true_and, AI.mp ⟨by omega, by omega⟩]
        have hg2 : g (bI (if x.1 then ((a && t) || hf sc n (xt sc n x.2) (rl n || xp n x.2) (l.drop (i + 1))) else hf sc n (a && xt sc n x.2) (t || xp n x.2) (l.drop (i + 1)))) S := hg
        refine bI_c (fun hx => ?_) (fun hx => ?_)
        · rw [hx, if_pos rfl] at hg2
          unfold wp_X6_includes_69
          refine bI_c (fun ha => bI_c (fun ht => ?_) (fun ht => ?_)) (fun ha => ?_)
          · rw [ha, ht] at hg2; exact hg2
          · rw [ht, Bool.and_false, Bool.false_or] at hg2
            exact P76 true (rl n) (by rw [Bool.true_and]; exact hg2)
          · rw [ha, Bool.false_and, Bool.false_or] at hg2
            exact P76 true (rl n) (by rw [Bool.true_and]; exact hg2)
        · rw [hx, if_neg (by decide)] at hg2
          exact P76 a t hg2
    exact H l.length 0 false false (by omega) h
  exact ⟨fun e => by rw [show rl n = false from decide_eq_false e] at X; exact X, fun e => by rw [show rl n = true from decide_eq_true e] at X; exact X⟩
