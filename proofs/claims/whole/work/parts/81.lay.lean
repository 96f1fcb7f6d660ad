-- install: files laid, on both sides
def layK (V : VV) (p a : Nat) : Nat → VV
  | 0 => V
  | k + 1 => lyV (layK V p a k) p (3 * a + k)
def layP (V : VV) (U : VV) (l p : Nat) : VV := if U 29 (6 * l + p) = -1 then V else layK V p (lkN U l p) (vn U 44 (lkN U l p))
def layA (V : VV) (l : Nat) : Nat → VV
  | 0 => V
  | p + 1 => uV (layP (layA V l p) V l p) 50 p (V 29 (6 * l + p))
theorem layK_f {V : VV} {p a : Nat} : ∀ k f j, f ≠ 50 → f ≠ 53 → layK V p a k f j = V f j := by
  intro k
  induction k with
  | zero => intro f j _ _; rfl
  | succ k ih => intro f j h h2; exact (lyV_f _ _ h h2).trans (ih f j h h2)
theorem layP_f {V U : VV} {l p : Nat} (f j : Nat) (h : f ≠ 50) (h2 : f ≠ 53) : layP V U l p f j = V f j := by
  unfold layP
  split
  · rfl
  · exact layK_f _ _ _ h h2
theorem layA_f {V : VV} {l : Nat} : ∀ p f j, f ≠ 50 → f ≠ 53 → layA V l p f j = V f j := by
  intro p
  induction p with
  | zero => intro f j _ _; rfl
  | succ p ih => intro f j h h2; exact (uV_n _ _ _ _ _ _ (by omega)).trans ((layP_f _ _ h h2).trans (ih f j h h2))
theorem Iv_layK {V : VV} {p a : Nat} (I : Iv V) (hp : p < 6) (ha : a < 24) : ∀ k, k ≤ 3 → Iv (layK V p a k) := by
  intro k
  induction k with
  | zero => intro _; exact I
  | succ k ih => intro h; exact Iv_ly (ih (by omega)) hp (by omega)
theorem Iv_v50 {V : VV} {p : Nat} {x : Int32} (I : Iv V) (hp : p < 6) (hx : x = -1 ∨ ∃ n, n ≤ 999 ∧ x = nI n) : Iv (uV V 50 p x) := by
  refine Iv_50 I (fun f k h _ _ => uV_n _ _ _ _ _ _ (by omega)) (fun k hk => ?_) (fun k hk => ?_)
  · by_cases e : k = p
    · rw [e]
      rcases hx with h | ⟨n, l, h⟩
      · exact .inl ((uV_s _ _ _ _).trans h)
      · exact .inr (In_nI (n := n) ((uV_s _ _ _ _).trans h) l (by omega)).1
    · exact Im_e (I.2.2.2.2.2.1 k hk) (uV_n _ _ _ _ _ _ (by omega))
  · rw [uV_n _ _ _ _ _ _ (by omega), uV_n _ _ _ _ _ _ (by omega), uV_n _ _ _ _ _ _ (by omega)]
    exact I.2.2.2.2.2.2.1 k hk
theorem v29_x {V : VV} {l p : Nat} (I : Iv V) (hl : l < 3) (hp : p < 6) : V 29 (6 * l + p) = -1 ∨ ∃ n, n ≤ 999 ∧ V 29 (6 * l + p) = nI n := by
  by_cases e : V 29 (6 * l + p) = -1
  · exact .inl e
  · obtain ⟨k1, k2, k3⟩ := lk_pk I hl hp e
    exact .inr ⟨_, by omega, k1⟩
theorem lkN_b {V : VV} {l p : Nat} (I : Iv V) (hl : l < 3) (hp : p < 6) (e : V 29 (6 * l + p) ≠ -1) : lkN V l p < 24 ∧ vn V 44 (lkN V l p) ≤ 3 := by
  obtain ⟨k1, k2, k3⟩ := lk_pk I hl hp e
  have h : lkN V l p < 24 := by unfold lkN; omega
  exact ⟨h, (I.1.2.2.1 _ h).2.2.2.2⟩
theorem Iv_layA {V : VV} {l : Nat} (I : Iv V) (hl : l < 3) : ∀ p, p ≤ 6 → Iv (layA V l p) := by
  intro p
  induction p with
  | zero => intro _; exact I
  | succ p ih =>
    intro h
    refine Iv_v50 ?_ (by omega) (v29_x I hl (by omega))
    have ih := ih (by omega)
    unfold layP
    split
    · exact ih
    next e =>
      obtain ⟨a, b⟩ := lkN_b I hl (show p < 6 by omega) e
      exact Iv_layK ih (by omega) a _ b
-- the versions' cells may be laid first
theorem uV_c (V : VV) {f k g j : Nat} {x y : Int32} (h : ¬ (f = g ∧ k = j)) : uV (uV V f k x) g j y = uV (uV V g j y) f k x := by
  funext a b
  unfold uV
  by_cases e1 : a = g ∧ b = j
  · rw [if_pos e1, if_neg (by omega), if_pos e1]
  · rw [if_neg e1]
    by_cases e2 : a = f ∧ b = k
    · rw [if_pos e2, if_pos e2]
    · rw [if_neg e2, if_neg e2, if_neg e1]
theorem pt_c {V : VV} {j p : Nat} {x y z w : Int32} (hp : p < 6) : ptV (uV V 50 p w) j x y z = uV (ptV V j x y z) 50 p w := by
  unfold ptV
  rw [uV_c V (f := 50) (k := p) (by omega), uV_c (uV V 50 (6 + j) x) (f := 50) (k := p) (by omega), uV_c (uV (uV V 50 (6 + j) x) 50 (22 + j) y) (f := 50) (k := p) (by omega)]
theorem ly_c {V : VV} {p q n : Nat} {w : Int32} (hp : p < 6) : lyV (uV V 50 p w) q n = uV (lyV V q n) 50 p w := by
  have e : ∀ f k, (f ≠ 50 ∨ 6 ≤ k) → uV V 50 p w f k = V f k := fun f k h => uV_n _ _ _ _ _ _ (by omega)
  have t : tg (uV V 50 p w) q (vn (uV V 50 p w) 45 n) = tg V q (vn V 45 n) := by
    unfold tg
    rw [vn_e (e 45 n (by omega)), e 48 _ (by omega), vn_e (e 49 _ (by omega))]
  have s : sy (uV V 50 p w) q n = sy V q n := by
    unfold sy
    rw [t, e 47 _ (by omega), e 50 _ (by omega), e 50 _ (by omega), e 50 _ (by omega)]
  have a : asV (uV V 50 p w) q n = uV (asV V q n) 50 p w := by
    unfold asV
    rw [s, t, e 50 _ (by omega), e 46 _ (by omega), e 53 _ (by omega)]
    split
    · exact uV_c V (by omega)
    · rfl
  unfold lyV
  rw [s, t, a, e 50 _ (by omega), e 46 _ (by omega)]
  exact pt_c hp
theorem layK_c {V : VV} {p q a : Nat} {w : Int32} (hp : p < 6) : ∀ k, layK (uV V 50 p w) q a k = uV (layK V q a k) 50 p w := by
  intro k
  induction k with
  | zero => rfl
  | succ k ih =>
    show lyV (layK (uV V 50 p w) q a k) q (3 * a + k) = uV (lyV (layK V q a k) q (3 * a + k)) 50 p w
    rw [ih]
    exact ly_c hp
theorem c_lay {S : xm_S} {V W : VV} {N p j : Nat} {g : xm_S → Prop} (R : RR S V W N) (I : Iv V) (hp : p < 6) (hj : j < vn V 2 p) (h : ∀ S', RR S' (layK V p (4 * p + j) (vn V 44 (4 * p + j))) W N → g S') : wp_X2_layFiles 24 (nI p) (some (200 + 20 * (4 * p + j))) S g := by
  have hc := (I.1.1 p hp).2.2
  have ha : 4 * p + j < 24 := by omega
  have q44 := (I.1.2.2.1 (4 * p + j) ha).2.2.2
  have q442 := q44.2
  unfold wp_X2_layFiles wp_X2_layFiles_2
  intro Z hZ
  have H : ∀ d k S1, k + d = vn V 44 (4 * p + j) → RR S1 (layK V p (4 * p + j) k) W N → Z (nI p) (some (200 + 20 * (4 * p + j))) (nI k) S1 := by
    intro d
    induction d with
    | zero =>
      intro k S1 hk R1
      have I1 := Iv_layK I hp ha k (by omega)
      have e : ∀ f i, f ≠ 50 → f ≠ 53 → layK V p (4 * p + j) k f i = V f i := fun f i a b => layK_f k f i a b
      have v3 := CR_ver R1.1 I1 (i := p) (j := j) hp (by rw [vn_e (e 2 _ (by omega) (by omega))]; exact hj)
      refine hZ _ _ _ _ ?_
      unfold wp_X2_layFiles_2B
      refine ⟨_, rfl, v3.2.1.1, ?_⟩
      rw [v3.2.2.1.2.2.2.2.2.2.2.2.2, e 44 _ (by omega) (by omega), q44.1]
      rw [show k = vn V 44 (4 * p + j) by omega] at R1 ⊢
      exact ⟨fun _ => h S1 R1, fun e => absurd (nI_le (Nat.le_refl _) (by omega)) e⟩
    | succ d ih =>
      intro k S1 hk R1
      have I1 := Iv_layK I hp ha k (by omega)
      have e : ∀ f i, f ≠ 50 → f ≠ 53 → layK V p (4 * p + j) k f i = V f i := fun f i a b => layK_f k f i a b
      have v3 := CR_ver R1.1 I1 (i := p) (j := j) hp (by rw [vn_e (e 2 _ (by omega) (by omega))]; exact hj)
      have eK : layK V p (4 * p + j) (k + 1) = lyV (layK V p (4 * p + j) k) p (3 * (4 * p + j) + k) := rfl
      have ih := fun S' => ih (k + 1) S' (by omega)
      rw [eK] at ih
      have s := gS_24 R1.1.2.2.1
      have i1 := CR_gI1 R1.1
      have x44 : st_i S1 (200 + 20 * (4 * p + j)) 16 = nI (vn V 44 (4 * p + j)) := v3.2.2.1.2.2.2.2.2.2.2.2.2.trans ((e 44 _ (by omega) (by omega)).trans q44.1)
      have w45 := v3.2.2.2.1.2.2 k (by rw [vn_e (e 44 _ (by omega) (by omega))]; omega)
      refine hZ _ _ _ _ ?_
      generalize layK V p (4 * p + j) k = U at R1 I1 v3 ih w45
      generalize hn : 3 * (4 * p + j) + k = n at ih w45
      have hn72 : n < 72 := by omega
      have q45 := (I1.2.2.2.1.2.2.2.2.2.2.2 n hn72)
      have q452 := q45.2.1.2
      have tb := tg_b (p := p) I1 (show vn U 45 n < 16 by omega)
      have mc := CR_mc R1.1 _ tb
      obtain ⟨u0, v1, u1, v2, u2, v3', u3, v4, u4⟩ := i1.2.1
      unfold wp_X2_layFiles_2B
      refine ⟨_, rfl, v3.2.1.1, ?_⟩
      rw [x44, nI_clamp (show k < 2 ^ 31 by omega)]
      refine ⟨fun e => absurd e (nI_ge (show k < vn V 44 (4 * p + j) by omega) (by omega)), fun _ => ⟨_, rfl, v3.2.1.1, _, v3.2.1.2.2.2.2.2.2.2.2.2.1, _, v3.2.1.2.2.2.2.2.2.2.2.2.2.1, vp_in_nI (show k < 3 by omega) (by decide), s.2, ?_⟩⟩
      rw [w45.1, q45.2.1.1]
      refine c_target R1 I1 (by omega) ⟨_, rfl, v3.2.1.1, _, v3.2.1.2.2.2.2.2.2.2.2.2.2.2.1, _, v3.2.1.2.2.2.2.2.2.2.2.2.2.2.2.1, vp_in_nI (show k < 3 by omega) (by decide), fun y34 e34 => ⟨s.2, 25, i1.1, u0, 27, v2, _, u2, vp_in_nI tb (by decide), fun y45 e45 => ⟨25, i1.1, u0, 29, v4, _, u4, vp_in_nI tb (by decide), fun y55 e55 => ⟨_, rfl, v3.2.1.1, _, v3.2.1.2.2.2.2.2.2.2.2.2.2.2.2.2.1, _, v3.2.1.2.2.2.2.2.2.2.2.2.2.2.2.2.2.1, vp_in_nI (show k < 3 by omega) (by decide), ?_⟩⟩⟩⟩
      rw [w45.2.1] at e34
      rw [nI_clamp (show tg U p (vn U 45 n) < 2 ^ 31 by omega), mc.1] at e45
      rw [nI_clamp (show tg U p (vn U 45 n) < 2 ^ 31 by omega), mc.2.2] at e55
      subst e34 e45 e55
      rw [w45.2.2, nI_clamp (show tg U p (vn U 45 n) < 2 ^ 31 by omega)]
      -- behind the decision whether it stays
      have T : wp_X2_layFiles_102 24 (nI p) (some (200 + 20 * (4 * p + j))) (nI k) (nI (tg U p (vn U 45 n))) (U 46 n) (U 50 (6 + tg U p (vn U 45 n))) (U 50 (38 + tg U p (vn U 45 n))) (bI (sy U p n)) S1 g Z := by
        have T2 : ∀ S2, RR S2 (asV U p n) W N → wp_X2_layFiles_126 24 (nI p) (some (200 + 20 * (4 * p + j))) (nI k) (nI (tg U p (vn U 45 n))) (U 46 n) (U 50 (6 + tg U p (vn U 45 n))) (bI (sy U p n)) S2 g Z := fun S2 R2 => by
          have s2 := gS_24 R2.1.2.2.1
          have j1 := CR_gI1 R2.1
          have T3 : ∀ x, x = (if sy U p n then U 50 (6 + tg U p (vn U 45 n)) else U 46 n) → wp_X2_layFiles_144 24 (nI p) (some (200 + 20 * (4 * p + j))) (nI k) (U 46 n) x (nI (tg U p (vn U 45 n))) (st_r S2 24 0) S2 g Z := fun x ex => by
            unfold wp_X2_layFiles_144
            refine ⟨25, j1.1, j1.2.1.1, c_put j1.2.1 tb fun y ey => ?_⟩
            rw [ey, nI_1]
            refine ih _ ?_
            unfold lyV
            rw [← ex]
            exact ⟨CR_put tb R2.1 (Iv_as I1), MR_K R2.2.1 (KM_pi (KM_pi (KM_pi (KM_rfl _) (by omega)) (by omega)) (by omega)), R2.2.2⟩
          unfold wp_X2_layFiles_126
          refine ⟨s2.2, bI_c (fun b => T3 _ (by rw [if_pos b])) (fun b => T3 _ (by rw [if_neg (by rw [b]; decide)]))⟩
        unfold wp_X2_layFiles_102
        refine bI_c (fun b => ⟨fun e => T2 S1 ?_, fun e => ⟨s.2, fun S10 e10 => T2 S10 ?_⟩⟩) (fun b => T2 S1 ?_)
        · unfold asV; rw [if_neg (fun hh => hh.2 e)]; exact R1
        · unfold asV
          rw [if_pos ⟨b, e⟩]
          rw [(CR_gI2 R1.1).2.2.2.2.2.1] at e10
          rw [e10]
          exact ⟨CR_24_6 R1.1 I1, MR_K R1.2.1 (KM_pi (KM_rfl _) (by omega)), R1.2.2⟩
        · unfold asV; rw [if_neg (fun hh => by rw [b] at hh; cases hh.1)]; exact R1
      have T0 : sy U p n = false → wp_X2_layFiles_101 24 (nI p) (some (200 + 20 * (4 * p + j))) (nI k) (nI (tg U p (vn U 45 n))) (U 46 n) (U 50 (6 + tg U p (vn U 45 n))) (U 50 (38 + tg U p (vn U 45 n))) S1 g Z := fun b => by
        unfold wp_X2_layFiles_101
        rw [b] at T
        exact T
      have T1 : ∀ b : Bool, (b = false → sy U p n = false) → (b = true → sy U p n = decide (U 50 (6 + tg U p (vn U 45 n)) ≠ U 50 (38 + tg U p (vn U 45 n)))) → wp_X2_layFiles_83 24 (nI p) (some (200 + 20 * (4 * p + j))) (nI k) (nI (tg U p (vn U 45 n))) (U 46 n) (U 50 (6 + tg U p (vn U 45 n))) (U 50 (38 + tg U p (vn U 45 n))) (bI b) S1 g Z := fun b h0 h1 => by
        unfold wp_X2_layFiles_83
        refine bI_c (fun q => ⟨fun e => T0 ?_, fun e => ?_⟩) (fun q => T0 (h0 q))
        · rw [h1 q]; exact decide_eq_false (fun hh => hh e)
        · rw [h1 q, decide_eq_true e] at T; exact T
      have T4 : sy U p n = false → wp_X2_layFiles_82 24 (nI p) (some (200 + 20 * (4 * p + j))) (nI k) (nI (tg U p (vn U 45 n))) (U 46 n) (U 50 (6 + tg U p (vn U 45 n))) (U 50 (38 + tg U p (vn U 45 n))) S1 g Z := fun b => by
        unfold wp_X2_layFiles_82
        exact T1 false (fun _ => b) (fun e => by cases e)
      refine ⟨fun e => T4 ?_, fun e => ⟨25, i1.1, u0, 28, v3', _, u3, vp_in_nI tb (by decide), ?_⟩⟩
      · unfold sy; rw [decide_eq_false (p := U 47 n ≠ 0) (fun hh => hh e), Bool.false_and]
      · rw [mc.2.1]
        refine ⟨fun e2 => T4 ?_, fun e2 => T1 true (fun q => by cases q) (fun _ => ?_)⟩
        · unfold sy; rw [decide_eq_false e2]; simp
        · unfold sy; rw [decide_eq_true (show U 47 n ≠ 0 from e), decide_eq_true e2]; simp
  exact H (vn V 44 (4 * p + j)) 0 S (by omega) R
theorem m_fileComes {S : xm_S} {W : VV} {p n : Nat} {g : xm_S → Prop} (M : MR S W) (I : Iv W) (hp : p < 6) (hn : n < 72) (h : ∀ S', KC S S' → MR S' (lyV W p n) → st_i S' 1000 0 = st_i S 1000 0 → g S') : wp_X12_fileComes 1000 (nI p) (nI n) S g := by
  have q := I.2.2.2.1.2.2.2.2.2.2.2 n hn
  have q5 := q.2.1.2
  have tb := tg_b (p := p) I (show vn W 45 n < 16 by omega)
  have g3 := I.2.2.2.2.2.2.1 _ tb
  unfold wp_X12_fileComes
  rw [nI_clamp (show n < 2 ^ 31 by omega)]
  refine ⟨M.1.1, _, MS_r M.1 45, _, MS_t M.1 45, vp_in_nI hn (by decide), ?_⟩
  rw [show st_i S (1001 + 45) n = nI (vn W 45 n) from (M.2.2 45 _ rfl).trans q.2.1.1]
  refine m_place M I (by omega) fun y63 e63 y65 e65 => ?_
  rw [nI_add] at e63 e65
  subst e63 e65
  have T : ∀ S1, KC S S1 → MR S1 (asV W p n) → st_i S1 1000 0 = st_i S 1000 0 → wp_X12_fileComes_119 1000 (nI p) (nI n) (nI (tg W p (vn W 45 n))) (nI (6 + tg W p (vn W 45 n))) (nI (38 + tg W p (vn W 45 n))) (bI (sy W p n)) S1 g := fun S1 K1 M1 z1 => by
    have T3 : ∀ x, x = (if sy W p n then W 50 (6 + tg W p (vn W 45 n)) else W 46 n) → wp_X12_fileComes_146 1000 (nI p) (nI n) (nI (tg W p (vn W 45 n))) (nI (38 + tg W p (vn W 45 n))) x (nI (6 + tg W p (vn W 45 n))) (st_r S1 1000 50) S1 g := fun x ex => by
      unfold wp_X12_fileComes_146
      rw [nI_add, nI_clamp (show 6 + tg W p (vn W 45 n) < 2 ^ 31 by omega), nI_clamp (show 22 + tg W p (vn W 45 n) < 2 ^ 31 by omega), nI_clamp (show 38 + tg W p (vn W 45 n) < 2 ^ 31 by omega), nI_clamp (show n < 2 ^ 31 by omega)]
      refine ⟨_, MS_r M1.1 50, _, MS_t M1.1 50, vp_in_nI (show 6 + tg W p (vn W 45 n) < 54 by omega) (by decide), fun S6 e6 => ?_⟩
      have M6 := MR_a (f := 50) (k := 6 + tg W p (vn W 45 n)) (x := x) M1
      rw [← e6] at M6
      refine ⟨M6.1.1, _, MS_r M6.1 50, _, MS_t M6.1 50, vp_in_nI (show 22 + tg W p (vn W 45 n) < 54 by omega) (by decide), fun S14 e14 => ?_⟩
      have M14 := MR_a (f := 50) (k := 22 + tg W p (vn W 45 n)) (x := nI p) M6
      rw [← e14] at M14
      refine ⟨_, MS_r M14.1 46, _, MS_t M14.1 46, vp_in_nI hn (by decide), _, MS_r M14.1 50, _, MS_t M14.1 50, vp_in_nI (show 38 + tg W p (vn W 45 n) < 54 by omega) (by decide), fun S26 e26 => ?_⟩
      rw [show st_i S14 (1001 + 46) n = W 46 n from (M14.2.2 46 _ rfl).trans ((uV_n _ _ _ _ _ _ (by omega)).trans ((uV_n _ _ _ _ _ _ (by omega)).trans (asV_f 46 n (by omega))))] at e26
      have M26 := MR_a (f := 50) (k := 38 + tg W p (vn W 45 n)) (x := W 46 n) M14
      rw [← e26] at M26
      refine h S26 (KC_tr K1 (by rw [e26, e14, e6]; exact KC_pi (KC_pi (KC_pi (KC_rfl _) (by omega)) (by omega)) (by omega))) ?_ ?_
      · unfold lyV ptV
        rw [← ex]
        exact M26
      · rw [e26, st_i_pi_n _ _ _ _ _ _ (by omega), e14, st_i_pi_n _ _ _ _ _ _ (by omega), e6, st_i_pi_n _ _ _ _ _ _ (by omega)]; exact z1
    unfold wp_X12_fileComes_119
    rw [nI_clamp (show 6 + tg W p (vn W 45 n) < 2 ^ 31 by omega), nI_clamp (show n < 2 ^ 31 by omega)]
    refine ⟨M1.1.1, bI_c (fun b => ⟨_, MS_r M1.1 50, _, MS_t M1.1 50, vp_in_nI (show 6 + tg W p (vn W 45 n) < 54 by omega) (by decide), T3 _ ?_⟩) (fun b => ⟨_, MS_r M1.1 46, _, MS_t M1.1 46, vp_in_nI hn (by decide), T3 _ ?_⟩)⟩
    · rw [if_pos b]; exact (M1.2.2 50 _ rfl).trans (asV_f _ _ (by omega))
    · rw [if_neg (by rw [b]; decide)]; exact (M1.2.2 46 _ rfl).trans (asV_f _ _ (by omega))
  have A0 : sy W p n = false → asV W p n = W := fun b => by unfold asV; rw [if_neg (fun hh => by rw [b] at hh; cases hh.1)]
  have T0 : sy W p n = false → wp_X12_fileComes_119 1000 (nI p) (nI n) (nI (tg W p (vn W 45 n))) (nI (6 + tg W p (vn W 45 n))) (nI (38 + tg W p (vn W 45 n))) (0 : Int32) S g := fun b => by
    have := T S (KC_rfl _) (by rw [A0 b]; exact M) rfl
    rw [b] at this
    exact this
  have e50 : ∀ a, a < 54 → st_i S (1001 + 50) a = W 50 a := fun a _ => M.2.2 50 _ rfl
  have T115 : ∀ s0 : Int32, uV W 53 0 (W 53 0 + s0) = asV W p n → wp_X12_fileComes_115 1000 (nI p) (nI n) (nI (tg W p (vn W 45 n))) (nI (6 + tg W p (vn W 45 n))) (nI (38 + tg W p (vn W 45 n))) (bI (sy W p n)) s0 (st_i S 1000 53) (some 1000) S g := fun s0 es => by
    unfold wp_X12_fileComes_115
    refine ⟨1000, rfl, M.1.1, fun S42 e42 => ?_⟩
    rw [show st_i S 1000 53 = W 53 0 from M.2.1 53 rfl] at e42
    refine T S42 (by rw [e42]; exact KC_pi (KC_rfl _) (by omega)) ?_ (by rw [e42, st_i_pi_n _ _ _ _ _ _ (by omega)])
    rw [← es, e42]
    exact MR_s (f := 53) M
  have T114 : asV W p n = W → wp_X12_fileComes_114 1000 (nI p) (nI n) (nI (tg W p (vn W 45 n))) (nI (6 + tg W p (vn W 45 n))) (nI (38 + tg W p (vn W 45 n))) (bI (sy W p n)) (st_i S 1000 53) (some 1000) S g := fun ea => by
    unfold wp_X12_fileComes_114
    exact T115 0 (by rw [Int32.add_zero, uV_self, ea])
  have T82 : wp_X12_fileComes_82 1000 (nI p) (nI n) (nI (tg W p (vn W 45 n))) (nI (6 + tg W p (vn W 45 n))) (nI (38 + tg W p (vn W 45 n))) (bI (sy W p n)) S g := by
    unfold wp_X12_fileComes_82
    refine ⟨M.1.1, bI_c (fun b => ⟨_, MS_r M.1 50, _, MS_t M.1 50, vp_in_nI (show 38 + tg W p (vn W 45 n) < 54 by omega) (by decide), _, MS_r M.1 46, _, MS_t M.1 46, vp_in_nI hn (by decide), ?_⟩) (fun b => T114 (A0 b))⟩
    rw [nI_clamp (show 38 + tg W p (vn W 45 n) < 2 ^ 31 by omega), nI_clamp (show n < 2 ^ 31 by omega), e50 _ (by omega), show st_i S (1001 + 46) n = W 46 n from M.2.2 46 _ rfl]
    refine ⟨fun e => T114 ?_, fun e => T115 1 ?_⟩
    · unfold asV; rw [if_neg (fun hh => hh.2 e)]
    · unfold asV; rw [if_pos ⟨b, e⟩]
  refine ⟨M.1.1, _, MS_r M.1 47, _, MS_t M.1 47, vp_in_nI hn (by decide), ?_⟩
  rw [show st_i S (1001 + 47) n = W 47 n from M.2.2 47 _ rfl]
  refine ⟨fun e => T0 ?_, fun e => ⟨_, MS_r M.1 50, _, MS_t M.1 50, vp_in_nI (show 6 + tg W p (vn W 45 n) < 54 by omega) (by decide), ?_⟩⟩
  · unfold sy; rw [decide_eq_false (p := W 47 n ≠ 0) (fun hh => hh e), Bool.false_and]
  rw [nI_clamp (show 6 + tg W p (vn W 45 n) < 2 ^ 31 by omega), e50 _ (by omega)]
  refine ⟨fun e2 => T0 ?_, fun e2 => ⟨_, MS_r M.1 50, _, MS_t M.1 50, by rw [nI_add]; exact vp_in_nI (show 22 + tg W p (vn W 45 n) < 54 by omega) (by decide), ?_⟩⟩
  · unfold sy
    rw [decide_eq_false (p := W 50 (22 + tg W p (vn W 45 n)) = nI p) (fun hh => nI_m1 (show p < 2 ^ 31 by omega) (hh.symm.trans (g3.1.mp e2)))]
    simp
  rw [nI_add, nI_clamp (show 22 + tg W p (vn W 45 n) < 2 ^ 31 by omega), e50 _ (by omega)]
  refine ⟨fun e3 => T0 ?_, fun e3 => ⟨_, MS_r M.1 50, _, MS_t M.1 50, vp_in_nI (show 6 + tg W p (vn W 45 n) < 54 by omega) (by decide), _, MS_r M.1 50, _, MS_t M.1 50, vp_in_nI (show 38 + tg W p (vn W 45 n) < 54 by omega) (by decide), ?_⟩⟩
  · unfold sy; rw [decide_eq_false e3]; simp
  rw [nI_clamp (show 38 + tg W p (vn W 45 n) < 2 ^ 31 by omega), e50 _ (by omega), e50 _ (by omega)]
  refine ⟨fun e4 => ?_, fun e4 => ?_⟩
  · have b : sy W p n = false := by unfold sy; rw [decide_eq_false (p := W 50 (6 + tg W p (vn W 45 n)) ≠ _) (fun hh => hh e4)]; simp
    rw [b] at T82; exact T82
  · have b : sy W p n = true := by unfold sy; rw [decide_eq_true (show W 47 n ≠ 0 from e), decide_eq_true e3, decide_eq_true (show W 50 (6 + tg W p (vn W 45 n)) ≠ W 50 (38 + tg W p (vn W 45 n)) from e4)]; rfl
    rw [b] at T82; exact T82
