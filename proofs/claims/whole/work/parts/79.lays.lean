-- install: the reference's files
def fCm (n _k : Nat) : Bool := n == 1052
theorem fCm_M {S S' : xm_S} {W : VV} (M : MR S W) (F : xf_F fCm S S') : MR S' W := MR_F M F (fun f _ => rfl) (fun f k e => by
  have h2 : f ≠ 51 := fun hh => by subst hh; cases e
  exact beq_eq_false_iff_ne.mpr (show 1001 + f ≠ 1052 by omega))
theorem fCm_K {S S' : xm_S} (F : xf_F fCm S S') : KC S S' := fun n hn => ⟨F.1 n, F.2.1 n, F.2.2.1 n, fun k => F.2.2.2 n k (beq_eq_false_iff_ne.mpr (by omega))⟩
/-- what is known while the files are counted: nothing of the counts, once two came to one path -/
def AOK (S : xm_S) (s : AS) (x2 : Int32) : Prop := s.2.2 = true → x2 = nI s.1 ∧ ∀ j, j < 16 → st_i S 1052 j = bI (s.2.1 j)
theorem m_lays {S : xm_S} {W : VV} {l : Nat} {g : Int32 → xm_S → Prop} (M : MR S W) (I : Iv W) (hl : l < 3) (h : ∀ S', xf_F fCm S S' → ((aimA W l 6).2.2 = true → (∀ j, j < 16 → st_i S' 1052 j = bI ((aimA W l 6).2.1 j)) → g (nI (aimA W l 6).1) S') ∧ ((aimA W l 6).2.2 = false → g (-1) S')) : wp_X12_laysFiles 1000 (nI l) S g := by
  unfold wp_X12_laysFiles wp_X12_laysFiles_7
  intro Z hZ
  have H0 : ∀ d k S1, k + d = 16 → xf_F fCm S S1 → (∀ j, j < k → st_i S1 1052 j = 0) → Z (nI l) 0 1 (nI k) S1 := by
    intro d
    induction d with
    | zero =>
      intro k S1 hk F1 z1
      refine hZ _ _ _ _ _ ?_
      unfold wp_X12_laysFiles_7B wp_X12_laysFiles_31
      rw [show k = 16 by omega] at z1 ⊢
      refine ⟨fun _ Z2 hZ2 => ?_, fun e => absurd (nI_le (Nat.le_refl 16) (by decide)) e⟩
      have H : ∀ d p S2 x2, p + d = 6 → xf_F fCm S S2 → AOK S2 (aimA W l p) x2 → Z2 (nI l) x2 (bI (aimA W l p).2.2) (nI p) S2 := by
        intro d
        induction d with
        | zero =>
          intro p S2 x2 hp F2 ao
          refine hZ2 _ _ _ _ _ ?_
          unfold wp_X12_laysFiles_31B wp_X12_laysFiles_170
          rw [show p = 6 by omega] at ao ⊢
          refine ⟨fun _ => bI_c (fun b => ?_) (fun b => (h S2 F2).2 b), fun e => absurd (nI_le (Nat.le_refl 6) (by decide)) e⟩
          rw [(ao b).1]
          exact (h S2 F2).1 b (ao b).2
        | succ d ih =>
          intro p S2 x2 hp F2 ao
          have M2 := fCm_M M F2
          have eA : aimA W l (p + 1) = if W 29 (6 * l + p) = -1 then aimA W l p else aimK W p (lkN W l p) (vn W 44 (lkN W l p)) (aimA W l p) := rfl
          refine hZ2 _ _ _ _ _ ?_
          unfold wp_X12_laysFiles_31B
          rw [pk_mul, nI_add]
          refine ⟨fun e => absurd e (nI_ge (show p < 6 by omega) (by decide)), fun _ => ⟨M2.1.1, _, MS_r M2.1 29, _, MS_t M2.1 29, vp_in_nI (show 6 * l + p < 18 by omega) (by decide), fun y47 e47 => ?_⟩⟩
          rw [nI_clamp (show 6 * l + p < 2 ^ 31 by omega), show st_i S2 (1001 + 29) (6 * l + p) = W 29 (6 * l + p) from M2.2.2 29 _ rfl] at e47
          subst e47
          refine ⟨fun e => ?_, fun e => ?_⟩
          · obtain ⟨k1, k2, k3⟩ := lk_pk I hl (show p < 6 by omega) e
            have hlk : lkN W l p < 24 := by unfold lkN; omega
            have q44 := (I.1.2.2.1 (lkN W l p) hlk).2.2.2
            have q442 := q44.2
            rw [if_neg e] at eA
            rw [pk_mul, show nI (4 * p) + W 29 (6 * l + p) = nI (lkN W l p) by rw [k1, nI_add]; rfl]
            unfold wp_X12_laysFiles_69 wp_X12_laysFiles_77
            intro y39 e39 Z3 hZ3
            rw [pk_mul] at e39
            subst e39
            have H3 : ∀ d k S3 x3, k + d = vn W 44 (lkN W l p) → xf_F fCm S S3 → AOK S3 (aimK W p (lkN W l p) k (aimA W l p)) x3 → Z3 (nI l) x3 (bI (aimK W p (lkN W l p) k (aimA W l p)).2.2) (nI p) (W 29 (6 * l + p)) (nI (lkN W l p)) (nI (3 * lkN W l p + k)) S3 := by
              intro d
              induction d with
              | zero =>
                intro k S3 x3 hk F3 ao3
                have M3 := fCm_M M F3
                refine hZ3 _ _ _ _ _ _ _ _ ?_
                unfold wp_X12_laysFiles_77B wp_X12_laysFiles_155
                rw [nI_clamp (show lkN W l p < 2 ^ 31 by omega)]
                refine ⟨M3.1.1, _, MS_r M3.1 44, _, MS_t M3.1 44, vp_in_nI hlk (by decide), ?_⟩
                rw [show st_i S3 (1001 + 44) (lkN W l p) = nI (vn W 44 (lkN W l p)) from (M3.2.2 44 _ rfl).trans q44.1, pk_mul, nI_add]
                rw [show k = vn W 44 (lkN W l p) by omega] at ao3 ⊢
                refine ⟨fun _ y ey => ?_, fun e => absurd (nI_le (Nat.le_refl _) (by omega)) e⟩
                rw [ey, nI_1]
                rw [← eA] at ao3 ⊢
                exact ih (p + 1) S3 x3 (by omega) F3 ao3
              | succ d ih3 =>
                intro k S3 x3 hk F3 ao3
                have M3 := fCm_M M F3
                have q45 := (I.2.2.2.1.2.2.2.2.2.2.2 (3 * lkN W l p + k) (by omega)).2.1
                have q452 := q45.2
                have tb := tg_b (p := p) I (show vn W 45 (3 * lkN W l p + k) < 16 by omega)
                have eK : aimK W p (lkN W l p) (k + 1) (aimA W l p) = stp (tg W p (vn W 45 (3 * lkN W l p + k))) (aimK W p (lkN W l p) k (aimA W l p)) := rfl
                refine hZ3 _ _ _ _ _ _ _ _ ?_
                unfold wp_X12_laysFiles_77B
                rw [nI_clamp (show lkN W l p < 2 ^ 31 by omega), nI_clamp (show 3 * lkN W l p + k < 2 ^ 31 by omega)]
                refine ⟨M3.1.1, _, MS_r M3.1 44, _, MS_t M3.1 44, vp_in_nI hlk (by decide), ?_⟩
                rw [show st_i S3 (1001 + 44) (lkN W l p) = nI (vn W 44 (lkN W l p)) from (M3.2.2 44 _ rfl).trans q44.1, pk_mul, nI_add]
                refine ⟨fun e => absurd e (nI_ge (show 3 * lkN W l p + k < 3 * lkN W l p + vn W 44 (lkN W l p) by omega) (by omega)), fun _ => ⟨fun e2 => absurd e2 e, fun _ => ⟨_, MS_r M3.1 45, _, MS_t M3.1 45, vp_in_nI (show 3 * lkN W l p + k < 72 by omega) (by decide), ?_⟩⟩⟩
                rw [show st_i S3 (1001 + 45) (3 * lkN W l p + k) = nI (vn W 45 (3 * lkN W l p + k)) from (M3.2.2 45 _ rfl).trans q45.1]
                refine m_place M3 I (by omega) ?_
                generalize tg W p (vn W 45 (3 * lkN W l p + k)) = y at tb eK ⊢
                -- behind the test
                have T : ∀ s0 : Bool, s0 = (stp y (aimK W p (lkN W l p) k (aimA W l p))).2.2 → wp_X12_laysFiles_134 1000 (nI l) x3 (nI p) (W 29 (6 * l + p)) (nI (lkN W l p)) (nI (3 * lkN W l p + k)) (nI y) (bI s0) S3 g Z2 Z3 := fun s0 es => by
                  unfold wp_X12_laysFiles_134
                  rw [nI_clamp (show y < 2 ^ 31 by omega)]
                  refine ⟨M3.1.1, _, MS_r M3.1 51, _, MS_t M3.1 51, vp_in_nI tb (by decide), _, MS_r M3.1 51, _, MS_t M3.1 51, vp_in_nI tb (by decide), fun S14 e14 y16 e16 y18 e18 => ?_⟩
                  rw [e18, nI_1, es, ← eK]
                  refine ih3 (k + 1) S14 y16 (by omega) (by rw [e14]; exact xf_pi F3 rfl) fun ok => ?_
                  rw [eK] at ok ⊢
                  by_cases o : (aimK W p (lkN W l p) k (aimA W l p)).2.2 = true
                  · obtain ⟨a1, a2⟩ := ao3 o
                    unfold stp at ok ⊢
                    rw [if_pos o] at ok ⊢
                    by_cases t : (aimK W p (lkN W l p) k (aimA W l p)).2.1 y = true
                    · rw [if_pos t] at ok; cases ok
                    · rw [if_neg t]
                      have t' : (aimK W p (lkN W l p) k (aimA W l p)).2.1 y = false := by cases hb : (aimK W p (lkN W l p) k (aimA W l p)).2.1 y; rfl; exact absurd hb t
                      refine ⟨by rw [e16, a1, nI_1], fun j hj => ?_⟩
                      show st_i S14 1052 j = bI ((aimK W p (lkN W l p) k (aimA W l p)).2.1 j || j == y)
                      by_cases e2 : j = y
                      · rw [e14, e2, show (1001 + 51 : Nat) = 1052 from rfl, st_i_pi_s, a2 y tb, t', show (y == y) = true from beq_self_eq_true _]; rfl
                      · rw [e14, st_i_pi_n _ _ _ _ _ _ (fun hh => e2 hh.2), show (j == y) = false from beq_eq_false_iff_ne.mpr e2, Bool.or_false]
                        exact a2 j hj
                  · rw [stp_f (by cases hb : (aimK W p (lkN W l p) k (aimA W l p)).2.2; rfl; exact absurd hb o)] at ok
                    exact absurd ok o
                unfold wp_X12_laysFiles_133
                refine bI_c (fun o => ?_) (fun o => T false (by rw [stp_f o, o]))
                refine ⟨M3.1.1, _, MS_r M3.1 51, _, MS_t M3.1 51, vp_in_nI tb (by decide), ?_⟩
                rw [nI_clamp (show y < 2 ^ 31 by omega), show st_i S3 (1001 + 51) y = bI ((aimK W p (lkN W l p) k (aimA W l p)).2.1 y) from (ao3 o).2 y tb]
                refine bI_c' (fun t => T false ?_) (fun t => T true ?_)
                · unfold stp; rw [if_pos o, if_pos t]
                · unfold stp; rw [if_pos o, if_neg (by rw [t]; decide)]
            exact H3 (vn W 44 (lkN W l p)) 0 S2 x2 (by omega) F2 ao
          · rw [if_pos e] at eA
            have q44 := (I.1.2.2.1 0 (by decide)).2.2.2
            have q442 := q44.2
            unfold wp_X12_laysFiles_69 wp_X12_laysFiles_77
            intro y39 e39 Z3 hZ3
            have e39 : y39 = nI (3 * 0) := by rw [e39, ← pk_mul]; rfl
            subst e39
            refine hZ3 _ _ _ _ _ _ _ _ ?_
            unfold wp_X12_laysFiles_77B wp_X12_laysFiles_155
            have Y : ∀ y1, y1 = nI p + 1 → Z2 (nI l) x2 (bI (aimA W l p).2.2) y1 S2 := fun y ey => by
              rw [ey, nI_1]
              rw [← eA] at ao ⊢
              exact ih (p + 1) S2 x2 (by omega) F2 ao
            exact ⟨M2.1.1, _, MS_r M2.1 44, _, MS_t M2.1 44, vp_in_nI (n := 0) (by decide) (by decide), fun _ => Y, fun _ => ⟨fun _ => Y, fun e2 => absurd e e2⟩⟩
      exact H 6 0 S1 0 rfl F1 (fun _ => ⟨rfl, fun j hj => z1 j hj⟩)
    | succ d ih =>
      intro k S1 hk F1 z1
      have M1 := fCm_M M F1
      refine hZ _ _ _ _ _ ?_
      unfold wp_X12_laysFiles_7B
      rw [nI_clamp (show k < 2 ^ 31 by omega)]
      refine ⟨fun e => absurd e (nI_ge (show k < 16 by omega) (by decide)), fun _ => ⟨M1.1.1, _, MS_r M1.1 51, _, MS_t M1.1 51, vp_in_nI (show k < 16 by omega) (by decide), fun S55 e55 y ey => ?_⟩⟩
      rw [ey, nI_1]
      refine ih (k + 1) S55 (by omega) (by rw [e55]; exact xf_pi F1 rfl) (fun j hj => ?_)
      by_cases e : j = k
      · rw [e, e55]; exact st_i_pi_s _ _ _ _
      · rw [e55, st_i_pi_n _ _ _ _ _ _ (by omega)]; exact z1 j (by omega)
  exact H0 16 0 S rfl (xf_rfl _ _) (fun j hj => absurd hj (Nat.not_lt_zero _))
-- the least that can go
def gfr (V : VV) : Nat → Nat → Int32
  | 0, _ => -1
  | d + 1, k => if go V k then nI k else gfr V d (k + 1)
theorem gfr_x {V : VV} : ∀ d k, gfr V d k = -1 ∨ ∃ i, k ≤ i ∧ i < k + d ∧ gfr V d k = nI i := by
  intro d
  induction d with
  | zero => intro k; exact .inl rfl
  | succ d ih =>
    intro k
    unfold gfr
    by_cases e : go V k = true
    · rw [if_pos e]; exact .inr ⟨k, by omega, by omega, rfl⟩
    · rw [if_neg e]
      rcases ih (k + 1) with h | ⟨i, a, b, c⟩
      · exact .inl h
      · exact .inr ⟨i, by omega, by omega, c⟩
theorem gfr_c {V V' : VV} (e : ∀ f k, (f = 55 ∨ f = 57 ∨ f = 58) → V' f k = V f k) : ∀ d k, gfr V' d k = gfr V d k := by
  intro d
  induction d with
  | zero => intro k; rfl
  | succ d ih =>
    intro k
    have q : go V' k = go V k := by unfold go; rw [e 58 k (by omega), e 57 k (by omega), e 55 0 (by omega)]
    unfold gfr
    rw [q, ih]
theorem c_least {S : xm_S} {V W : VV} {N : Nat} {g : Int32 → xm_S → Prop} (R : RR S V W N) (I : Iv V) (h : g (gfr V (kp_ V) 0) S) : wp_X2_leastToGo 24 S g := by
  have s := gS_24 R.1.2.2.1
  obtain ⟨π, P⟩ := CR_gI3 R.1
  have P : PI3 S V π := P
  obtain ⟨k1, k6⟩ := kp_6 I
  have x2 : st_i S 24 2 = nI (kp_ V) := (CR_gI2 R.1).2.1.trans k1
  unfold wp_X2_leastToGo wp_X2_leastToGo_2
  intro Z hZ
  have H : ∀ d k, k + d = kp_ V → g (gfr V d k) S → Z (nI k) S := by
    intro d
    induction d with
    | zero =>
      intro k hk hg
      refine hZ _ _ ?_
      unfold wp_X2_leastToGo_2B
      rw [x2, show k = kp_ V by omega]
      exact ⟨s.2, fun _ => hg, fun e => absurd (nI_le (Nat.le_refl _) (by omega)) e⟩
    | succ d ih =>
      intro k hk hg
      unfold gfr at hg
      refine hZ _ _ ?_
      unfold wp_X2_leastToGo_2B
      rw [x2]
      refine ⟨s.2, fun e => absurd e (nI_ge (show k < kp_ V by omega) (by omega)), fun _ => c_canGo R I P (by omega) (bI_c (fun b => ?_) (fun b y ey => ?_))⟩
      · rw [if_pos b] at hg; exact hg
      · rw [if_neg (by rw [b]; decide)] at hg
        rw [ey, nI_1]
        exact ih (k + 1) (by omega) hg
  exact H (kp_ V) 0 (by omega) h
theorem m_goner {S : xm_S} {W : VV} {g : Int32 → xm_S → Prop} (M : MR S W) (I : Iv W) (h : g (gfr W (kp_ W) 0) S) : wp_X12_goner 1000 S g := by
  obtain ⟨k1, k6⟩ := kp_6 I
  unfold wp_X12_goner
  refine ⟨M.1.1, fun y15 e15 => ?_⟩
  rw [show st_i S 1000 56 = nI (kp_ W) from (M.2.1 56 rfl).trans k1] at e15
  have e15 : y15 = dn (kp_ W) := e15
  subst e15
  unfold wp_X12_goner_9
  intro Z hZ
  have H : ∀ k d, k + d = kp_ W → Z (gfr W d k) (dn k) S := by
    intro k
    induction k with
    | zero =>
      intro d hd
      refine hZ _ _ _ ?_
      unfold wp_X12_goner_9B
      rw [show d = kp_ W by omega]
      exact ⟨fun _ => h, fun e => absurd dn_0 e⟩
    | succ k ih =>
      intro d hd
      have ih := ih (d + 1) (by omega)
      rw [show gfr W (d + 1) k = if go W k then nI k else gfr W d (k + 1) from rfl] at ih
      refine hZ _ _ _ ?_
      unfold wp_X12_goner_9B wp_X12_goner_35 wp_X12_goner_40
      rw [dn_s, nI_clamp (show k < 2 ^ 31 by omega)]
      refine ⟨fun e => absurd e (dn_n (by omega)), fun _ => ⟨M.1.1, _, MS_r M.1 58, _, MS_t M.1 58, vp_in_nI (show k < 7 by omega) (by decide), ?_⟩⟩
      rw [show st_i S (1001 + 58) k = W 58 k from M.2.2 58 _ rfl]
      have Y := go_c (V := W) (k := k) (A := ∀ y1, y1 = nI k + (-1 : Int32) → Z (nI k) y1 S) (B := ∀ y1, y1 = nI k + (-1 : Int32) → Z (gfr W d (k + 1)) y1 S) (fun b y ey => by rw [if_pos b] at ih; rw [ey, dn_a]; exact ih) (fun b y ey => by rw [if_neg (by rw [b]; decide)] at ih; rw [ey, dn_a]; exact ih)
      refine ⟨Y.1, fun e => ⟨_, MS_r M.1 57, _, MS_t M.1 57, vp_in_nI (show k < 7 by omega) (by decide), ?_⟩⟩
      rw [show st_i S (1001 + 57) k = W 57 k from M.2.2 57 _ rfl, show st_i S 1000 55 = W 55 0 from M.2.1 55 rfl]
      exact ⟨(Y.2 e).2, (Y.2 e).1⟩
  exact H (kp_ W) 0 rfl
