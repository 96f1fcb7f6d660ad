-- install: where files come
def f33 (n _k : Nat) : Bool := n == 33
theorem RR_33 {S S' : xm_S} {V W : VV} {N : Nat} (R : RR S V W N) (I : Iv V) (F : xf_F f33 S S') : RR S' V W N := by
  have hN := R.1.1
  refine ⟨CR_X R.1 I (fun n hn => ⟨KX_ty (F.1 n), fun k _ => F.2.1 n k, fun k hk => .inr (F.2.2.2 n k ?_)⟩) (Nat.le_refl _) (fun n hn => (F.1 n).trans (R.1.2.1 n hn)), MR_K R.2.1 (fun n a b => ⟨F.1 n, F.2.1 n, F.2.2.1 n, fun k => F.2.2.2 n k (beq_eq_false_iff_ne.mpr (by omega))⟩), (F.1 _).trans R.2.2⟩
  by_cases e : n = 33
  · subst e
    exfalso
    have : EIs 33 k = true := by unfold EIs; simp
    rw [this] at hk
    cases hk
  · exact beq_eq_false_iff_ne.mpr e
def tg (V : VV) (p x : Nat) : Nat := if V 48 x = -1 ∨ V 48 x = nI p then x else vn V 49 x
theorem tg_b {V : VV} {p x : Nat} (I : Iv V) (hx : x < 16) : tg V p x < 16 := by
  have g := (I.2.2.2.2.1 x hx).2.2
  unfold tg
  split <;> omega
theorem c_target {S : xm_S} {V W : VV} {N p x : Nat} {g : Int32 → xm_S → Prop} (R : RR S V W N) (I : Iv V) (hx : x < 16) (h : g (nI (tg V p x)) S) : wp_X2_targetOf 24 (nI p) (nI x) S g := by
  have s := gS_24 R.1.2.2.1
  have i1 := CR_gI1 R.1
  have i2 := (CR_gI2 R.1).2.2.2.2.2.2 x hx
  have g9 := (I.2.2.2.2.1 x hx).2
  unfold wp_X2_targetOf wp_X2_targetOf_20 wp_X2_targetOf_30
  rw [nI_clamp (show x < 2 ^ 31 by omega)]
  unfold tg at h
  refine ⟨s.2, 31, i1.2.2.2.2.1, _, i1.2.2.2.2.2.1, vp_in_nI hx (by decide), ?_⟩
  rw [i2.1]
  refine ⟨fun e => by rw [if_pos (.inl e)] at h; exact h, fun e => ⟨31, i1.2.2.2.2.1, _, i1.2.2.2.2.2.1, vp_in_nI hx (by decide), ?_⟩⟩
  rw [i2.1]
  refine ⟨fun e2 => ⟨32, i1.2.2.2.2.2.2.1, _, i1.2.2.2.2.2.2.2.1, vp_in_nI hx (by decide), ?_⟩, fun e2 => by rw [if_pos (.inr e2)] at h; exact h⟩
  rw [if_neg (fun hh => hh.elim e e2)] at h
  rw [i2.2 e, g9.1]
  exact h
theorem m_place {S : xm_S} {W : VV} {p x : Nat} {g : Int32 → xm_S → Prop} (M : MR S W) (I : Iv W) (hx : x < 16) (h : g (nI (tg W p x)) S) : wp_X12_placeOf 1000 (nI p) (nI x) S g := by
  have g9 := (I.2.2.2.2.1 x hx).2
  unfold wp_X12_placeOf wp_X12_placeOf_20 wp_X12_placeOf_30
  rw [nI_clamp (show x < 2 ^ 31 by omega)]
  unfold tg at h
  refine ⟨M.1.1, _, MS_r M.1 48, _, MS_t M.1 48, vp_in_nI hx (by decide), ?_⟩
  rw [show st_i S (1001 + 48) x = W 48 x from M.2.2 48 _ rfl]
  refine ⟨fun e => by rw [if_pos (.inl e)] at h; exact h, fun e => ⟨_, MS_r M.1 48, _, MS_t M.1 48, vp_in_nI hx (by decide), ?_⟩⟩
  rw [show st_i S (1001 + 48) x = W 48 x from M.2.2 48 _ rfl]
  refine ⟨fun e2 => ⟨_, MS_r M.1 49, _, MS_t M.1 49, vp_in_nI hx (by decide), ?_⟩, fun e2 => by rw [if_pos (.inr e2)] at h; exact h⟩
  rw [if_neg (fun hh => hh.elim e e2)] at h
  rw [show st_i S (1001 + 49) x = nI (vn W 49 x) from (M.2.2 49 _ rfl).trans g9.1]
  exact h
abbrev AS : Type := Nat × (Nat → Bool) × Bool
def stp (y : Nat) (s : AS) : AS := if s.2.2 then (if s.2.1 y then (s.1, s.2.1, false) else (s.1 + 1, fun j => s.2.1 j || j == y, true)) else s
def aimK (V : VV) (p a : Nat) : Nat → AS → AS
  | 0, s => s
  | k + 1, s => stp (tg V p (vn V 45 (3 * a + k))) (aimK V p a k s)
def lkN (V : VV) (l p : Nat) : Nat := 4 * p + vn V 29 (6 * l + p)
def aimA (V : VV) (l : Nat) : Nat → AS
  | 0 => (0, fun _ => false, true)
  | p + 1 => if V 29 (6 * l + p) = -1 then aimA V l p else aimK V p (lkN V l p) (vn V 44 (lkN V l p)) (aimA V l p)
theorem stp_f {y : Nat} {s : AS} (h : s.2.2 = false) : stp y s = s := by unfold stp; rw [if_neg (by rw [h]; decide)]
theorem aimK_f {V : VV} {p a : Nat} {s : AS} (h : s.2.2 = false) : ∀ k, aimK V p a k s = s := by
  intro k
  induction k with
  | zero => rfl
  | succ k ih => unfold aimK; rw [ih]; exact stp_f h
theorem aimK_d {V : VV} {p a : Nat} {s : AS} {k : Nat} (h : (aimK V p a k s).2.2 = false) : ∀ d, aimK V p a (k + d) s = aimK V p a k s := by
  intro d
  induction d with
  | zero => rfl
  | succ d ih => show stp _ (aimK V p a (k + d) s) = _; rw [ih]; exact stp_f h
theorem aimA_f {V : VV} {l p : Nat} (h : (aimA V l p).2.2 = false) : ∀ d, (aimA V l (p + d)).2.2 = false := by
  intro d
  induction d with
  | zero => exact h
  | succ d ih =>
    show (if V 29 (6 * l + (p + d)) = -1 then aimA V l (p + d) else aimK V (p + d) (lkN V l (p + d)) (vn V 44 (lkN V l (p + d))) (aimA V l (p + d))).2.2 = false
    split
    · exact ih
    · rw [aimK_f ih]; exact ih
/-- what a lock has of a package -/
theorem lk_pk {V : VV} {l p : Nat} (I : Iv V) (hl : l < 3) (hp : p < 6) (h : V 29 (6 * l + p) ≠ -1) : V 29 (6 * l + p) = nI (vn V 29 (6 * l + p)) ∧ vn V 29 (6 * l + p) < vn V 2 p ∧ vn V 2 p ≤ 4 := by
  rcases (I.2.2.2.1.2.1 (6 * l + p) (by omega)).2 with q | q
  · exact absurd q h
  · have c := (I.1.1 p hp).2.2
    rw [show (6 * l + p) % 6 = p by omega] at q
    exact ⟨q.1, q.2, c⟩
theorem c_aim {S : xm_S} {V W : VV} {N l : Nat} {g : Int32 → xm_S → Prop} (R : RR S V W N) (I : Iv V) (hl : l < 3) (h : ∀ S', xf_F f33 S S' → ((aimA V l 6).2.2 = true → (∀ j, j < 16 → st_i S' 33 j = bI ((aimA V l 6).2.1 j)) → g (nI (aimA V l 6).1) S') ∧ ((aimA V l 6).2.2 = false → g (-1) S')) : wp_X2_aim 24 (some 4) (some (8 + l)) S g := by
  have c1 := R.1.2.2.1
  have s := gS_24 c1
  have c4 := gS_4 c1
  have i1 := CR_gI1 R.1
  have L := CR_gL R.1 l hl
  unfold wp_X2_aim wp_X2_aim_5
  intro Z hZ
  have H0 : ∀ d k S1, k + d = 16 → xf_F f33 S S1 → (∀ j, j < k → st_i S1 33 j = 0) → Z (some 4) (some (8 + l)) 0 (nI k) S1 := by
    intro d
    induction d with
    | zero =>
      intro k S1 hk F1 z1
      refine hZ _ _ _ _ _ ?_
      unfold wp_X2_aim_5B wp_X2_aim_29
      rw [show k = 16 by omega] at z1 ⊢
      refine ⟨fun _ Z2 hZ2 => ?_, fun e => absurd (nI_le (Nat.le_refl 16) (by decide)) e⟩
      have H : ∀ d p S2, p + d = 6 → xf_F f33 S S2 → (aimA V l p).2.2 = true → (∀ j, j < 16 → st_i S2 33 j = bI ((aimA V l p).2.1 j)) → Z2 (some 4) (some (8 + l)) (nI (aimA V l p).1) (nI p) S2 := by
        intro d
        induction d with
        | zero =>
          intro p S2 hp F2 ok t2
          refine hZ2 _ _ _ _ _ ?_
          unfold wp_X2_aim_29B
          rw [show p = 6 by omega] at ok t2 ⊢
          exact ⟨fun _ => (h S2 F2).1 ok t2, fun e => absurd (nI_le (Nat.le_refl 6) (by decide)) e⟩
        | succ d ih =>
          intro p S2 hp F2 ok t2
          have R2 := RR_33 R I F2
          have L2 := CR_gL R2.1 l hl
          have eA : aimA V l (p + 1) = if V 29 (6 * l + p) = -1 then aimA V l p else aimK V p (lkN V l p) (vn V 44 (lkN V l p)) (aimA V l p) := rfl
          have x29 : st_i S2 (8 + l) p = V 29 (6 * l + p) := (L2.2.2.2.2.2 p (by omega)).1
          refine hZ2 _ _ _ _ _ ?_
          unfold wp_X2_aim_29B wp_X2_aim_119
          rw [nI_clamp (show p < 2 ^ 31 by omega)]
          refine ⟨fun e => absurd e (nI_ge (show p < 6 by omega) (by decide)), fun _ => ⟨8 + l, rfl, _, L2.2.1, vp_in_nI (show p < 6 by omega) (by decide), ?_⟩⟩
          rw [x29]
          refine ⟨fun e => ?_, fun e y ey => ?_⟩
          · obtain ⟨k1, k2, k3⟩ := lk_pk I hl (show p < 6 by omega) e
            have P := CR_gP R2.1 p (by omega)
            have vk := CR_ver R2.1 I (i := p) (j := vn V 29 (6 * l + p)) (by omega) k2
            have ha : 4 * p + vn V 29 (6 * l + p) = lkN V l p := rfl
            have q44 := (I.1.2.2.1 (lkN V l p) (by unfold lkN; omega)).2.2.2
            have q442 := q44.2
            have hlk : lkN V l p < 24 := by unfold lkN; omega
            rw [if_neg e] at eA
            refine ⟨4, rfl, _, (F2.1 _).trans c4.2, vp_in_nI (show p < 6 by omega) (by decide), _, P.2.1, P.1, 8 + l, rfl, _, L2.2.1, vp_in_nI (show p < 6 by omega) (by decide), _, P.2.2.1, _, P.2.2.2.1, ?_⟩
            rw [x29, k1, nI_clamp (show vn V 29 (6 * l + p) < 2 ^ 31 by omega), vk.1, ha]
            refine ⟨vp_in_nI (show vn V 29 (6 * l + p) < 4 by omega) (by decide), ?_⟩
            unfold wp_X2_aim_64
            intro Z3 hZ3
            have H3 : ∀ d k S3, k + d = vn V 44 (lkN V l p) → xf_F f33 S S3 → (aimK V p (lkN V l p) k (aimA V l p)).2.2 = true → (∀ j, j < 16 → st_i S3 33 j = bI ((aimK V p (lkN V l p) k (aimA V l p)).2.1 j)) → Z3 (some 4) (some (8 + l)) (nI (aimK V p (lkN V l p) k (aimA V l p)).1) (nI p) (some (200 + 20 * lkN V l p)) (nI k) S3 := by
              intro d
              induction d with
              | zero =>
                intro k S3 hk F3 ok3 t3
                have R3 := RR_33 R I F3
                have v3 := CR_ver R3.1 I (i := p) (j := vn V 29 (6 * l + p)) (by omega) k2
                rw [ha] at v3
                refine hZ3 _ _ _ _ _ _ _ ?_
                unfold wp_X2_aim_64B wp_X2_aim_119
                refine ⟨_, rfl, v3.2.1.1, ?_⟩
                rw [v3.2.2.1.2.2.2.2.2.2.2.2.2, q44.1]
                rw [show k = vn V 44 (lkN V l p) by omega] at ok3 t3 ⊢
                refine ⟨fun _ y ey => ?_, fun e => absurd (nI_le (Nat.le_refl _) (by omega)) e⟩
                rw [ey, nI_1]
                rw [← eA] at ok3 t3 ⊢
                exact ih (p + 1) S3 (by omega) F3 ok3 t3
              | succ d ih3 =>
                intro k S3 hk F3 ok3 t3
                have R3 := RR_33 R I F3
                have v3 := CR_ver R3.1 I (i := p) (j := vn V 29 (6 * l + p)) (by omega) k2
                rw [ha] at v3
                have q45 := (I.2.2.2.1.2.2.2.2.2.2.2 (3 * lkN V l p + k) (by omega)).2.1
                have q452 := q45.2
                have tb := tg_b (p := p) I (show vn V 45 (3 * lkN V l p + k) < 16 by omega)
                have eK : aimK V p (lkN V l p) (k + 1) (aimA V l p) = stp (tg V p (vn V 45 (3 * lkN V l p + k))) (aimK V p (lkN V l p) k (aimA V l p)) := rfl
                refine hZ3 _ _ _ _ _ _ _ ?_
                unfold wp_X2_aim_64B
                refine ⟨_, rfl, v3.2.1.1, ?_⟩
                rw [v3.2.2.1.2.2.2.2.2.2.2.2.2, q44.1, nI_clamp (show k < 2 ^ 31 by omega)]
                refine ⟨fun e => absurd e (nI_ge (show k < vn V 44 (lkN V l p) by omega) (by omega)), fun _ => ⟨_, rfl, v3.2.1.1, _, v3.2.1.2.2.2.2.2.2.2.2.2.1, _, v3.2.1.2.2.2.2.2.2.2.2.2.2.1, vp_in_nI (show k < 3 by omega) (by decide), (F3.1 _).trans s.2, ?_⟩⟩
                rw [(v3.2.2.2.1.2.2 k (by omega)).1, q45.1]
                refine c_target R3 I (by omega) ⟨(F3.1 _).trans s.2, 33, (F3.2.1 _ _).trans i1.2.2.2.2.2.2.2.2.1, _, (F3.1 _).trans i1.2.2.2.2.2.2.2.2.2.1, vp_in_nI tb (by decide), ?_⟩
                rw [nI_clamp (show tg V p (vn V 45 (3 * lkN V l p + k)) < 2 ^ 31 by omega), t3 _ tb]
                have eS : stp (tg V p (vn V 45 (3 * lkN V l p + k))) (aimK V p (lkN V l p) k (aimA V l p)) = if (aimK V p (lkN V l p) k (aimA V l p)).2.1 (tg V p (vn V 45 (3 * lkN V l p + k))) then ((aimK V p (lkN V l p) k (aimA V l p)).1, (aimK V p (lkN V l p) k (aimA V l p)).2.1, false) else ((aimK V p (lkN V l p) k (aimA V l p)).1 + 1, fun j => (aimK V p (lkN V l p) k (aimA V l p)).2.1 j || j == tg V p (vn V 45 (3 * lkN V l p + k)), true) := by unfold stp; rw [if_pos ok3]
                rw [eS] at eK
                refine bI_c (fun b => ?_) (fun b => ⟨33, (F3.2.1 _ _).trans i1.2.2.2.2.2.2.2.2.1, _, (F3.1 _).trans i1.2.2.2.2.2.2.2.2.2.1, vp_in_nI tb (by decide), fun S28 e28 y30 e30 y32 e32 => ?_⟩)
                · rw [if_pos b] at eK
                  have f1 : (aimK V p (lkN V l p) (k + 1) (aimA V l p)).2.2 = false := by rw [eK]
                  have f2 := aimK_d f1 (vn V 44 (lkN V l p) - (k + 1))
                  rw [show k + 1 + (vn V 44 (lkN V l p) - (k + 1)) = vn V 44 (lkN V l p) by omega] at f2
                  have f3 : (aimA V l (p + 1)).2.2 = false := by rw [eA, f2]; exact f1
                  have f4 := aimA_f f3 (6 - (p + 1))
                  rw [show p + 1 + (6 - (p + 1)) = 6 by omega] at f4
                  exact (h S3 F3).2 f4
                · rw [if_neg (by rw [b]; decide)] at eK
                  rw [e30, e32, nI_1, nI_1]
                  have ih3 := ih3 (k + 1) S28 (by omega) (by rw [e28]; exact xf_pi F3 rfl)
                  rw [eK] at ih3
                  refine ih3 rfl (fun j hj => ?_)
                  show st_i S28 33 j = bI ((aimK V p (lkN V l p) k (aimA V l p)).2.1 j || j == tg V p (vn V 45 (3 * lkN V l p + k)))
                  by_cases e2 : j = tg V p (vn V 45 (3 * lkN V l p + k))
                  · rw [e28, e2, st_i_pi_s, show (tg V p (vn V 45 (3 * lkN V l p + k)) == tg V p (vn V 45 (3 * lkN V l p + k))) = true from beq_self_eq_true _, Bool.or_true]; rfl
                  · rw [e28, st_i_pi_n _ _ _ _ _ _ (fun hh => e2 hh.2), show (j == tg V p (vn V 45 (3 * lkN V l p + k))) = false from beq_eq_false_iff_ne.mpr e2, Bool.or_false]
                    exact t3 j hj
            exact H3 (vn V 44 (lkN V l p)) 0 S2 (by omega) F2 ok t2
          · rw [if_pos e] at eA
            rw [ey, nI_1]
            rw [← eA] at ok t2 ⊢
            exact ih (p + 1) S2 (by omega) F2 ok t2
      exact H 6 0 S1 rfl F1 rfl (fun j hj => z1 j hj)
    | succ d ih =>
      intro k S1 hk F1 z1
      refine hZ _ _ _ _ _ ?_
      unfold wp_X2_aim_5B
      rw [nI_clamp (show k < 2 ^ 31 by omega)]
      refine ⟨fun e => absurd e (nI_ge (show k < 16 by omega) (by decide)), fun _ => ⟨(F1.1 _).trans s.2, 33, (F1.2.1 _ _).trans i1.2.2.2.2.2.2.2.2.1, _, (F1.1 _).trans i1.2.2.2.2.2.2.2.2.2.1, vp_in_nI (show k < 16 by omega) (by decide), fun S63 e63 y ey => ?_⟩⟩
      rw [ey, nI_1]
      refine ih (k + 1) S63 (by omega) (by rw [e63]; exact xf_pi F1 rfl) (fun j hj => ?_)
      by_cases e : j = k
      · rw [e, e63, st_i_pi_s]
      · rw [e63, st_i_pi_n _ _ _ _ _ _ (by omega)]; exact z1 j (by omega)
  exact H0 16 0 S rfl (xf_rfl _ _) (fun j hj => absurd hj (Nat.not_lt_zero _))
