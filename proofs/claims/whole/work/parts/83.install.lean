-- install
theorem aimK_b {V : VV} {p a : Nat} {s : AS} : ∀ k, (aimK V p a k s).1 ≤ s.1 + k := by
  intro k
  induction k with
  | zero => exact Nat.le_refl _
  | succ k ih =>
    show (stp _ (aimK V p a k s)).1 ≤ _
    unfold stp
    split
    · split
      · dsimp only; omega
      · dsimp only; omega
    · omega
theorem aimA_b {V : VV} {l : Nat} (I : Iv V) (hl : l < 3) : ∀ p, p ≤ 6 → (aimA V l p).1 ≤ 3 * p := by
  intro p
  induction p with
  | zero => intro _; exact Nat.le_refl _
  | succ p ih =>
    intro hp
    have ih := ih (by omega)
    unfold aimA
    split
    · omega
    next e =>
      have q := aimK_b (V := V) (p := p) (a := lkN V l p) (s := aimA V l p) (vn V 44 (lkN V l p))
      have b := (lkN_b I hl (show p < 6 by omega) e).2
      omega
def inN (V : VV) (l : Nat) : Nat := stc V (aimA V l 6).2.1 16 + (aimA V l 6).1 + 1
def inU (V : VV) (l : Nat) (s : Int32) : VV := uV V 52 0 (if s < nI (inN V l) then s else nI (inN V l))
def inW (V : VV) (l : Nat) (s : Int32) : VV := layA (clv (inU V l s) (aimA V l 6).2.1 16) l 6
def inv (V : VV) (l : Nat) (s : Int32) : VV := if (aimA V l 6).2.2 then (if kp_ V = 6 ∧ gfr V 6 0 = -1 then V else if nI (inN V l) ≤ s then keV (inW V l s) else inU V l s) else V
def inr (V : VV) (l : Nat) (s : Int32) : Int32 := if (aimA V l 6).2.2 then (if kp_ V = 6 ∧ gfr V 6 0 = -1 then -3 else if nI (inN V l) ≤ s then keV (inW V l s) 55 0 else -1) else -2
def t_install (l s : Int32) : Nat := if inB l 0 (nI 2) then (if inB s 0 (nI 99) then 0 else 2) else 1
def v_install (V : VV) (l s : Int32) : VV := if t_install l s = 0 then inv V l.toNatClampNeg s else V
def r_install (V : VV) (l s : Int32) : Int32 := inr V l.toNatClampNeg s
theorem inU_f {V : VV} {l : Nat} {s : Int32} (f k : Nat) (h : f ≠ 52) : inU V l s f k = V f k := uV_n _ _ _ _ _ _ (by omega)
theorem inW_f {V : VV} {l : Nat} {s : Int32} (f k : Nat) (h : f ≠ 50) (h2 : f ≠ 52) (h3 : f ≠ 53) : inW V l s f k = V f k := (layA_f _ _ _ h h3).trans ((clv_f _ _ (.inl h)).trans (inU_f f k h2))
theorem Iv_inU {V : VV} {l : Nat} {s : Int32} (I : Iv V) : Iv (inU V l s) := Iv_free I fun f k _ h _ => inU_f f k h
theorem Iv_inW {V : VV} {l : Nat} {s : Int32} (I : Iv V) (hl : l < 3) : Iv (inW V l s) := Iv_layA (Iv_cl (Iv_inU I)) hl 6 (Nat.le_refl _)
theorem inW_k {V : VV} {l : Nat} {s : Int32} : kp_ (inW V l s) = kp_ V ∧ gfr (inW V l s) 6 0 = gfr V 6 0 ∧ vn (inW V l s) 54 0 = vn V 54 0 := ⟨vn_e (inW_f _ _ (by decide) (by decide) (by decide)), gfr_c (fun f k h => inW_f _ _ (by omega) (by omega) (by omega)) _ _, vn_e (inW_f _ _ (by decide) (by decide) (by decide))⟩
theorem Iv_inv {V : VV} {l : Nat} {s : Int32} (I : Iv V) (hl : l < 3) (hm : vn V 54 0 < 512) : Iv (inv V l s) ∧ vn (inv V l s) 54 0 ≤ vn V 54 0 + 1 := by
  unfold inv
  split
  · split
    · exact ⟨I, by omega⟩
    next h =>
      split
      · obtain ⟨k1, k2, k3⟩ := inW_k (V := V) (l := l) (s := s)
        have q := Iv_ke (Iv_inW (s := s) I hl) (by rw [k1, k2]; exact fun a b => h ⟨a, b⟩) (by omega)
        exact ⟨q.1, by omega⟩
      · exact ⟨Iv_inU I, by rw [vn_e (inU_f _ _ (by decide))]; omega⟩
  · exact ⟨I, by omega⟩
theorem Iv_install {V : VV} {l s : Int32} (I : Iv V) (hm : vn V 54 0 < 512) : Iv (v_install V l s) ∧ vn (v_install V l s) 54 0 ≤ vn V 54 0 + 1 := by
  unfold v_install
  split
  next h =>
    unfold t_install at h
    by_cases a : inB l 0 (nI 2) = true
    · obtain ⟨j, hj, e⟩ := inB_nI a (by decide)
      rw [e, nI_clamp (by omega)]
      exact Iv_inv I (by omega) hm
    · rw [if_neg a] at h; exact absurd h (by decide)
  · exact ⟨I, by omega⟩
theorem c_brings {S : xm_S} {V W : VV} {N l : Nat} {g : Int32 → xm_S → Prop} (R : RR S V W N) (I : Iv V) (hl : l < 3) (hg : kp_ V = 6 → gfr V 6 0 ≠ -1) (hm : vn V 54 0 < 512) (h : ∀ S', RR S' (keV (layA V l 6)) W N → g (keV (layA V l 6) 55 0) S') : wp_X2_bring_73 24 (some 4) (some (8 + l)) (0 : Int32) S g := by
  unfold wp_X2_bring_73
  intro Z hZ
  have H : ∀ d p S1, p + d = 6 → RR S1 (layA V l p) W N → Z (some 4) (some (8 + l)) (nI p) S1 := by
    intro d
    induction d with
    | zero =>
      intro p S1 hp R1
      have s := gS_24 R1.1.2.2.1
      rw [show p = 6 by omega] at R1 ⊢
      have I1 := Iv_layA I hl 6 (Nat.le_refl _)
      have ek : kp_ (layA V l 6) = kp_ V := vn_e (layA_f _ _ _ (by decide) (by decide))
      have eg : gfr (layA V l 6) 6 0 = gfr V 6 0 := gfr_c (fun f k h => layA_f _ _ _ (by omega) (by omega)) _ _
      have e54 : vn (layA V l 6) 54 0 = vn V 54 0 := vn_e (layA_f _ _ _ (by decide) (by decide))
      refine hZ _ _ _ _ ?_
      unfold wp_X2_bring_73B
      refine ⟨fun _ => ⟨s.2, c_keep R1 I1 (by rw [ek, eg]; exact hg) (by omega) fun S' R' => ⟨(gS_24 R'.1.2.2.1).2, ?_⟩⟩, fun e => absurd (nI_le (Nat.le_refl 6) (by decide)) e⟩
      rw [(CR_gI2 R'.1).2.2.1]
      exact h S' R'
    | succ d ih =>
      intro p S1 hp R1
      have I1 := Iv_layA I hl p (by omega)
      have s := gS_24 R1.1.2.2.1
      have i1 := CR_gI1 R1.1
      have L := CR_gL R1.1 l hl
      have e29 : layA V l p 29 (6 * l + p) = V 29 (6 * l + p) := layA_f _ _ _ (by decide) (by decide)
      have x29 : st_i S1 (8 + l) p = V 29 (6 * l + p) := (L.2.2.2.2.2 p (by omega)).1.trans e29
      have m1 := i1.2.1
      refine hZ _ _ _ _ ?_
      unfold wp_X2_bring_73B wp_X2_bring_120
      rw [nI_clamp (show p < 2 ^ 31 by omega)]
      refine ⟨fun e => absurd e (nI_ge (show p < 6 by omega) (by decide)), fun _ => ⟨s.2, 25, i1.1, m1.1, 8 + l, rfl, _, L.2.1, vp_in_nI (show p < 6 by omega) (by decide), 26, m1.2.1, _, m1.2.2.1, vp_in_nI (show p < 6 by omega) (by decide), fun S21 e21 => ?_⟩⟩
      have R21 : RR S21 (uV (layA V l p) 50 p (V 29 (6 * l + p))) W N := by
        rw [e21, x29]
        exact ⟨CR_26 (by omega) R1.1 I1, MR_K R1.2.1 (KM_pi (KM_rfl _) (by omega)), R1.2.2⟩
      have I21 : Iv (uV (layA V l p) 50 p (V 29 (6 * l + p))) := Iv_v50 I1 (by omega) (v29_x I hl (by omega))
      have x29' : st_i S21 (8 + l) p = V 29 (6 * l + p) := by rw [e21, st_i_pi_n _ _ _ _ _ _ (by omega)]; exact x29
      have t21 : ∀ n, st_t S21 n = st_t S1 n := fun n => by rw [e21]; rfl
      have eA : layA V l (p + 1) = uV (layP (layA V l p) V l p) 50 p (V 29 (6 * l + p)) := rfl
      refine ⟨8 + l, rfl, _, (t21 _).trans L.2.1, vp_in_nI (show p < 6 by omega) (by decide), ?_⟩
      rw [x29']
      refine ⟨fun e y ey => ?_, fun e => ?_⟩
      · rw [ey, nI_1]
        refine ih (p + 1) S21 (by omega) ?_
        rw [eA]
        unfold layP
        rw [if_pos e]
        exact R21
      · obtain ⟨k1, k2, k3⟩ := lk_pk I hl (show p < 6 by omega) e
        have e2 : ∀ k, uV (layA V l p) 50 p (V 29 (6 * l + p)) 2 k = V 2 k := fun k => (uV_n _ _ _ _ _ _ (by omega)).trans (layA_f _ _ _ (by decide) (by decide))
        have e44 : ∀ k, vn (uV (layA V l p) 50 p (V 29 (6 * l + p))) 44 k = vn V 44 k := fun k => vn_e ((uV_n _ _ _ _ _ _ (by omega)).trans (layA_f _ _ _ (by decide) (by decide)))
        have P := CR_gP R21.1 p (by omega)
        have c4 := gS_4 R21.1.2.2.1
        have k2' : vn V 29 (6 * l + p) < vn (uV (layA V l p) 50 p (V 29 (6 * l + p))) 2 p := by rw [vn_e (e2 p)]; exact k2
        have vk := CR_ver R21.1 I21 (i := p) (j := vn V 29 (6 * l + p)) (by omega) k2'
        refine ⟨4, rfl, _, c4.2, vp_in_nI (show p < 6 by omega) (by decide), _, P.2.1, P.1, 8 + l, rfl, _, (t21 _).trans L.2.1, vp_in_nI (show p < 6 by omega) (by decide), _, P.2.2.1, _, P.2.2.2.1, ?_⟩
        have c := c_lay (g := fun S46 => ∀ y1, y1 = (nI p + (1 : Int32)) → Z (some 4) (some (8 + l)) y1 S46) R21 I21 (p := p) (j := vn V 29 (6 * l + p)) (by omega) k2' (fun S46 R46 y ey => by
          rw [ey, nI_1]
          refine ih (p + 1) S46 (by omega) ?_
          rw [eA]
          unfold layP
          rw [if_neg e]
          unfold lkN
          rw [e44, layK_c (by omega)] at R46
          exact R46)
        rw [x29', k1, nI_clamp (show vn V 29 (6 * l + p) < 2 ^ 31 by omega), vk.1]
        exact ⟨vp_in_nI (show vn V 29 (6 * l + p) < 4 by omega) (by decide), c⟩
  exact H 6 0 S rfl R
theorem c_bring {S : xm_S} {V W : VV} {N l : Nat} {s : Int32} {g : Int32 → xm_S → Prop} (R : RR S V W N) (I : Iv V) (hl : l < 3) (hm : vn V 54 0 < 512) (h : ∀ S', RR S' (inv V l s) W N → g (inr V l s) S') : wp_X2_bring 24 (some 4) (some (8 + l)) s S g := by
  have s0 := gS_24 R.1.2.2.1
  have cb := aimA_b I hl 6 (Nat.le_refl _)
  obtain ⟨k1, k6⟩ := kp_6 I
  unfold inv inr at h
  unfold wp_X2_bring
  refine ⟨s0.2, c_aim R I hl fun S1 F => ⟨fun ok t => ⟨fun _ => ?_, fun e => absurd e (nI_m1 (by omega))⟩, fun ok => ⟨fun e => absurd rfl e, fun _ => ?_⟩⟩⟩
  · have R1 := RR_33 R I F
    rw [if_pos ok, if_pos ok] at h
    have T : (kp_ V = 6 → gfr V 6 0 ≠ -1) → wp_X2_bring_37 24 (some 4) (some (8 + l)) s (nI (aimA V l 6).1) S1 g := fun hg => by
      have hn : ¬ (kp_ V = 6 ∧ gfr V 6 0 = -1) := fun hh => hg hh.1 hh.2
      rw [if_neg hn, if_neg hn] at h
      unfold wp_X2_bring_37
      refine ⟨(gS_24 R1.1.2.2.1).2, c_count R1 t ?_⟩
      intro y51 e51
      rw [nI_add, nI_1] at e51
      have e51 : y51 = nI (inN V l) := e51
      subst e51
      refine ⟨(gS_24 R1.1.2.2.1).2, fun S54 e54 => ?_⟩
      have R54 : RR S54 (inU V l s) W N := by
        rw [e54]
        exact ⟨CR_24_5 R1.1 I, MR_K R1.2.1 (KM_pi (KM_rfl _) (by omega)), R1.2.2⟩
      refine ⟨fun q => ?_, fun q => ?_⟩
      · rw [if_pos q, if_pos q] at h
        have IU := Iv_inU (l := l) (s := s) I
        refine c_clear R54 IU (T := (aimA V l 6).2.1) (fun j hj => by rw [e54, st_i_pi_n _ _ _ _ _ _ (by omega)]; exact t j hj) fun S56 R56 => ?_
        have ek : kp_ (clv (inU V l s) (aimA V l 6).2.1 16) = kp_ V := vn_e ((clv_f _ _ (.inl (by decide))).trans (inU_f _ _ (by decide)))
        have eg : gfr (clv (inU V l s) (aimA V l 6).2.1 16) 6 0 = gfr V 6 0 := gfr_c (fun f k h => (clv_f _ _ (.inl (by omega))).trans (inU_f _ _ (by omega))) _ _
        have e54 : vn (clv (inU V l s) (aimA V l 6).2.1 16) 54 0 = vn V 54 0 := vn_e ((clv_f _ _ (.inl (by decide))).trans (inU_f _ _ (by decide)))
        exact c_brings R56 (Iv_cl IU) hl (by rw [ek, eg]; exact hg) (by omega) h
      · rw [if_neg q, if_neg q] at h
        exact h S54 R54
    refine ⟨(gS_24 R1.1.2.2.1).2, ?_⟩
    rw [(CR_gI2 R1.1).2.1, k1, nI_ltI (by omega) (by decide)]
    refine ⟨fun q => T fun e => absurd e (by omega), fun q => c_least R1 I ?_⟩
    have q : kp_ V = 6 := by omega
    rw [q]
    refine ⟨fun e => T fun _ => e, fun e => ?_⟩
    rw [if_pos ⟨q, e⟩, if_pos ⟨q, e⟩] at h
    exact h S1 R1
  · rw [if_neg (by rw [ok]; decide), if_neg (by rw [ok]; decide)] at h
    exact h S1 (RR_33 R I F)
theorem w_install {S : xm_S} {V W : VV} {N : Nat} {l s : Int32} {g : Int32 → xm_S → Prop} (R : RR S V W N) (I : Iv V) (hm : vn V 54 0 < 512) (h : ∀ S' N', RR S' (v_install V l s) W N' → (t_install l s = 0 → st_l S' 1200 0 = (r_install V l s).toInt64) → g (nI (t_install l s)) S') : wp_L_install (some 1) l s (some 1200) S g := by
  have I' := (Iv_install (l := l) (s := s) I hm).1
  have c1 := R.1.2.2.1
  unfold wp_L_install wp_X11_install
  refine ⟨1, rfl, c1.1, q_plat (fun a => q_range (fun b => ?_) (fun b => .inr ⟨rfl, ?_⟩)) (fun a => .inl ⟨rfl, ?_⟩)⟩
  · obtain ⟨j, hj, e⟩ := inB_nI a (by decide)
    subst e
    have t : t_install (nI j) s = 0 := by unfold t_install; rw [if_pos a, if_pos b]
    have w : v_install V (nI j) s = inv V j s := by unfold v_install; rw [if_pos t, nI_clamp (by omega)]
    have r : r_install V (nI j) s = inr V j s := by unfold r_install; rw [nI_clamp (by omega)]
    have L := CR_gL R.1 j (by omega)
    have s7 := gS_7 c1
    have s24 := gS_24 c1
    have c4 := gS_4 c1
    rw [t, w, r] at h
    rw [w] at I'
    refine ⟨c1.1, 7, s7.1, _, s7.2.1, vp_in_nI (show j < 3 by omega) (by decide), 24, s24.1, s24.2, ?_⟩
    rw [nI_clamp (show j < 2 ^ 31 by omega), L.1, c4.1]
    exact (c_bring R I (by omega) hm fun S1 R1 => w_out R1 I' fun S' R' hl => h S' N R' fun _ => hl)
  · have t : t_install l s = 2 := by unfold t_install; rw [if_pos a, if_neg (by rw [b]; decide)]
    have w : v_install V l s = V := by unfold v_install; rw [t]; rfl
    rw [t, w] at h
    exact h S N R (fun e => absurd e (by decide))
  · have t : t_install l s = 1 := by unfold t_install; rw [if_neg (by rw [a]; decide)]
    have w : v_install V l s = V := by unfold v_install; rw [t]; rfl
    rw [t, w] at h
    exact h S N R (fun e => absurd e (by decide))
