-- install: the reference
theorem m_installs_55 {S : xm_S} {V : VV} {l : Nat} {g : xm_S → Prop} (M : MR S V) (I : Iv V) (hl : l < 3) (hg : kp_ V = 6 → gfr V 6 0 ≠ -1) (hm : vn V 54 0 < 512) (h : ∀ S', KC S S' → MR S' (keV (layA V l 6)) → st_i S' 1000 0 = st_i S 1000 0 → g S') : wp_X12_installs_55 1000 (nI l) (0 : Int32) S g := by
  unfold wp_X12_installs_55
  intro Z hZ
  have H : ∀ d p S1, p + d = 6 → KC S S1 → MR S1 (layA V l p) → st_i S1 1000 0 = st_i S 1000 0 → Z (nI l) (nI p) S1 := by
    intro d
    induction d with
    | zero =>
      intro p S1 hp K1 M1 z1
      rw [show p = 6 by omega] at M1 ⊢
      have I1 := Iv_layA I hl 6 (Nat.le_refl _)
      have ek : kp_ (layA V l 6) = kp_ V := vn_e (layA_f _ _ _ (by decide) (by decide))
      have eg : gfr (layA V l 6) 6 0 = gfr V 6 0 := gfr_c (fun f k h => layA_f _ _ _ (by omega) (by omega)) _ _
      have e54 : vn (layA V l 6) 54 0 = vn V 54 0 := vn_e (layA_f _ _ _ (by decide) (by decide))
      generalize layA V l 6 = U at M1 I1 ek eg e54 h
      obtain ⟨k1, k6⟩ := kp_6 I1
      have x := ke_x I1 (by rw [ek, eg]; exact hg) (by omega)
      unfold keV at h
      refine hZ _ _ _ ?_
      unfold wp_X12_installs_55B
      rw [show st_i S1 1000 56 = nI (kp_ U) from (M1.2.1 56 rfl).trans k1]
      refine ⟨fun _ => ⟨M1.1.1, fun e => ?_, fun e => ?_⟩, fun e => absurd (nI_le (Nat.le_refl 6) (by decide)) e⟩
      · have e' : kp_ U ≠ 6 := fun hh => e (by rw [hh])
        rw [if_neg e'] at h x
        exact m_keep M1 I1 (by omega) (by omega) fun S2 K2 M2 z2 => h S2 (KC_tr K1 K2) M2 (z2.trans z1)
      · have e' : kp_ U = 6 := (nI_eq (by omega) (by decide)).mp e
        rw [if_pos e'] at h x
        refine m_goner M1 I1 ?_
        rw [e']
        rcases gfr_x (V := U) 6 0 with q | ⟨i, a, b, c⟩
        · exact absurd (eg.symm.trans q) (hg (ek.symm.trans e'))
        · rw [c, nI_clamp (by omega)] at h x
          rw [c]
          exact ⟨M1.1.1, m_drops M1 I1 (by omega) fun S2 K2 M2 z2 => m_keep M2 x.1 x.2.1 (by omega) fun S3 K3 M3 z3 => h S3 (KC_tr K1 (KC_tr K2 K3)) M3 (z3.trans (z2.trans z1))⟩
    | succ d ih =>
      intro p S1 hp K1 M1 z1
      have I1 := Iv_layA I hl p (by omega)
      have eA : layA V l (p + 1) = uV (layP (layA V l p) V l p) 50 p (V 29 (6 * l + p)) := rfl
      have ff : ∀ f k, f ≠ 50 → f ≠ 53 → layA V l p f k = V f k := fun f k a b => layA_f _ _ _ a b
      -- behind the files
      have T : ∀ S2, KC S S2 → MR S2 (layP (layA V l p) V l p) → st_i S2 1000 0 = st_i S 1000 0 → wp_X12_installs_130 1000 (nI l) (nI p) (V 29 (6 * l + p)) S2 g Z := fun S2 K2 M2 z2 => by
        unfold wp_X12_installs_130
        rw [nI_clamp (show p < 2 ^ 31 by omega)]
        refine ⟨M2.1.1, _, MS_r M2.1 50, _, MS_t M2.1 50, vp_in_nI (show p < 54 by omega) (by decide), fun S9 e9 y ey => ?_⟩
        have M9 := MR_a (f := 50) (k := p) (x := V 29 (6 * l + p)) M2
        rw [← e9, ← eA] at M9
        rw [ey, nI_1]
        refine ih (p + 1) S9 (by omega) (KC_tr K2 (by rw [e9]; exact KC_pi (KC_rfl _) (by omega))) M9 ?_
        rw [e9, st_i_pi_n _ _ _ _ _ _ (by omega)]; exact z2
      refine hZ _ _ _ ?_
      unfold wp_X12_installs_55B
      rw [pk_mul, nI_add]
      refine ⟨fun e => absurd e (nI_ge (show p < 6 by omega) (by decide)), fun _ => ⟨M1.1.1, _, MS_r M1.1 29, _, MS_t M1.1 29, vp_in_nI (show 6 * l + p < 18 by omega) (by decide), fun y74 e74 => ?_⟩⟩
      rw [nI_clamp (show 6 * l + p < 2 ^ 31 by omega), show st_i S1 (1001 + 29) (6 * l + p) = V 29 (6 * l + p) from (M1.2.2 29 _ rfl).trans (ff _ _ (by decide) (by decide))] at e74
      subst e74
      refine ⟨fun e => ?_, fun e => ?_⟩
      · obtain ⟨k1, k2, k3⟩ := lk_pk I hl (show p < 6 by omega) e
        obtain ⟨hlk, q442⟩ := lkN_b I hl (show p < 6 by omega) e
        have q44 := (I.1.2.2.1 (lkN V l p) hlk).2.2.2
        have eP : layP (layA V l p) V l p = layK (layA V l p) p (lkN V l p) (vn V 44 (lkN V l p)) := by unfold layP; rw [if_neg e]
        rw [eP] at T
        have e4 : nI 4 * nI p + V 29 (6 * l + p) = nI (lkN V l p) := by rw [pk_mul, k1, nI_add]; rfl
        rw [e4]
        unfold wp_X12_installs_87 wp_X12_installs_95
        intro y23 e23 Z3 hZ3
        rw [pk_mul] at e23
        subst e23
        have H3 : ∀ d k S3, k + d = vn V 44 (lkN V l p) → KC S S3 → MR S3 (layK (layA V l p) p (lkN V l p) k) → st_i S3 1000 0 = st_i S 1000 0 → Z3 (nI l) (nI p) (V 29 (6 * l + p)) (nI (lkN V l p)) (nI (3 * lkN V l p + k)) S3 := by
          intro d
          induction d with
          | zero =>
            intro k S3 hk K3 M3 z3
            refine hZ3 _ _ _ _ _ _ ?_
            unfold wp_X12_installs_95B
            rw [nI_clamp (show lkN V l p < 2 ^ 31 by omega)]
            refine ⟨M3.1.1, _, MS_r M3.1 44, _, MS_t M3.1 44, vp_in_nI hlk (by decide), ?_⟩
            rw [show st_i S3 (1001 + 44) (lkN V l p) = nI (vn V 44 (lkN V l p)) from (M3.2.2 44 _ rfl).trans ((layK_f _ _ _ (by decide) (by decide)).trans ((ff _ _ (by decide) (by decide)).trans q44.1)), pk_mul, nI_add]
            rw [show k = vn V 44 (lkN V l p) by omega] at M3 ⊢
            exact ⟨fun _ => T S3 K3 M3 z3, fun e => absurd (nI_le (Nat.le_refl _) (by omega)) e⟩
          | succ d ih3 =>
            intro k S3 hk K3 M3 z3
            have I3 := Iv_layK (p := p) I1 (by omega) hlk k (by omega)
            refine hZ3 _ _ _ _ _ _ ?_
            unfold wp_X12_installs_95B
            rw [nI_clamp (show lkN V l p < 2 ^ 31 by omega)]
            refine ⟨M3.1.1, _, MS_r M3.1 44, _, MS_t M3.1 44, vp_in_nI hlk (by decide), ?_⟩
            rw [show st_i S3 (1001 + 44) (lkN V l p) = nI (vn V 44 (lkN V l p)) from (M3.2.2 44 _ rfl).trans ((layK_f _ _ _ (by decide) (by decide)).trans ((ff _ _ (by decide) (by decide)).trans q44.1)), pk_mul, nI_add]
            refine ⟨fun e => absurd e (nI_ge (show 3 * lkN V l p + k < 3 * lkN V l p + vn V 44 (lkN V l p) by omega) (by omega)), fun _ => ⟨fun e2 => absurd e2 e, fun _ => m_fileComes M3 I3 (by omega) (by omega) fun S4 K4 M4 z4 y ey => ?_⟩⟩
            rw [ey, nI_1]
            exact ih3 (k + 1) S4 (by omega) (KC_tr K3 K4) M4 (z4.trans z3)
        exact H3 (vn V 44 (lkN V l p)) 0 S1 (by omega) K1 M1 z1
      · have eP : layP (layA V l p) V l p = layA V l p := by unfold layP; rw [if_pos e]
        rw [eP] at T
        unfold wp_X12_installs_87 wp_X12_installs_95
        intro y23 e23 Z3 hZ3
        refine hZ3 _ _ _ _ _ _ ?_
        unfold wp_X12_installs_95B
        exact ⟨M1.1.1, _, MS_r M1.1 44, _, MS_t M1.1 44, vp_in_nI (n := 0) (by decide) (by decide), fun _ => T S1 K1 M1 z1, fun _ => ⟨fun _ => T S1 K1 M1 z1, fun e2 => absurd e e2⟩⟩
  exact H 6 0 S rfl (KC_rfl _) M rfl
theorem m_installs {S : xm_S} {V : VV} {T : Nat → Bool} {l : Nat} {g : xm_S → Prop} (M : MR S V) (I : Iv V) (hl : l < 3) (t : ∀ j, j < 16 → st_i S 1052 j = bI (T j)) (hg : kp_ V = 6 → gfr V 6 0 ≠ -1) (hm : vn V 54 0 < 512) (h : ∀ S', KC S S' → MR S' (keV (layA (clv V T 16) l 6)) → st_i S' 1000 0 = st_i S 1000 0 → g S') : wp_X12_installs 1000 (nI l) S g := by
  unfold wp_X12_installs wp_X12_installs_2
  intro Z hZ
  have H : ∀ d k S1, k + d = 16 → KC S S1 → MR S1 (clv V T k) → st_i S1 1000 0 = st_i S 1000 0 → (∀ j, j < 16 → st_i S1 1052 j = bI (T j)) → Z (nI l) (nI k) S1 := by
    intro d
    induction d with
    | zero =>
      intro k S1 hk K1 M1 z1 t1
      rw [show k = 16 by omega] at M1 ⊢
      refine hZ _ _ _ ?_
      unfold wp_X12_installs_2B
      have ff : ∀ f k, f ≠ 50 → clv V T 16 f k = V f k := fun f k a => clv_f _ _ (.inl a)
      refine ⟨fun _ => m_installs_55 M1 (Iv_cl I) hl ?_ ?_ fun S2 K2 M2 z2 => h S2 (KC_tr K1 K2) M2 (z2.trans z1), fun e => absurd (nI_le (Nat.le_refl 16) (by decide)) e⟩
      · rw [gfr_c (V := V) (fun f k h => ff _ _ (by omega)), show kp_ (clv V T 16) = kp_ V from vn_e (ff _ _ (by decide))]; exact hg
      · rw [vn_e (ff _ _ (by decide))]; exact hm
    | succ d ih =>
      intro k S1 hk K1 M1 z1 t1
      have ih := fun S' => ih (k + 1) S' (by omega)
      refine hZ _ _ _ ?_
      unfold wp_X12_installs_2B wp_X12_installs_47
      rw [nI_add, nI_add, nI_add, nI_clamp (show k < 2 ^ 31 by omega), nI_clamp (show 6 + k < 2 ^ 31 by omega), nI_clamp (show 22 + k < 2 ^ 31 by omega), nI_clamp (show 38 + k < 2 ^ 31 by omega)]
      refine ⟨fun e => absurd e (nI_ge (show k < 16 by omega) (by decide)), fun _ => ⟨M1.1.1, _, MS_r M1.1 51, _, MS_t M1.1 51, vp_in_nI (show k < 16 by omega) (by decide), ?_⟩⟩
      rw [show st_i S1 (1001 + 51) k = bI (T k) from t1 k (by omega)]
      refine bI_c' (fun b y ey => ?_) (fun b => ?_)
      · rw [clv_t b] at ih
        rw [ey, nI_1]; exact ih S1 K1 M1 z1 t1
      · rw [← clv_s (by omega) b] at ih
        unfold ptV at ih
        refine ⟨_, MS_r M1.1 50, _, MS_t M1.1 50, vp_in_nI (show 6 + k < 54 by omega) (by decide), fun S87 e87 => ?_⟩
        have M87 := MR_a (f := 50) (k := 6 + k) (x := (-1 : Int32)) M1
        rw [← e87] at M87
        refine ⟨_, MS_r M87.1 50, _, MS_t M87.1 50, vp_in_nI (show 22 + k < 54 by omega) (by decide), fun S94 e94 => ?_⟩
        have M94 := MR_a (f := 50) (k := 22 + k) (x := (-1 : Int32)) M87
        rw [← e94] at M94
        refine ⟨_, MS_r M94.1 50, _, MS_t M94.1 50, vp_in_nI (show 38 + k < 54 by omega) (by decide), fun S101 e101 y ey => ?_⟩
        have M101 := MR_a (f := 50) (k := 38 + k) (x := (-1 : Int32)) M94
        rw [← e101] at M101
        rw [ey, nI_1]
        refine ih S101 (KC_tr K1 (by rw [e101, e94, e87]; exact KC_pi (KC_pi (KC_pi (KC_rfl _) (by omega)) (by omega)) (by omega))) M101 ?_ fun j hj => ?_
        · rw [e101, st_i_pi_n _ _ _ _ _ _ (by omega), e94, st_i_pi_n _ _ _ _ _ _ (by omega), e87, st_i_pi_n _ _ _ _ _ _ (by omega)]; exact z1
        · rw [e101, st_i_pi_n _ _ _ _ _ _ (by omega), e94, st_i_pi_n _ _ _ _ _ _ (by omega), e87, st_i_pi_n _ _ _ _ _ _ (by omega)]; exact t1 j hj
  exact H 16 0 S rfl (KC_rfl _) (by rw [clv_0]; exact M) rfl t
theorem ml_install {S : xm_S} {V W : VV} {N : Nat} {l s : Int32} {g : Int32 → xm_S → Prop} (R : RR S V W N) (I : Iv V) (IW : Iv W) (hm : vn W 54 0 < 512) (h : ∀ S' b, RR S' V (v_install W l s) N → st_i S' 1000 0 = nI (t_install l s) → (t_install l s = 0 → b = r_install W l s) → st_l S' 1200 0 = st_l S 1200 0 → g b S') : wp_X12_install 1000 l s S g := by
  have X : ∀ t : Nat, t_install l s = t → t ≠ 0 → t < 100 → wp_X12_install_27 1000 l s (nI t) (some 1000) S g := fun t et h0 ht => by
    have w : v_install W l s = W := by unfold v_install; rw [et, if_neg h0]
    rw [et, w] at h
    unfold wp_X12_install_27
    refine ⟨1000, rfl, R.2.1.1.1, m_may R I rfl ht fun S4 R4 k4 e4 => ?_⟩
    rw [decide_eq_false h0]
    exact ⟨fun e => absurd rfl e, fun _ => h S4 0 R4 e4 (fun e => absurd e h0) ((k4 1200 (by omega)).2.2.1 0)⟩
  unfold wp_X12_install
  refine m_plat (bI_c' (fun a => m_in (bI_c (fun b => ?_) (fun b => ?_))) (fun a => ?_))
  · obtain ⟨j, hj, e⟩ := inB_nI a (by decide)
    subst e
    have hj3 : j < 3 := by omega
    have t : t_install (nI j) s = 0 := by unfold t_install; rw [if_pos a, if_pos b]
    have w : v_install W (nI j) s = inv W j s := by unfold v_install; rw [if_pos t, nI_clamp (by omega)]
    have r : r_install W (nI j) s = inr W j s := by unfold r_install; rw [nI_clamp (by omega)]
    rw [t, w, r] at h
    have cb := aimA_b IW hj3 6 (Nat.le_refl _)
    obtain ⟨k1, k6⟩ := kp_6 IW
    unfold inv inr at h
    unfold wp_X12_install_27
    refine ⟨1000, rfl, R.2.1.1.1, m_may (t := 0) R I rfl (by decide) fun S4 R4 k4 e4 => ⟨fun _ => ⟨R4.2.1.1.1, m_lays R4.2.1 IW hj3 fun S5 F => ?_⟩, fun e => absurd e (by decide)⟩⟩
    have K5 : KC S S5 := KC_tr k4 (fCm_K F)
    have M5 := fCm_M R4.2.1 F
    have z5 : st_i S5 1000 0 = 0 := (F.2.2.2 _ _ rfl).trans e4
    have En : ∀ S6 V6 b, KC S5 S6 → MR S6 V6 → st_i S6 1000 0 = st_i S5 1000 0 → ((∀ S' b', RR S' V V6 N → st_i S' 1000 0 = nI 0 → (0 = 0 → b' = b) → st_l S' 1200 0 = st_l S 1200 0 → g b' S')) → g b S6 := fun S6 V6 b K6 M6 z6 hh => hh S6 b (RR_m R I (KC_tr K5 K6) M6) (z6.trans z5) (fun _ => rfl) ((KC_tr K5 K6 1200 (by omega)).2.2.1 0)
    refine ⟨fun ok t => ⟨fun _ => ?_, fun e => absurd e (nI_m1 (by omega))⟩, fun ok => ⟨fun e => absurd rfl e, fun _ => ?_⟩⟩
    · rw [if_pos ok, if_pos ok] at h
      have T : (kp_ W = 6 → gfr W 6 0 ≠ -1) → wp_X12_install_69 1000 (nI j) s (nI (aimA W j 6).1) S5 g := fun hg => by
        have hn : ¬ (kp_ W = 6 ∧ gfr W 6 0 = -1) := fun hh => hg hh.1 hh.2
        rw [if_neg hn, if_neg hn] at h
        unfold wp_X12_install_69 wp_X12_install_75
        intro y25 e25 Z hZ
        rw [nI_1] at e25
        subst e25
        have H : ∀ d k, k + d = 16 → Z (nI j) s (nI ((aimA W j 6).1 + 1 + stc W (aimA W j 6).2.1 k)) (nI k) S5 := by
          intro d
          induction d with
          | zero =>
            intro k hk
            rw [show k = 16 by omega, show (aimA W j 6).1 + 1 + stc W (aimA W j 6).2.1 16 = inN W j by unfold inN; omega]
            refine hZ _ _ _ _ _ ?_
            have T2 : ∀ x, x = (if s < nI (inN W j) then s else nI (inN W j)) → wp_X12_install_131 1000 (nI j) s (nI (inN W j)) x (some 1000) S5 g := fun x ex => by
              unfold wp_X12_install_131
              refine ⟨1000, rfl, M5.1.1, fun S8 e8 => ?_⟩
              have M8 := MR_s (f := 52) (x := x) M5
              rw [← e8, ex] at M8
              have M8 : MR S8 (inU W j s) := M8
              have K8 : KC S5 S8 := by rw [e8]; exact KC_pi (KC_rfl _) (by omega)
              have z8 : st_i S8 1000 0 = st_i S5 1000 0 := by rw [e8, st_i_pi_n _ _ _ _ _ _ (by omega)]
              have IU := Iv_inU (l := j) (s := s) IW
              refine ⟨fun q => ⟨M8.1.1, m_installs (T := (aimA W j 6).2.1) M8 IU hj3 (fun i hi => by rw [e8, st_i_pi_n _ _ _ _ _ _ (by omega)]; exact t i hi) ?_ ?_ fun S9 K9 M9 z9 => ⟨M9.1.1, ?_⟩⟩, fun q => ?_⟩
              · rw [gfr_c (V := W) (fun f k h => inU_f _ _ (by omega)), show kp_ (inU W j s) = kp_ W from vn_e (inU_f _ _ (by decide))]; exact hg
              · rw [vn_e (inU_f _ _ (by decide))]; exact hm
              · rw [if_pos q, if_pos q] at h
                rw [show st_i S9 1000 55 = keV (inW W j s) 55 0 from M9.2.1 55 rfl]
                exact En S9 _ _ (KC_tr K8 K9) M9 (z9.trans z8) h
              · rw [if_neg q, if_neg q] at h
                exact En S8 _ _ K8 M8 z8 h
            unfold wp_X12_install_75B
            refine ⟨fun _ => ⟨fun q => T2 _ ?_, fun q => T2 _ ?_⟩, fun e => absurd (nI_le (Nat.le_refl 16) (by decide)) e⟩
            · rw [if_neg (Int32.not_lt.mpr q)]
            · rw [if_pos (Int32.not_le.mp q)]
          | succ d ih =>
            intro k hk
            have ih := ih (k + 1) (by omega)
            rw [show stc W (aimA W j 6).2.1 (k + 1) = stc W (aimA W j 6).2.1 k + (if W 50 (6 + k) ≠ -1 ∧ (aimA W j 6).2.1 k = false then 1 else 0) from rfl] at ih
            have no : ¬ (W 50 (6 + k) ≠ -1 ∧ (aimA W j 6).2.1 k = false) → wp_X12_install_111 1000 (nI j) s (nI k) (nI ((aimA W j 6).1 + 1 + stc W (aimA W j 6).2.1 k)) S5 g Z := fun hh => by
              rw [if_neg hh] at ih
              unfold wp_X12_install_111 wp_X12_install_112
              intro y1 e1 y3 e3
              rw [e1, e3, nI_1, Int32.add_zero]
              exact ih
            refine hZ _ _ _ _ _ ?_
            unfold wp_X12_install_75B
            rw [nI_add, nI_clamp (show k < 2 ^ 31 by omega), nI_clamp (show 6 + k < 2 ^ 31 by omega)]
            refine ⟨fun e => absurd e (nI_ge (show k < 16 by omega) (by decide)), fun _ => ⟨M5.1.1, _, MS_r M5.1 51, _, MS_t M5.1 51, vp_in_nI (show k < 16 by omega) (by decide), ?_⟩⟩
            rw [show st_i S5 (1001 + 51) k = bI ((aimA W j 6).2.1 k) from t k (by omega)]
            refine bI_c' (fun b => no fun hh => by rw [b] at hh; cases hh.2) (fun b => ⟨_, MS_r M5.1 50, _, MS_t M5.1 50, vp_in_nI (show 6 + k < 54 by omega) (by decide), ?_⟩)
            rw [show st_i S5 (1001 + 50) (6 + k) = W 50 (6 + k) from M5.2.2 50 _ rfl]
            refine ⟨fun e => no fun hh => hh.1 e, fun e => ?_⟩
            rw [if_pos ⟨e, b⟩] at ih
            unfold wp_X12_install_112
            intro y1 e1 y3 e3
            rw [e1, e3, nI_1, nI_1]
            exact ih
        exact H 16 0 rfl
      refine ⟨M5.1.1, ?_⟩
      rw [show st_i S5 1000 56 = nI (kp_ W) from (M5.2.1 56 rfl).trans k1]
      refine ⟨fun q => T fun e => absurd (by rw [e]) q, fun q => m_goner M5 IW ?_⟩
      have q : kp_ W = 6 := (nI_eq (by omega) (by decide)).mp q
      rw [q]
      refine ⟨fun e => T fun _ => e, fun e => ?_⟩
      rw [if_pos ⟨q, e⟩, if_pos ⟨q, e⟩] at h
      exact En S5 _ _ (KC_rfl _) M5 rfl h
    · rw [if_neg (by rw [ok]; decide), if_neg (by rw [ok]; decide)] at h
      exact En S5 _ _ (KC_rfl _) M5 rfl h
  · exact X 2 (by unfold t_install; rw [if_pos a, if_neg (by rw [b]; decide)]) (by decide) (by decide)
  · exact X 1 (by unfold t_install; rw [if_neg (by rw [a]; decide)]) (by decide) (by decide)
theorem lc_install {m b len kc ks N : Nat} {xs : Nat → Int32} {x4 : Int32} {S : xm_S} {V : VV} {g : Int32 → xm_S → Prop} {Z : Option Nat → Option Nat → Option Nat → Int32 → xm_S → Nat → Nat → Prop} (R : RR S V V N) (I : Iv V) (hm : vn V 54 0 ≤ m) (hx : m < 512) (nx : NX m b len xs x4 kc ks g Z) (hv1 : vp_in (x4 + (1 : Int32)) len) (hv2 : vp_in (x4 + nI 2) len) : wp_L_law_2493 b len xs (some 1) (some 1000) (some 1200) x4 S kc ks g Z := by
  obtain ⟨k1, k2, nx⟩ := nx
  have hz : vn V 54 0 < 512 := by omega
  unfold wp_L_law_2493 wp_L_law_2558
  refine ⟨hv1, hv2, by omega, by omega, w_install R I hz fun S1 N1 R1 h1 => ⟨hv1, hv2, 1000, rfl, R1.2.1.1.1, by omega, by omega, ml_install R1 (Iv_install I hz).1 I hz fun S2 b R2 e2 hb hl => ⟨1000, rfl, R2.2.1.1.1, by omega, by omega, m_thrown R2.2.1 e2 ?_⟩⟩⟩
  exact lc_cmp R2.2.2 (by unfold t_install; repeat' split
                          all_goals decide) (fun e => hl.trans (h1 e)) hb (nx _ _ _ _ _ R2 (Iv_install I hz).1 ((by have := (Iv_install (l := xs (x4 + 1).toNatClampNeg) (s := xs (x4 + nI 2).toNatClampNeg) I hz).2; omega)) (by omega) (by omega))
