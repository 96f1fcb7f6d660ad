-- the class: within reach, a given choice, the greatest of some versions
theorem usb_p {V : VV} {i : Nat} (I : Iv V) (hi : i < 24) (h : usb V i = true) : i / 4 < 6 ∧ i % 4 < vn V 2 (i / 4) ∧ vn V 2 (i / 4) ≤ 4 ∧ 4 * (i / 4) + i % 4 = i := by
  have := (I.1.1 (i / 4) (by omega)).2.2
  exact ⟨by omega, of_decide_eq_true h, this, by omega⟩
theorem c_leading {S : xm_S} {V : VV} {N pl i : Nat} {ul : Nat → Bool} {g : Int32 → xm_S → Prop} (C : CR S V N) (I : Iv V) (T : STD S V pl ul) (hi : i < 24) (hu : usb V i = true) (h : g (ldI V pl i (vn V 8 i)) S) : wp_X7_leadingTo 16 (some (200 + 20 * i)) S g := by
  obtain ⟨u1, u2, u3, u4⟩ := usb_p I hi hu
  obtain ⟨w0, w1, w2, w3, w4⟩ := CR_ver C I u1 u2
  rw [u4] at w0 w1 w2 w3 w4
  have k8 := (I.1.2.2.1 _ hi).1
  have k82 := k8.2
  have s16 := (gS_16 C.2.2.1).2
  unfold wp_X7_leadingTo wp_X7_leadingTo_4
  intro Z hZ
  have H : ∀ d j, j + d = vn V 8 i → Z (some (200 + 20 * i)) (ldI V pl i j) (nI j) S := by
    intro d
    induction d with
    | zero =>
      intro j hj
      refine hZ _ _ _ _ ?_
      unfold wp_X7_leadingTo_4B
      refine ⟨_, rfl, w1.1, ?_⟩
      rw [w2.2.2.2.2.2.2.1, k8.1, show j = vn V 8 i by omega]
      exact ⟨fun _ => h, fun e => absurd (nI_le (Nat.le_refl _) (by omega)) e⟩
    | succ d ih =>
      intro j hj
      have ih := ih (j + 1) (by omega)
      have eL : ldI V pl i (j + 1) = if (V 11 (4 * i + j) &&& ((1 : Int32) <<< (nI pl &&& 31))) = 0 then ldI V pl i j else ldI V pl i j ||| mbI V (4 * i + j) := rfl
      have nn := w4.1 j (by omega)
      refine hZ _ _ _ _ ?_
      unfold wp_X7_leadingTo_4B wp_X7_leadingTo_41
      refine ⟨_, rfl, w1.1, ?_⟩
      rw [w2.2.2.2.2.2.2.1, k8.1, nI_clamp (show j < 2 ^ 31 by omega)]
      refine ⟨fun e => absurd e (nI_ge (show j < vn V 8 i by omega) (by omega)), fun _ => ⟨_, rfl, w1.1, _, w1.2.1, _, w1.2.2.1, vp_in_nI (show j < 4 by omega) (by decide), _, nn.1, nn.2.1, s16, ?_⟩⟩
      rw [nn.2.2.2.2.1, T.1.2.2.2]
      refine ⟨fun e y ey => ?_, fun e => ⟨_, rfl, w1.1, _, w1.2.1, _, w1.2.2.1, vp_in_nI (show j < 4 by omega) (by decide), _, nn.1, nn.2.1, fun y29 e29 y ey => ?_⟩⟩
      · rw [if_pos e] at eL
        rw [ey, nI_1, ← eL]; exact ih
      · rw [if_neg e] at eL
        rw [ey, nI_1, e29, T.2.2.1 i hi j (by omega), ← eL]; exact ih
  exact H (vn V 8 i) 0 (by omega)
theorem c_within7 {S : xm_S} {V : VV} {N pl : Nat} {ul : Nat → Bool} {ask : Int32} {g : Int32 → xm_S → Prop} (C : CR S V N) (I : Iv V) (T : STD S V pl ul) (ha : st_i S 16 7 = ask) (h : g (wrF V pl ask (pmI V pl ul)) S) : wp_X7_withinReach 16 S g := by
  have w18 := I.2.2.1.1
  have w182 := w18.2
  have s16 := (gS_16 C.2.2.1).2
  have c4 := gS_4 C.2.2.1
  have c5 := gS_5 C.2.2.1
  -- the passes
  have ST : wp_X7_withinReach_48 16 (w0F V ask (pmI V pl ul) (vn V 18 0)) (0 : Int32) S g := by
    unfold wp_X7_withinReach_48
    intro Z hZ
    have H : ∀ d n x, n + d = 64 → ble x (pmI V pl ul) → wrF V pl ask (pmI V pl ul) = wtF V pl (pmI V pl ul) d x → Z x (nI n) S := by
      intro d
      induction d with
      | zero =>
        intro n x hn hx e
        refine hZ _ _ _ ?_
        unfold wp_X7_withinReach_48B wp_X7_withinReach_124
        rw [show n = 64 by omega]
        rw [e] at h
        exact ⟨fun _ => h, fun e => absurd (nI_le (Nat.le_refl 64) (by decide)) e⟩
      | succ d ih =>
        intro n x hn hx e
        have e : wrF V pl ask (pmI V pl ul) = if wpF V pl (pmI V pl ul) 24 x = x then wpF V pl (pmI V pl ul) 24 x else wtF V pl (pmI V pl ul) d (wpF V pl (pmI V pl ul) 24 x) := e
        refine hZ _ _ _ ?_
        unfold wp_X7_withinReach_48B wp_X7_withinReach_59
        refine ⟨fun e => absurd e (nI_ge (show n < 64 by omega) (by decide)), fun _ Z2 hZ2 => ?_⟩
        have H2 : ∀ d2 i, i + d2 = 24 → Z2 (wpF V pl (pmI V pl ul) i x) (nI n) x (nI i) S := by
          intro d2
          induction d2 with
          | zero =>
            intro i hi
            refine hZ2 _ _ _ _ _ ?_
            unfold wp_X7_withinReach_59B wp_X7_withinReach_124
            rw [show i = 24 by omega]
            refine ⟨fun _ => ⟨fun ne y ey => ?_, fun eq => ?_⟩, fun e => absurd (nI_le (Nat.le_refl 24) (by decide)) e⟩
            · rw [if_neg ne] at e
              rw [ey, nI_1]
              exact ih (n + 1) _ (by omega) (wp_24 hx 24) e
            · rw [if_pos eq] at e
              rw [e] at h; exact h
          | succ d2 ih2 =>
            intro i hi
            have ih2 := ih2 (i + 1) (by omega)
            have eW : wpF V pl (pmI V pl ul) (i + 1) x = if bt (wpF V pl (pmI V pl ul) i x) i then wpF V pl (pmI V pl ul) i x ||| (ldI V pl i (vn V 8 i) &&& pmI V pl ul) else wpF V pl (pmI V pl ul) i x := rfl
            refine hZ2 _ _ _ _ _ ?_
            unfold wp_X7_withinReach_59B wp_X7_withinReach_104
            rw [b1_z (show i < 32 by omega)]
            refine ⟨fun e => absurd e (nI_ge (show i < 24 by omega) (by decide)), fun _ => ⟨fun b y ey => ?_, fun b => ⟨s16, 4, T.1.1, _, c4.2, ?_⟩⟩⟩
            · rw [if_neg (by rw [b]; decide)] at eW
              rw [ey, nI_1, ← eW]; exact ih2
            · have b : bt (wpF V pl (pmI V pl ul) i x) i = true := by cases h2 : bt (wpF V pl (pmI V pl ul) i x) i; exact absurd h2 b; rfl
              have pm1 := pm_24 (bt_pm.symm.trans (wp_24 hx i i b))
              obtain ⟨u1, u2, u3, u4⟩ := usb_p I pm1.1 pm1.2
              have P := CR_gP C _ u1
              have vk := CR_ver C I u1 u2
              rw [u4] at vk
              rw [if_pos b] at eW
              rw [pk_rem (a := i) (d := 4) (by omega) (by decide) (by decide), pk_div (a := i) (d := 4) (by omega) (by decide) (by decide), nI_clamp (show i / 4 < 2 ^ 31 by omega), nI_clamp (show i % 4 < 2 ^ 31 by omega)]
              refine ⟨vp_in_nI (show i / 4 < 6 by omega) (by decide), _, P.2.1, P.1, _, P.2.2.1, _, P.2.2.2.1, vp_in_nI (show i % 4 < 4 by omega) (by decide), ?_⟩
              rw [vk.1]
              refine c_leading C I T pm1.1 pm1.2 ⟨s16, fun y24 e24 y ey => ?_⟩
              rw [T.2.2.2.2.2, ← eW] at e24
              rw [ey, nI_1, e24]; exact ih2
        exact H2 24 0 rfl
    exact H 64 0 _ rfl (w0_le _).1 rfl
  unfold wp_X7_withinReach wp_X7_withinReach_4
  intro Z hZ
  have H : ∀ d k, k + d = vn V 18 0 → Z (w0F V ask (pmI V pl ul) k) (nI k) S := by
    intro d
    induction d with
    | zero =>
      intro k hk
      refine hZ _ _ _ ?_
      unfold wp_X7_withinReach_4B
      rw [T.1.2.2.1, w18.1, show k = vn V 18 0 by omega]
      exact ⟨s16, fun _ => ST, fun e => absurd (nI_le (Nat.le_refl _) (by omega)) e⟩
    | succ d ih =>
      intro k hk
      have ih := ih (k + 1) (by omega)
      have eW : w0F V ask (pmI V pl ul) (k + 1) = if bt ask k then w0F V ask (pmI V pl ul) k ||| (mbI V (144 + k) &&& pmI V pl ul) else w0F V ask (pmI V pl ul) k := rfl
      obtain ⟨w, g1, g2⟩ := C.2.2.2.2.2.2.2.2.1
      have gw := g1 k (by omega)
      refine hZ _ _ _ ?_
      unfold wp_X7_withinReach_4B wp_X7_withinReach_40
      rw [T.1.2.2.1, w18.1, ha, b1_z (show k < 32 by omega), nI_clamp (show k < 2 ^ 31 by omega)]
      refine ⟨s16, fun e => absurd e (nI_ge (show k < vn V 18 0 by omega) (by omega)), fun _ => ⟨fun b y ey => ?_, fun b => ⟨5, T.1.2.1, _, c5.2, vp_in_nI (show k < 4 by omega) (by decide), _, gw.1, gw.2.2.2.1, fun y35 e35 y ey => ?_⟩⟩⟩
      · rw [if_neg (by rw [b]; decide)] at eW
        rw [ey, nI_1, ← eW]; exact ih
      · rw [if_pos (by cases h2 : bt ask k; exact absurd h2 b; rfl)] at eW
        rw [T.2.1 k (by omega) _ gw.1, T.2.2.2.2.2, ← eW] at e35
        rw [ey, nI_1, e35]; exact ih
  exact H (vn V 18 0) 0 (by omega)
-- the greatest of some versions
theorem cmp_pos {V : VV} {p j k : Nat} (hj : j < 4) (hk : k < 4) : ¬ cmpN (kyN (vn V 1 p) (vn V 3 (4 * p + j))) (kyN (vn V 1 p) (vn V 3 (4 * p + k))) j k ≤ 0 ↔ Ky V p k < Ky V p j := by
  unfold cmpN Ky
  generalize kyN (vn V 1 p) (vn V 3 (4 * p + j)) = a
  generalize kyN (vn V 1 p) (vn V 3 (4 * p + k)) = b
  by_cases h1 : a < b
  · rw [if_pos h1]
    exact ⟨fun h => absurd (by decide) h, fun h => by omega⟩
  · rw [if_neg h1]
    by_cases h2 : b < a
    · rw [if_pos h2]
      exact ⟨fun _ => by omega, fun _ => by decide⟩
    · rw [if_neg h2]
      by_cases h3 : j < k
      · rw [if_pos h3]
        exact ⟨fun h => absurd (by decide) h, fun h => by omega⟩
      · rw [if_neg h3]
        by_cases h4 : k < j
        · rw [if_pos h4]
          exact ⟨fun _ => by omega, fun _ => by decide⟩
        · rw [if_neg h4]
          exact ⟨fun h => absurd (by decide) h, fun h => by omega⟩
theorem c_greatest {S : xm_S} {V : VV} {N p d : Nat} {x : Int32} {g : Int32 → xm_S → Prop} (C : CR S V N) (I : Iv V) (h0 : st_r S 16 0 = some 4) (hp : p < 6) (hd : d < vn V 2 p) (hx : bt x (od V p d) = true) (hl : ∀ e, e < d → bt x (od V p e) = false) (h : g (nI (od V p d)) S) : wp_X7_greatest 16 (nI p) x S g := by
  have s16 := (gS_16 C.2.2.1).2
  have c4 := gS_4 C.2.2.1
  have P := CR_gP C p hp
  have cn := (I.1.1 p hp).2
  have cn2 := cn.2
  have oo := od_x cn2 hd
  -- the greatest one
  have top : ∀ j, j < vn V 2 p → bt x j = true → j = od V p d ∨ Ky V p j < Ky V p (od V p d) := fun j hj hb => by
    have a1 := abv_b hj
    rcases Nat.lt_trichotomy (abv V p j) d with q | q | q
    · have := hl _ q
      rw [od_a cn2 hj, hb] at this; cases this
    · exact .inl (by rw [← q]; exact (od_a cn2 hj).symm)
    · refine .inr ?_
      rcases Nat.lt_trichotomy (Ky V p j) (Ky V p (od V p d)) with r | r | r
      · exact r
      · have := Ky_i (by omega) (by omega) r
        rw [this, oo.2] at q; omega
      · have := abv_lt hj r
        omega
  unfold wp_X7_greatest wp_X7_greatest_5
  intro Z hZ
  have H : ∀ d' k b, k + d' = vn V 2 p → (b = -1 ∧ (∀ j, j < k → bt x j = false) ∨ ∃ m, m < k ∧ b = nI m ∧ bt x m = true ∧ ∀ j, j < k → bt x j = true → ¬ Ky V p m < Ky V p j) → Z (nI p) x b (nI k) S := by
    intro d'
    induction d' with
    | zero =>
      intro k b hk hb
      refine hZ _ _ _ _ _ ?_
      unfold wp_X7_greatest_5B wp_X7_greatest_79
      rw [nI_clamp (show p < 2 ^ 31 by omega)]
      refine ⟨s16, 4, h0, _, c4.2, vp_in_nI (show p < 6 by omega) (by decide), _, P.2.1, P.1, ?_⟩
      rw [P.2.2.2.2.2.1, cn.1]
      rw [show k = vn V 2 p by omega] at hb ⊢
      refine ⟨fun _ => ?_, fun e => absurd (nI_le (Nat.le_refl _) (by omega)) e⟩
      rcases hb with ⟨_, hb⟩ | ⟨m, hm, e, hm2, hb⟩
      · rw [hb _ oo.1] at hx; cases hx
      · have : m = od V p d := (top m hm hm2).resolve_right fun hh => hb _ oo.1 hx hh
        rw [e, this]
        exact ⟨fun _ => h, fun e => absurd e (nI_m1 (by omega))⟩
    | succ d' ih =>
      intro k b hk hb
      have ih := fun b => ih (k + 1) b (by omega)
      refine hZ _ _ _ _ _ ?_
      unfold wp_X7_greatest_5B
      rw [nI_clamp (show p < 2 ^ 31 by omega), b1_z (show k < 32 by omega)]
      refine ⟨s16, 4, h0, _, c4.2, vp_in_nI (show p < 6 by omega) (by decide), _, P.2.1, P.1, ?_⟩
      rw [P.2.2.2.2.2.1, cn.1]
      refine ⟨fun e => absurd e (nI_ge (show k < vn V 2 p by omega) (by omega)), fun _ => ⟨fun b0 => ?_, fun b0 => ?_⟩⟩
      · unfold wp_X7_greatest_33 wp_X7_greatest_63
        refine ⟨fun _ y ey => ?_, fun e => absurd rfl e⟩
        rw [ey, nI_1]
        refine ih b ?_
        rcases hb with ⟨e, hb⟩ | ⟨m, hm, e, hm2, hb⟩
        · refine .inl ⟨e, fun j hj => ?_⟩
          by_cases ej : j = k
          · rw [ej]; exact b0
          · exact hb j (by omega)
        · refine .inr ⟨m, by omega, e, hm2, fun j hj hj2 => ?_⟩
          by_cases ej : j = k
          · rw [ej, b0] at hj2; cases hj2
          · exact hb j (by omega) hj2
      · have b0 : bt x k = true := by cases h2 : bt x k; exact absurd h2 b0; rfl
        unfold wp_X7_greatest_33 wp_X7_greatest_60 wp_X7_greatest_63
        refine ⟨fun e => absurd e (by decide), fun _ => ⟨fun e y ey => ?_, fun e => ⟨s16, 4, h0, _, c4.2, vp_in_nI (show p < 6 by omega) (by decide), ?_⟩⟩⟩
        · rw [ey, nI_1]
          refine ih (nI k) (.inr ⟨k, by omega, rfl, b0, fun j hj hj2 => ?_⟩)
          rcases hb with ⟨_, hb⟩ | ⟨m, hm, e2, _⟩
          · by_cases ej : j = k
            · rw [ej]; exact Nat.lt_irrefl _
            · rw [hb j (by omega)] at hj2; cases hj2
          · rw [e2] at e; exact absurd e (nI_m1 (by omega))
        · rcases hb with ⟨e2, _⟩ | ⟨m, hm, e2, hm2, hb⟩
          · exact absurd e2 e
          · rw [e2, nI_clamp (show p < 2 ^ 31 by omega)]
            refine ⟨_, P.2.1, P.1, c_order C I hp (by omega) (by omega) ⟨fun q y ey => ?_, fun q y ey => ?_⟩⟩
            · rw [ey, nI_1]
              refine ih (nI m) (.inr ⟨m, by omega, rfl, hm2, fun j hj hj2 => ?_⟩)
              by_cases ej : j = k
              · rw [ej]; exact fun hh => absurd q ((cmp_pos (by omega) (by omega)).mpr hh)
              · exact hb j (by omega) hj2
            · rw [ey, nI_1]
              have q := (cmp_pos (by omega) (by omega)).mp q
              refine ih (nI k) (.inr ⟨k, by omega, rfl, b0, fun j hj hj2 => ?_⟩)
              by_cases ej : j = k
              · rw [ej]; exact Nat.lt_irrefl _
              · have := hb j (by omega) hj2
                omega
  exact H (vn V 2 p) 0 (-1) (by omega) (.inl ⟨rfl, fun j hj => absurd hj (Nat.not_lt_zero _)⟩)
