-- story
-- what all wishes have a closure for, fewer have too
noncomputable def rst (R : RP) (c : CH) : CH := fun p => @ite _ (p < 6 ∧ R p) (Classical.propDecidable _) (c p) 0
theorem rst_p {R : RP} {c : CH} {p : Nat} (h : p < 6 ∧ R p) : rst R c p = c p := @if_pos _ (Classical.propDecidable _) h _ _ _
theorem rst_n {R : RP} {c : CH} {p : Nat} (h : ¬ (p < 6 ∧ R p)) : rst R c p = 0 := @if_neg _ (Classical.propDecidable _) h _ _ _
theorem rst_0 {R : RP} {c : CH} {p : Nat} (h : rst R c p ≠ 0) : (p < 6 ∧ R p) ∧ rst R c p = c p := by
  by_cases e : p < 6 ∧ R p
  · exact ⟨e, rst_p e⟩
  · exact absurd (rst_n e) h
theorem rst_v {R : RP} {c : CH} {p : Nat} (h : rst R c p = c p) : vi (rst R c) p = vi c p := by unfold vi; rw [h]
theorem Cls_sub {V : VV} {pl : Nat} {ask ask' : Int32} {c : CH} {R : RP} {F : FP} (h : ∀ k, k < vn V 18 0 → bt ask' k = true → bt ask k = true) (C : Cls V pl ask c R F) : Cls V pl ask' c R F := ⟨fun k hk e => C.1 k hk (h k hk e), C.2⟩
theorem mtc_r {V : VV} {R : RP} {c : CH} {q p : Nat} : mtc V (rst R c) q p = true ↔ mtc V c q p = true ∧ p < 6 ∧ R p := by
  unfold mtc
  rw [Bool.and_eq_true, Bool.and_eq_true, decide_eq_true_eq, decide_eq_true_eq]
  constructor
  · intro ⟨a, b⟩
    obtain ⟨x, y⟩ := rst_0 a
    rw [rst_v y] at b
    rw [y] at a
    exact ⟨⟨a, b⟩, x⟩
  · intro ⟨⟨a, b⟩, x⟩
    have y := rst_p (c := c) x
    rw [rst_v y, y]
    exact ⟨a, b⟩
theorem clo_sub {V : VV} {pl : Nat} {ul : Nat → Bool} {ask ask' : Int32} {c : CH} (o : okc V c) (h : ∀ k, k < vn V 18 0 → bt ask' k = true → bt ask k = true) (C : Clo V pl ul ask c) : ∃ c', okc V c' ∧ (∀ j, 6 ≤ j → c' j = 0) ∧ Clo V pl ul ask' c' := by
  obtain ⟨C1, C2, C3, C4⟩ := C
  have S := Cls_s (V := V) (pl := pl) (ask := ask') (c := c)
  have rs : ∀ p, Rs V pl ask' c p → Rs V pl ask c p := fun p hp R F hC => hp R F (Cls_sub h hC)
  have fs : ∀ p b, Fs V pl ask' c p b → Fs V pl ask c p b := fun p b hp R F hC => hp R F (Cls_sub h hC)
  generalize hR : Rs V pl ask' c = R' at S rs
  generalize hF : Fs V pl ask' c = F' at S fs
  have r0 : ∀ p, R' p → c p ≠ 0 := fun p hp => Rs_c (by rw [hR]; exact hp)
  -- it is closed for what is left
  have S2 : Cls V pl ask' (rst R' c) R' F' := by
    refine ⟨fun k hk e => ⟨fun p hp m => (S.1 k hk e).1 p hp (mtc_r.mp m).1, fun b hb n0 hh => (S.1 k hk e).2 b hb (by rw [← (rst_0 n0).2]; exact n0) hh⟩, fun p hp n0 hp2 j hj ac => ?_⟩
    obtain ⟨x, y⟩ := rst_0 n0
    rw [rst_v y] at hj ac ⊢
    have l := S.2 p hp (r0 p x.2) x.2 j hj ac
    exact ⟨fun p' hp' m => l.1 p' hp' (mtc_r.mp m).1, fun b hb n1 hh => l.2 b hb (by rw [← (rst_0 n1).2]; exact n1) hh⟩
  -- and nothing less is
  have L : ∀ R F, Cls V pl ask' (rst R' c) R F → (∀ p, p < 6 → R' p → R p) := fun R F hC p hp hr => by
    have hc : Cls V pl ask' c (fun p => R p ∧ R' p) (fun p b => (F p b ∨ rst R' c p = 0) ∧ F' p b) := by
      refine ⟨fun k hk e => ⟨fun p hp m => ?_, fun b hb n0 hh => ⟨?_, (S.1 k hk e).2 b hb n0 hh⟩⟩, fun p hp n0 hp2 j hj ac => ?_⟩
      · have r := (S.1 k hk e).1 p hp m
        exact ⟨(hC.1 k hk e).1 p hp (mtc_r.mpr ⟨m, hp, r⟩), r⟩
      · by_cases z : rst R' c (nP V (144 + k)) = 0
        · exact .inr z
        · exact .inl ((hC.1 k hk e).2 b hb z hh)
      · have y := rst_p (c := c) ⟨hp, hp2.2⟩
        have n1 : rst R' c p ≠ 0 := by rw [y]; exact n0
        have l := S.2 p hp n0 hp2.2 j hj (act_m ac fun b _ f => f.2)
        have l2 := hC.2 p hp n1 hp2.1 j (by rw [rst_v y]; exact hj) (by rw [rst_v y]; exact act_m ac fun b _ f => f.1.resolve_right n1)
        rw [rst_v y] at l2
        refine ⟨fun p' hp' m => ?_, fun b hb n2 hh => ⟨?_, l.2 b hb n2 hh⟩⟩
        · have r := l.1 p' hp' m
          exact ⟨l2.1 p' hp' (mtc_r.mpr ⟨m, hp', r⟩), r⟩
        · by_cases z : rst R' c (nP V (4 * vi c p + j)) = 0
          · exact .inr z
          · exact .inl (l2.2 b hb z hh)
    have hr2 : Rs V pl ask' c p := by rw [hR]; exact hr
    exact (hr2 _ _ hc).1
  have mt1 : ∀ q, met V c q → (∀ p, p < 6 → mtc V c q p = true → R' p) → met V (rst R' c) q := fun q ⟨p, hp, m⟩ l => ⟨p, hp, mtc_r.mpr ⟨m, hp, l p hp m⟩⟩
  refine ⟨rst R' c, fun p hp => ?_, fun j hj => rst_n (by omega), fun p hp n0 => ?_, fun p p' hp hp' ne n0 n0' => ?_, ⟨fun k hk e => ?_, fun p hp n0 _ j hj ac => ?_⟩, fun p hp n0 R F hC => L R F hC p hp (rst_0 n0).1.2⟩
  · by_cases e : p < 6 ∧ R' p
    · rw [rst_p e]; exact o p hp
    · rw [rst_n e]; exact Nat.zero_le _
  · obtain ⟨x, y⟩ := rst_0 n0
    rw [rst_v y]; exact C1 p hp (r0 p x.2)
  · obtain ⟨x, y⟩ := rst_0 n0
    obtain ⟨x', y'⟩ := rst_0 n0'
    rw [rst_v y, rst_v y']
    exact C2 p p' hp hp' ne (r0 p x.2) (r0 p' x'.2)
  · exact mt1 _ (C3.1 k hk (h k hk e)) fun p hp m => (S.1 k hk e).1 p hp m
  · obtain ⟨x, y⟩ := rst_0 n0
    rw [rst_v y] at hj ac ⊢
    have ac' : act V pl F' p (4 * vi c p + j) := act_m ac fun b _ f => f _ _ S2
    refine mt1 _ (C3.2 p hp (r0 p x.2) (rs p x.2) j hj (act_m ac' fun b _ f => fs p b f)) fun p' hp' m => ?_
    exact (S.2 p hp (r0 p x.2) x.2 j hj ac').1 p' hp' m
-- what the search tells
theorem gF_nz {V : VV} {pl : Nat} {ul : Nat → Bool} {ask : Int32} (I : Iv V) : ∀ n p c st, p + n = 6 → st.1 ≠ 0 → (gF V (leaf V pl ul ask 0) n p c st).1 ≠ 0 := by
  intro n
  induction n with
  | zero => intro p c st _ h; exact fun e => h (leaf_0.mp e).1
  | succ n ih =>
    intro p c st hp h
    unfold gF
    have : ∀ m, (fl (fun d s => gF V (leaf V pl ul ask 0) n (p + 1) (ud c p (dgt V p d)) s) m st).1 ≠ 0 := fun m => by
      induction m with
      | zero => exact h
      | succ m im => exact ih (p + 1) _ _ (by omega) im
    exact this _
theorem gF_ex {V : VV} {pl : Nat} {ul : Nat → Bool} {ask : Int32} {c' : CH} (I : Iv V) (o : okc V c') (C : Clo V pl ul ask c') : ∀ n p c st, p + n = 6 → (∀ j, j < p ∨ 6 ≤ j → c j = c' j) → (gF V (leaf V pl ul ask 0) n p c st).1 ≠ 0 := by
  intro n
  induction n with
  | zero =>
    intro p c st hp h
    have : c = c' := funext fun j => h j (by omega)
    rw [this]
    intro e
    have := (leaf_0.mp e).2
    rw [cloB_t.mpr C] at this
    cases this
  | succ n ih =>
    intro p c st hp h
    have h4 := (I.1.1 p (by omega)).2.2
    have op := o p (by omega)
    -- the digit
    have : ∃ d, d < vn V 2 p + 1 ∧ dgt V p d = c' p := by
      by_cases e : c' p = 0
      · exact ⟨0, by omega, e.symm⟩
      · have hk : c' p - 1 < vn V 2 p := by omega
        have a := abv_b hk
        refine ⟨abv V p (c' p - 1) + 1, by omega, ?_⟩
        unfold dgt
        rw [if_neg (by omega), show abv V p (c' p - 1) + 1 - 1 = abv V p (c' p - 1) by omega, od_a h4 hk]
        omega
    obtain ⟨d, hd, e⟩ := this
    unfold gF
    have : ∀ m, d < m → (fl (fun d s => gF V (leaf V pl ul ask 0) n (p + 1) (ud c p (dgt V p d)) s) m st).1 ≠ 0 := fun m => by
      induction m with
      | zero => intro hm; omega
      | succ m im =>
        intro hm
        by_cases em : d = m
        · subst em
          refine ih (p + 1) _ _ (by omega) fun j hj => ?_
          by_cases ej : j = p
          · rw [ej, ud_s, e]
          · rw [ud_n _ _ _ ej]; exact h j (by omega)
        · exact gF_nz I n (p + 1) _ _ (by omega) (im (by omega))
    exact this _ hd
theorem gF_cl {V : VV} {pl : Nat} {ul : Nat → Bool} {ask : Int32} (I : Iv V) : ∀ n p c st, p + n = 6 → okc V c → st.1 = 0 → (gF V (leaf V pl ul ask 0) n p c st).1 ≠ 0 → ∃ c', okc V c' ∧ Clo V pl ul ask c' := by
  intro n
  induction n with
  | zero =>
    intro p c st hp o h h2
    have h2 : (leaf V pl ul ask 0 c st).1 ≠ 0 := h2
    refine ⟨c, o, cloB_t.mp ?_⟩
    cases e : cloB V pl ul ask c
    · exact absurd (leaf_0.mpr ⟨h, e⟩) h2
    · rfl
  | succ n ih =>
    intro p c st hp o h h2
    have h4 := (I.1.1 p (by omega)).2.2
    unfold gF at h2
    have : ∀ m, m ≤ vn V 2 p + 1 → (fl (fun d s => gF V (leaf V pl ul ask 0) n (p + 1) (ud c p (dgt V p d)) s) m st).1 ≠ 0 → ∃ c', okc V c' ∧ Clo V pl ul ask c' := fun m => by
      induction m with
      | zero => intro _ q; exact absurd h q
      | succ m im =>
        intro hm q
        by_cases z : (fl (fun d s => gF V (leaf V pl ul ask 0) n (p + 1) (ud c p (dgt V p d)) s) m st).1 = 0
        · refine ih (p + 1) _ _ (by omega) (fun j hj => ?_) z q
          by_cases ej : j = p
          · rw [ej, ud_s]; exact dgt_b h4 (by omega)
          · rw [ud_n _ _ _ ej]; exact o j hj
        · exact im (by omega) z
    exact this _ (Nat.le_refl _) h2
noncomputable def hasC (V : VV) (l k : Nat) : Bool := decide ((skF V l (ulB (-2)) (nI k) 0).1 ≠ 0)
theorem bt_sub : ∀ x, x < 80 → x % 16 < 2 ^ (x / 16) → ∀ k, k < 4 → bt (nI (x % 16)) k = true → k < x / 16 := by decide +kernel
theorem hasC_m {V : VV} {l k : Nat} (I : Iv V) (h : hasC V l (2 ^ vn V 18 0 - 1) = true) : hasC V l k = true := by
  have w4 := I.2.2.1.1.2
  unfold hasC at h ⊢
  obtain ⟨c, o, C⟩ := gF_cl I 6 0 _ _ rfl ok0 rfl (of_decide_eq_true h)
  obtain ⟨c', o', z, C'⟩ := clo_sub (ask' := nI k) o (fun i hi _ => al_b (by omega) hi) C
  exact decide_eq_true (gF_ex I o' C' 6 0 _ _ rfl fun j hj => (z j (by omega)).symm)
theorem hasC_0 {V : VV} {l k : Nat} (I : Iv V) (h : vn V 18 0 = 0) : hasC V l k = true := by
  unfold hasC
  refine decide_eq_true (gF_ex (c' := fun _ => 0) I ok0 ⟨fun p _ e => absurd rfl e, fun p p' _ _ _ e => absurd rfl e, ⟨fun k hk => by rw [h] at hk; omega, fun p _ e => absurd rfl e⟩, fun p _ e => absurd rfl e⟩ 6 0 _ _ rfl fun j _ => rfl)
-- the least set without a closure
noncomputable def stI1 (V : VV) (l s : Nat) : Nat → Nat → Option Nat
  | 0, _ => none
  | d + 1, k => if pc5 k = s ∧ hasC V l k = false then some k else stI1 V l s d (k + 1)
noncomputable def stO (V : VV) (l : Nat) : Nat → Nat → Nat
  | 0, _ => 2 ^ vn V 18 0 - 1
  | d + 1, s => match stI1 V l s (2 ^ vn V 18 0 - 2) 1 with
    | some k => k
    | none => stO V l d (s + 1)
noncomputable def sto (V : VV) (l : Nat) : Int32 := if hasC V l (2 ^ vn V 18 0 - 1) then -1 else nI (stO V l (vn V 18 0 - 1) 1)
theorem pc_lt : ∀ x, x < 80 → x % 16 + 1 < 2 ^ (x / 16) → pc5 (x % 16) < x / 16 := by decide +kernel
theorem pc_all : ∀ w, w < 5 → pc5 (2 ^ w - 1) = w := by decide +kernel
theorem pow_w {w : Nat} (hw : w ≤ 4) : 2 ^ w ≤ 16 ∧ 1 ≤ 2 ^ w := by
  have : w = 0 ∨ w = 1 ∨ w = 2 ∨ w = 3 ∨ w = 4 := by omega
  rcases this with e | e | e | e | e <;> rw [e] <;> decide
theorem pow_2 {w : Nat} (hw : w ≤ 4) (h : w ≠ 0) : 2 ≤ 2 ^ w := by
  have : w = 1 ∨ w = 2 ∨ w = 3 ∨ w = 4 := by omega
  rcases this with e | e | e | e <;> rw [e] <;> decide
noncomputable def r_story (V : VV) (l : Int32) : Int32 := sto V l.toNatClampNeg
theorem w_story {S : xm_S} {V W : VV} {N : Nat} {l : Int32} {g : Int32 → xm_S → Prop} (R : RR S V W N) (I : Iv V) (h : ∀ S' N', RR S' V W N' → (t_holds l = 0 → st_l S' 1200 0 = (r_story V l).toInt64) → g (nI (t_holds l)) S') : wp_L_story (some 1) l (some 1200) S g := by
  have c1 := R.1.2.2.1
  have w18 := I.2.2.1.1
  have w4 := w18.2
  have pw := pow_w w4
  unfold wp_L_story wp_X11_story
  refine ⟨1, rfl, c1.1, q_plat (fun a => ?_) (fun a => ⟨rfl, ?_⟩)⟩
  · obtain ⟨j, hj, e⟩ := inB_nI a (by decide)
    subst e
    have t : t_holds (nI j) = 0 := by unfold t_holds; rw [if_pos a]
    have r : r_story V (nI j) = sto V j := by unfold r_story; rw [nI_clamp (by omega)]
    rw [t, r] at h
    refine ⟨c1.1, c_prep R I (by omega) fun S4 R4 F4 T4 => ⟨R4.1.2.2.1.1, q_all R4.1 I ?_⟩⟩
    -- one question
    have Q : ∀ S1 k (g' : Int32 → xm_S → Prop), xf_F fSk S4 S1 → (∀ S2 n, xf_F fSk S4 S2 → n < 2 ^ 31 → (n ≠ 0 ↔ hasC V j k = true) → g' (nI n) S2) → wp_X7_seek 16 (nI k) (nI 0) S1 g' := fun S1 k g' F1 hg => by
      refine c_seek (goal := 0) (SF_CR (SF_k F1) R4.1 I) I (by omega) (by decide) (STD_k R4.1 F1 T4) fun S2 F2 _ => hg S2 _ (xf_tr F1 F2) ?_ ?_
      · have := (sk_b (pl := j) (goal := 0) (ul := bt (nI 63)) (ask := nI k) I).1; omega
      · unfold hasC
        rw [skF_c (ul' := ulB (-2)) I (fun _ _ => rfl) ul_63, decide_eq_true_eq]
    have Rk : ∀ S1, xf_F fSk S4 S1 → RR S1 V W N := fun S1 F1 => SF_RR (SF_k F1) R4 I
    have out : ∀ S1, xf_F fSk S4 S1 → ∀ x, x = sto V j → ∃ n6, some 1200 = some n6 ∧ ∃ z9, st_t S1 n6 = some (103, z9) ∧ vp_in (0 : Int32) z9 ∧ ∀ S11, S11 = st_pl S1 n6 ((0 : Int32)).toNatClampNeg (x.toInt64) → g (0 : Int32) S11 := fun S1 F1 x ex => by
      rw [ex]
      exact w_out (Rk S1 F1) I fun S' R' hl => h S' N R' (fun _ => hl)
    have d1 := R4.1.2.2.1
    refine ⟨16, (gS_16 d1).1, (gS_16 d1).2, Q S4 _ _ (xf_rfl _ _) fun S30 n F30 hn en => ?_⟩
    rw [nI_l0 hn]
    refine ⟨fun z => ?_, fun nz => ?_⟩
    · have hf : hasC V j (2 ^ vn V 18 0 - 1) = false := by
        cases hc : hasC V j (2 ^ vn V 18 0 - 1)
        · rfl
        · exact absurd z (en.mpr hc)
      have er : sto V j = nI (stO V j (vn V 18 0 - 1) 1) := by unfold sto; rw [if_neg (by rw [hf]; decide)]
      have w0 : vn V 18 0 ≠ 0 := fun e0 => by rw [hasC_0 I e0] at hf; cases hf
      have p2 := pow_2 w4 w0
      unfold wp_X11_story_30
      intro Z hZ
      have H : ∀ d s S1, s + d = vn V 18 0 → 1 ≤ s → xf_F fSk S4 S1 → sto V j = nI (stO V j d s) → Z (nI s) S1 := by
        intro d
        induction d with
        | zero =>
          intro s S1 hs h1 F1 er
          have C1 := SF_CR (SF_k F1) R4.1 I
          refine hZ _ _ ?_
          unfold wp_X11_story_30B
          rw [C1.2.2.2.1.1, w18.1, show s = vn V 18 0 by omega]
          exact ⟨C1.2.2.1.1, fun _ => q_all C1 I (out S1 F1 _ er.symm), fun e => absurd (nI_le (Nat.le_refl _) (by omega)) e⟩
        | succ d ih =>
          intro s S1 hs h1 F1 er
          have C1 := SF_CR (SF_k F1) R4.1 I
          have eO : stO V j (d + 1) s = match stI1 V j s (2 ^ vn V 18 0 - 2) 1 with
            | some k => k
            | none => stO V j d (s + 1) := rfl
          refine hZ _ _ ?_
          unfold wp_X11_story_30B wp_X11_story_40
          rw [C1.2.2.2.1.1, w18.1]
          refine ⟨C1.2.2.1.1, fun e => absurd e (nI_ge (show s < vn V 18 0 by omega) (by omega)), fun _ Z2 hZ2 => ?_⟩
          have H2 : ∀ d2 k S2, k + d2 = 2 ^ vn V 18 0 - 1 → xf_F fSk S4 S2 → stI1 V j s (2 ^ vn V 18 0 - 2) 1 = stI1 V j s d2 k → Z2 (nI s) (nI k) S2 := by
            intro d2
            induction d2 with
            | zero =>
              intro k S2 hk F2 eI
              have C2 := SF_CR (SF_k F2) R4.1 I
              refine hZ2 _ _ _ ?_
              unfold wp_X11_story_40B
              refine ⟨C2.2.2.1.1, q_all C2 I ⟨fun _ y ey => ?_, fun e => absurd (nI_le (show 2 ^ vn V 18 0 - 1 ≤ k by omega) (by omega)) e⟩⟩
              rw [eI] at eO
              rw [ey, nI_1]
              exact ih (s + 1) S2 (by omega) (by omega) F2 (er.trans (by rw [eO]; rfl))
            | succ d2 ih2 =>
              intro k S2 hk F2 eI
              have eI2 : stI1 V j s (d2 + 1) k = if pc5 k = s ∧ hasC V j k = false then some k else stI1 V j s d2 (k + 1) := rfl
              have C2 := SF_CR (SF_k F2) R4.1 I
              have s2 := gS_16 C2.2.2.1
              have pb := pc5_b (n := k)
              have next : ¬ (pc5 k = s ∧ hasC V j k = false) → ∀ S3, xf_F fSk S4 S3 → wp_X11_story_70 1 (nI s) (nI k) S3 (fun r15 S14 => ∃ n6, some 1200 = some n6 ∧ ∃ z9, st_t S14 n6 = some (103, z9) ∧ vp_in (0 : Int32) z9 ∧ ∀ S11, S11 = st_pl S14 n6 ((0 : Int32)).toNatClampNeg (r15.toInt64) → g (0 : Int32) S11) (fun X9 S9 => (X9 = xm_eI ∧ g (1 : Int32) S9)) Z Z2 := fun hh S3 F3 => by
                unfold wp_X11_story_70
                intro y ey
                rw [if_neg hh] at eI2
                rw [ey, nI_1]
                exact ih2 (k + 1) S3 (by omega) F3 (eI.trans eI2)
              refine hZ2 _ _ _ ?_
              unfold wp_X11_story_40B
              refine ⟨C2.2.2.1.1, q_all C2 I ⟨fun e => absurd e (nI_ge (show k < 2 ^ vn V 18 0 - 1 by omega) (by omega)), fun _ => q_bits (by omega) ?_⟩⟩
              rw [nI_eq (by omega) (by omega)]
              refine ⟨fun ne => next (fun hh => ne hh.1) S2 F2, fun eq => ⟨C2.2.2.1.1, 16, s2.1, s2.2, Q S2 k _ F2 fun S3 n3 F3 hn3 en3 => ?_⟩⟩
              rw [nI_z hn3]
              refine ⟨fun nz => next (fun hh => by rw [en3.mp nz] at hh; cases hh.2) S3 F3, fun z => ?_⟩
              have hk2 : hasC V j k = false := by
                cases hc : hasC V j k
                · rfl
                · exact absurd z (en3.mpr hc)
              rw [if_pos ⟨eq, hk2⟩] at eI2
              rw [eI, eI2] at eO
              exact out S3 F3 (nI k) (by rw [er, eO])
          exact H2 (2 ^ vn V 18 0 - 2) 1 S1 (by omega) F1 rfl
      exact H (vn V 18 0 - 1) 1 S30 (by omega) (Nat.le_refl _) F30 er
    · exact out S30 F30 (-1) (by unfold sto; rw [if_pos (en.mp nz)])
  · have t : t_holds l = 1 := by unfold t_holds; rw [if_neg (by rw [a]; decide)]
    rw [t] at h
    exact h S N R (fun e => absurd e (by decide))
theorem ml_story {S : xm_S} {V W : VV} {N : Nat} {l : Int32} {g : Int32 → xm_S → Prop} (R : RR S V W N) (I : Iv V) (IW : Iv W) (h : ∀ S' b, RR S' V W N → st_i S' 1000 0 = nI (t_holds l) → (t_holds l = 0 → b = r_story W l) → st_l S' 1200 0 = st_l S 1200 0 → g b S') : wp_X12_story 1000 l S g := by
  have w18 := IW.2.2.1.1
  have w4 := w18.2
  have pw := pow_w w4
  unfold wp_X12_story
  refine m_plat (bI_c (fun a => ?_) (fun a => ?_))
  · obtain ⟨j, hj, e⟩ := inB_nI a (by decide)
    subst e
    have t : t_holds (nI j) = 0 := by unfold t_holds; rw [if_pos a]
    have r : r_story W (nI j) = sto W j := by unfold r_story; rw [nI_clamp (by omega)]
    rw [t, r] at h
    unfold wp_X12_story_13
    refine ⟨1000, rfl, R.2.1.1.1, m_may (t := 0) R I rfl (by decide) fun S4 R4 k4 e4 => ⟨fun _ => ⟨R4.2.1.1.1, m_laysRanges R4.2.1 IW fun S20 F20 L20 => ?_⟩, fun e => absurd e (by decide)⟩⟩
    have M20 := MF_MR F20 R4.2.1
    have out : ∀ S1, MC S20 S1 → ∀ x, x = sto W j → g x S1 := fun S1 X1 x ex => by
      have F := MF_t F20 X1.1
      exact h S1 x (RR_m R4 I (MF_KC F) (MF_MR F R4.2.1)) ((MF_0 F).trans e4) (fun _ => ex) ((KC_tr k4 (MF_KC F) 1200 (by omega)).2.2.1 0)
    unfold wp_X12_story_27
    intro Z hZ
    -- the steps: sizes, then sets
    have step : ∀ s k S1 (Z2 : Int32 → Int32 → Int32 → xm_S → Prop), (∀ x1 x2 x3 S, wp_X12_story_37B 1000 x1 x2 x3 S g Z Z2 → Z2 x1 x2 x3 S) → MC S20 S1 → 1 ≤ k → k < 2 ^ vn W 18 0 → (pc5 k = s → hasC W j k = false → ∀ S2, MC S20 S2 → g (nI k) S2) → (¬ (pc5 k = s ∧ hasC W j k = false) → ∀ S2, MC S20 S2 → Z2 (nI j) (nI s) (nI (k + 1)) S2) → s ≤ 5 → Z2 (nI j) (nI s) (nI k) S1 := fun s k S1 Z2 hZ2 X1 k1 k2 hf hn s5 => by
      have M1 := MF_MR X1.1 M20
      have pb := pc5_b (n := k)
      refine hZ2 _ _ _ _ ?_
      unfold wp_X12_story_37B wp_X12_story_66
      rw [show st_i S1 1000 18 = nI (vn W 18 0) from (M1.2.1 18 rfl).trans w18.1]
      have sh : ((1 : Int32) <<< (nI (vn W 18 0) &&& 31)) = nI (2 ^ vn W 18 0) := by
        have : ∀ w, w < 5 → ((1 : Int32) <<< (nI w &&& 31)) = nI (2 ^ w) := by decide +kernel
        exact this _ (by omega)
      rw [sh]
      refine ⟨M1.1.1, fun e => absurd e (nI_ge k2 (by omega)), fun _ => m_size (by omega) ?_⟩
      rw [nI_eq (by omega) (by omega)]
      refine ⟨fun ne y ey => ?_, fun eq => ⟨M1.1.1, m_hasClosure M1 IW (by omega) (MC_L X1 L20) fun S9 X9 => ?_⟩⟩
      · rw [ey, nI_1]; exact hn (fun hh => ne hh.1) S1 X1
      · have X2 := MC_t X1 X9
        show (¬ bI (hasC W j k) = 0 → _) ∧ (bI (hasC W j k) = 0 → _)
        refine bI_c' (fun b y ey => ?_) (fun b => hf eq b S9 X2)
        rw [ey, nI_1]; exact hn (fun hh => by rw [b] at hh; cases hh.2) S9 X2
    have ends : ∀ s S1 (Z2 : Int32 → Int32 → Int32 → xm_S → Prop), (∀ x1 x2 x3 S, wp_X12_story_37B 1000 x1 x2 x3 S g Z Z2 → Z2 x1 x2 x3 S) → MC S20 S1 → Z (nI j) (nI (s + 1)) S1 → Z2 (nI j) (nI s) (nI (2 ^ vn W 18 0)) S1 := fun s S1 Z2 hZ2 X1 hz => by
      have M1 := MF_MR X1.1 M20
      refine hZ2 _ _ _ _ ?_
      unfold wp_X12_story_37B
      rw [show st_i S1 1000 18 = nI (vn W 18 0) from (M1.2.1 18 rfl).trans w18.1]
      have sh : ((1 : Int32) <<< (nI (vn W 18 0) &&& 31)) = nI (2 ^ vn W 18 0) := by
        have : ∀ w, w < 5 → ((1 : Int32) <<< (nI w &&& 31)) = nI (2 ^ w) := by decide +kernel
        exact this _ (by omega)
      rw [sh]
      refine ⟨M1.1.1, fun _ y ey => ?_, fun e => absurd (nI_le (Nat.le_refl _) (by omega)) e⟩
      rw [ey, nI_1]; exact hz
    by_cases hall : hasC W j (2 ^ vn W 18 0 - 1) = true
    · have er : sto W j = -1 := by unfold sto; rw [if_pos hall]
      have H : ∀ d s S1, s + d = vn W 18 0 + 1 → MC S20 S1 → Z (nI j) (nI s) S1 := by
        intro d
        induction d with
        | zero =>
          intro s S1 hs X1
          have M1 := MF_MR X1.1 M20
          refine hZ _ _ _ ?_
          unfold wp_X12_story_27B
          rw [show st_i S1 1000 18 = nI (vn W 18 0) from (M1.2.1 18 rfl).trans w18.1, nI_ltI (by omega) (by omega)]
          exact ⟨M1.1.1, fun _ => out S1 X1 _ er.symm, fun e => absurd (show vn W 18 0 < s by omega) e⟩
        | succ d ih =>
          intro s S1 hs X1
          have M1 := MF_MR X1.1 M20
          refine hZ _ _ _ ?_
          unfold wp_X12_story_27B wp_X12_story_37
          rw [show st_i S1 1000 18 = nI (vn W 18 0) from (M1.2.1 18 rfl).trans w18.1, nI_ltI (by omega) (by omega)]
          refine ⟨M1.1.1, fun e => absurd e (by omega), fun _ Z2 hZ2 => ?_⟩
          have H2 : ∀ d2 k S2, k + d2 = 2 ^ vn W 18 0 → 1 ≤ k → MC S20 S2 → Z2 (nI j) (nI s) (nI k) S2 := by
            intro d2
            induction d2 with
            | zero =>
              intro k S2 hk h1 X2
              rw [show k = 2 ^ vn W 18 0 by omega]
              exact ends s S2 Z2 hZ2 X2 (ih (s + 1) S2 (by omega) X2)
            | succ d2 ih2 =>
              intro k S2 hk h1 X2
              exact step s k S2 Z2 hZ2 X2 h1 (by omega) (fun _ hf => by rw [hasC_m IW hall] at hf; cases hf) (fun _ S3 X3 => ih2 (k + 1) S3 (by omega) (by omega) X3) (by omega)
          exact H2 (2 ^ vn W 18 0 - 1) 1 S1 (by omega) (Nat.le_refl _) X1
      exact H (vn W 18 0) 1 S20 (by omega) (MC_r S20)
    · have hf : hasC W j (2 ^ vn W 18 0 - 1) = false := by
        cases hc : hasC W j (2 ^ vn W 18 0 - 1)
        · rfl
        · exact absurd hc hall
      have er : sto W j = nI (stO W j (vn W 18 0 - 1) 1) := by unfold sto; rw [if_neg hall]
      have w0 : vn W 18 0 ≠ 0 := fun e0 => by rw [hasC_0 IW e0] at hf; cases hf
      have p2 := pow_2 w4 w0
      have pa := pc_all (vn W 18 0) (by omega)
      have pl : ∀ k, k < 2 ^ vn W 18 0 - 1 → pc5 k < vn W 18 0 := fun k hk => by
        have := pc_lt (16 * vn W 18 0 + k) (by omega) (by rw [show (16 * vn W 18 0 + k) % 16 = k by omega, show (16 * vn W 18 0 + k) / 16 = vn W 18 0 by omega]; omega)
        rw [show (16 * vn W 18 0 + k) % 16 = k by omega, show (16 * vn W 18 0 + k) / 16 = vn W 18 0 by omega] at this
        exact this
      have H : ∀ d s S1, s + d = vn W 18 0 → 1 ≤ s → MC S20 S1 → sto W j = nI (stO W j d s) → Z (nI j) (nI s) S1 := by
        intro d
        induction d with
        | zero =>
          intro s S1 hs h1 X1 er
          have M1 := MF_MR X1.1 M20
          have es : s = vn W 18 0 := by omega
          refine hZ _ _ _ ?_
          unfold wp_X12_story_27B wp_X12_story_37
          rw [show st_i S1 1000 18 = nI (vn W 18 0) from (M1.2.1 18 rfl).trans w18.1, nI_ltI (by omega) (by omega)]
          refine ⟨M1.1.1, fun e => absurd e (by omega), fun _ Z2 hZ2 => ?_⟩
          have H2 : ∀ d2 k S2, k + d2 = 2 ^ vn W 18 0 - 1 → 1 ≤ k → MC S20 S2 → Z2 (nI j) (nI s) (nI k) S2 := by
            intro d2
            induction d2 with
            | zero =>
              intro k S2 hk h1 X2
              have ek : k = 2 ^ vn W 18 0 - 1 := by omega
              refine step s k S2 Z2 hZ2 X2 h1 (by omega) (fun _ _ S3 X3 => out S3 X3 _ (by rw [er, ek]; rfl)) (fun hh => absurd ⟨?_, ?_⟩ hh) (by omega)
              · rw [ek, pa, es]
              · rw [ek]; exact hf
            | succ d2 ih2 =>
              intro k S2 hk h1 X2
              exact step s k S2 Z2 hZ2 X2 h1 (by omega) (fun eq => absurd (pl k (by omega)) (by omega)) (fun _ S3 X3 => ih2 (k + 1) S3 (by omega) (by omega) X3) (by omega)
          exact H2 (2 ^ vn W 18 0 - 2) 1 S1 (by omega) (Nat.le_refl _) X1
        | succ d ih =>
          intro s S1 hs h1 X1 er
          have M1 := MF_MR X1.1 M20
          have eO : stO W j (d + 1) s = match stI1 W j s (2 ^ vn W 18 0 - 2) 1 with
            | some k => k
            | none => stO W j d (s + 1) := rfl
          refine hZ _ _ _ ?_
          unfold wp_X12_story_27B wp_X12_story_37
          rw [show st_i S1 1000 18 = nI (vn W 18 0) from (M1.2.1 18 rfl).trans w18.1, nI_ltI (by omega) (by omega)]
          refine ⟨M1.1.1, fun e => absurd e (by omega), fun _ Z2 hZ2 => ?_⟩
          have H2 : ∀ d2 k S2, k + d2 = 2 ^ vn W 18 0 - 1 → 1 ≤ k → MC S20 S2 → stI1 W j s (2 ^ vn W 18 0 - 2) 1 = stI1 W j s d2 k → Z2 (nI j) (nI s) (nI k) S2 := by
            intro d2
            induction d2 with
            | zero =>
              intro k S2 hk h1 X2 eI
              have ek : k = 2 ^ vn W 18 0 - 1 := by omega
              rw [eI] at eO
              refine step s k S2 Z2 hZ2 X2 h1 (by omega) (fun eq => ?_) (fun _ S3 X3 => ?_) (by omega)
              · rw [ek, pa] at eq; omega
              · rw [show k + 1 = 2 ^ vn W 18 0 by omega]
                exact ends s S3 Z2 hZ2 X3 (ih (s + 1) S3 (by omega) (by omega) X3 (er.trans (by rw [eO]; rfl)))
            | succ d2 ih2 =>
              intro k S2 hk h1 X2 eI
              have eI2 : stI1 W j s (d2 + 1) k = if pc5 k = s ∧ hasC W j k = false then some k else stI1 W j s d2 (k + 1) := rfl
              refine step s k S2 Z2 hZ2 X2 h1 (by omega) (fun eq hk2 S3 X3 => ?_) (fun hh S3 X3 => ?_) (by omega)
              · rw [if_pos ⟨eq, hk2⟩] at eI2
                rw [eI, eI2] at eO
                exact out S3 X3 _ (by rw [er, eO])
              · rw [if_neg hh] at eI2
                exact ih2 (k + 1) S3 (by omega) (by omega) X3 (eI.trans eI2)
          exact H2 (2 ^ vn W 18 0 - 2) 1 S1 (by omega) (Nat.le_refl _) X1 rfl
      exact H (vn W 18 0 - 1) 1 S20 (by omega) (Nat.le_refl _) (MC_r S20) er
  · have t : t_holds l = 1 := by unfold t_holds; rw [if_neg (by rw [a]; decide)]
    rw [t] at h
    unfold wp_X12_story_13
    refine ⟨1000, rfl, R.2.1.1.1, m_may (t := 1) R I rfl (by decide) fun S4 R4 k4 e4 => ⟨fun e => absurd rfl e, fun _ => ?_⟩⟩
    exact h S4 0 R4 e4 (fun e => absurd e (by decide)) ((k4 1200 (by omega)).2.2.1 0)
theorem lc_story {m b len kc ks N : Nat} {xs : Nat → Int32} {x4 : Int32} {S : xm_S} {V : VV} {g : Int32 → xm_S → Prop} {Z : Option Nat → Option Nat → Option Nat → Int32 → xm_S → Nat → Nat → Prop} (R : RR S V V N) (I : Iv V) (hm : vn V 54 0 ≤ m) (nx : NX m b len xs x4 kc ks g Z) (hv1 : vp_in (x4 + (1 : Int32)) len) : wp_L_law_1384 b len xs (some 1) (some 1000) (some 1200) x4 S kc ks g Z := by
  obtain ⟨k1, k2, nx⟩ := nx
  unfold wp_L_law_1384 wp_L_law_1437
  refine ⟨hv1, by omega, by omega, w_story R I fun S1 N1 R1 h1 => ⟨hv1, 1000, rfl, R1.2.1.1.1, by omega, by omega, ml_story R1 I I fun S2 b R2 e2 hb hl => ⟨1000, rfl, R2.2.1.1.1, by omega, by omega, m_thrown R2.2.1 e2 ?_⟩⟩⟩
  exact lc_cmp R2.2.2 (by unfold t_holds; repeat' split
                          all_goals decide) (fun e => hl.trans (h1 e)) hb (nx _ _ _ _ _ R2 I (md rfl hm) (by omega) (by omega))
