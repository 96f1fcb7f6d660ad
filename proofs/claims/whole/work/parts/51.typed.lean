-- the tape as a range, on both sides
def okT (V : VV) : Bool := match sc 41 (tT V 154) 0 true with
  | (a, some _) => decide (a = tL V 154)
  | (_, none) => false
theorem okT_t {V : VV} (h : okT V = true) : ∃ l, tOf (tT V 154) (tL V 154) l := by
  unfold okT at h
  unfold tOf
  generalize sc 41 (tT V 154) 0 true = r at h
  obtain ⟨a, b⟩ := r
  cases b with
  | none => cases h
  | some l => exact ⟨l, by rw [show a = tL V 154 from of_decide_eq_true h]⟩
theorem okT_f {V : VV} (h : okT V = false) : ∀ l, sc 41 (tT V 154) 0 true ≠ (tL V 154, some l) := by
  intro l hl
  unfold okT at h
  rw [hl] at h
  have h : decide (tL V 154 = tL V 154) = false := h
  rw [decide_eq_true rfl] at h
  cases h
theorem okT_sfo {V : VV} (hT : TX (tT V 154) (tL V 154)) : sfo (tL V 154) (sc 41 (tT V 154) 0 true) = -1 ↔ okT V = true := by
  have hle := sc_le hT 41 0 true (Nat.zero_le _)
  have hL := hT.1
  unfold okT
  generalize sc 41 (tT V 154) 0 true = r at hle ⊢
  obtain ⟨a, b⟩ := r
  have hle : a ≤ tL V 154 := hle
  cases b with
  | none => exact ⟨fun e => absurd e (nI_m1 (show a < 2 ^ 31 by omega)), fun e => by cases e⟩
  | some l =>
    show (if a < tL V 154 then nI a else -1) = -1 ↔ decide (a = tL V 154) = true
    by_cases h : a < tL V 154
    · rw [if_pos h, decide_eq_false (by omega)]
      exact ⟨fun e => absurd e (nI_m1 (by omega)), fun e => by cases e⟩
    · rw [if_neg h, decide_eq_true (by omega)]
      exact ⟨fun _ => rfl, fun _ => rfl⟩
theorem fC_EIs (n k : Nat) (h : EIs n k = false) : fC n k = false := by
  revert h
  unfold EIs fC
  cases (n == 2) <;> cases (k == 2) <;> cases (k == 3) <;> simp
theorem q_tape {S : xm_S} {V W : VV} {N : Nat} {g : Option Nat → xm_S → Prop} {Ex : String → xm_S → Prop} (R : RR S V W N) (I : Iv V) (h1 : okT V = true → ∀ l, tOf (tT V 154) (tL V 154) l → ∀ S' N', RR S' V W N' → N ≤ N' → RO S' N l N' → xG fC N S S' → g (some N) S') (h0 : okT V = false → ∀ S' N', RR S' V W N' → Ex xm_eA S') : wp_X11_tapeAsRange 1 S g Ex := by
  have c1 := R.1.2.2.1
  have t := R.1.2.2.2.2.2.1
  unfold wp_X11_tapeAsRange
  refine ⟨c1.1, 2, c1.2.1, t.1, c_readRange t R.1.2.1 R.1.1 fun S' N' G e f => ?_⟩
  have R' : RR S' V W N' := RR_c R I G fC_EIs e f
  refine ⟨fun l hl ro => ⟨fun _ => ?_, fun e => by cases e⟩, fun hn _ => ⟨fun e => absurd rfl e, fun _ => ?_⟩⟩
  · have ok : okT V = true := by unfold okT; rw [hl]; exact decide_eq_true rfl
    exact h1 ok l hl S' N' R' e ro G
  · refine h0 ?_ S' N' R'
    cases hb : okT V
    · rfl
    · obtain ⟨l, hl⟩ := okT_t hb
      exact absurd hl (hn l)
theorem m_typed {S : xm_S} {V W : VV} {N : Nat} {g : Int32 → xm_S → Prop} (R : RR S V W N) (I : Iv V) (IW : Iv W) (h : ∀ S', RR S' V W N → KC S S' → g (bI (okT W)) S') : wp_X12_isTyped 1000 S g := by
  have hT := IW.2.2.1.2.2.2.2.2.2 154 (by decide)
  unfold wp_X12_isTyped wp_X12_isTyped_16
  refine ⟨R.2.1.1.1, pm_faultOf (MX_of R.2.1 (by decide) hT) fun S' F => ?_⟩
  have h := h S' (RR_m R I (KC_B F) (MR_B R.2.1 F)) (KC_B F)
  have o := okT_sfo hT.2.1
  refine ⟨fun e => ⟨.inl rfl, ?_⟩, fun e => ⟨.inr rfl, ?_⟩⟩
  · rw [show okT W = false by cases hb : okT W; rfl; exact absurd (o.mpr hb) e] at h; exact h
  · rw [o.mp e] at h; exact h
