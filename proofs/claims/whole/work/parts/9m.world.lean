-- the world, and the claim
theorem wv_K {s : State} {A : Array Value} (h : ∀ w ∈ xm_G, w.before A s = true) : ∃ D : va_G, va_K D vwCl [] s := by
  have kn : ∀ {ci : Nat} {C : String} {T : u_T} {N : Nat} {ty : Nat → FieldType}, xm_Cl ci C T N ty → ∃ (c : ClassId) (i : Nat → Nat), u_Kn s C T N c i := fun x => u_known h x.2.2.1 (h _ x.2.2.2.2.2.1)
  have f : ∀ k : Nat, ∃ (c : ClassId) (i : Nat → Nat), ∀ q : vw_C, vwCl[k]? = some q → u_Kn s q.1 q.2.1 q.2.2 c i := by
    intro k
    match k with
    | 0 =>
      obtain ⟨c, i, u⟩ := kn xc_0
      exact ⟨c, i, fun q hq => by cases hq; exact u⟩
    | 1 =>
      obtain ⟨c, i, u⟩ := kn xc_1
      exact ⟨c, i, fun q hq => by cases hq; exact u⟩
    | 2 =>
      obtain ⟨c, i, u⟩ := kn xc_2
      exact ⟨c, i, fun q hq => by cases hq; exact u⟩
    | 3 =>
      obtain ⟨c, i, u⟩ := kn xc_3
      exact ⟨c, i, fun q hq => by cases hq; exact u⟩
    | 4 =>
      obtain ⟨c, i, u⟩ := kn xc_4
      exact ⟨c, i, fun q hq => by cases hq; exact u⟩
    | 5 =>
      obtain ⟨c, i, u⟩ := kn xc_5
      exact ⟨c, i, fun q hq => by cases hq; exact u⟩
    | 6 =>
      obtain ⟨c, i, u⟩ := kn xc_6
      exact ⟨c, i, fun q hq => by cases hq; exact u⟩
    | 7 =>
      obtain ⟨c, i, u⟩ := kn xc_7
      exact ⟨c, i, fun q hq => by cases hq; exact u⟩
    | 8 =>
      obtain ⟨c, i, u⟩ := kn xc_8
      exact ⟨c, i, fun q hq => by cases hq; exact u⟩
    | 9 =>
      obtain ⟨c, i, u⟩ := kn xc_9
      exact ⟨c, i, fun q hq => by cases hq; exact u⟩
    | 10 =>
      obtain ⟨c, i, u⟩ := kn xc_10
      exact ⟨c, i, fun q hq => by cases hq; exact u⟩
    | 11 =>
      obtain ⟨c, i, u⟩ := kn xc_11
      exact ⟨c, i, fun q hq => by cases hq; exact u⟩
    | 12 =>
      obtain ⟨c, i, u⟩ := kn xc_12
      exact ⟨c, i, fun q hq => by cases hq; exact u⟩
    | k + 13 =>
      obtain ⟨c, i, u⟩ := kn xc_0
      exact ⟨c, i, fun q hq => by simp at hq⟩
  exact ⟨(fun k => Classical.choose (f k), fun k => Classical.choose (Classical.choose_spec (f k))), fun k q hq => Classical.choose_spec (Classical.choose_spec (f k)) q hq, fun k q hq => by simp at hq⟩
theorem wv_p {s : State} {A : Array Value} {ty : FieldType} (h : (Cond.arrayClass ty).before A s = true) : ∃ cA, ArrOfT s cA ty ∧ s.vm.findClass ("[" ++ ty.toString) = some cA := by
  obtain ⟨cA, kA, comp, h1, h2, h3⟩ := Cond.arrayClass_spec h
  exact ⟨cA, fun n z => ⟨(fun k h => by cases h), kA, h2, comp, h3⟩, h1⟩
theorem wv_o {s : State} {A : Array Value} {C : String} (h : (Cond.arrayOver (.object C)).before A s = true) : ∃ cA, ArrOfT s cA (.object C) ∧ va_RA s cA (.object C) := by
  obtain ⟨comp, cA, kA, h1, -, h2, h3, h4⟩ := Cond.arrayOver_spec h
  exact ⟨cA, fun n z => ⟨(fun k h => by cases h), kA, h2, comp, h3⟩, kA, comp, h2, h3, h1, h4⟩
theorem wv_a {s : State} {A : Array Value} {t : FieldType} (h : (Cond.arrayOver (.array t)).before A s = true) : ∃ cA, ArrOfT s cA (.array t) ∧ va_RA s cA (.array t) := by
  obtain ⟨comp, cA, kA, h1, -, h2, h3, h4⟩ := arrayOverA_spec h
  exact ⟨cA, fun n z => ⟨(fun k h => by cases h), kA, h2, comp, h3⟩, h4⟩
theorem wv_E {s : State} {A : Array Value} (h : ∀ w ∈ xm_G, w.before A s = true) (ht : ∀ w ∈ tables_1, w.before A s = true) : ∃ E : Nat → ClassId, ∀ kd ∈ xm_ks, ArrOfT s (E kd) (xm_ty kd) ∧ va_RA s (E kd) (xm_ty kd) := by
  have a0 := wv_p (h _ gw_11)
  have f : ∀ kd, ∃ cA, kd ∈ xm_ks → ArrOfT s cA (xm_ty kd) ∧ va_RA s cA (xm_ty kd) := by
    intro kd
    by_cases hk : kd ∈ xm_ks
    · have hk2 := hk
      simp only [xm_ks, List.mem_cons, List.not_mem_nil, or_false] at hk2
      rcases hk2 with e | e | e | e | e | e | e | e | e | e | e
      · obtain ⟨c, q⟩ := a0
        exact ⟨c, fun _ => by rw [e]; exact q⟩
      · obtain ⟨c, q⟩ := wv_p (h _ gw_104)
        exact ⟨c, fun _ => by rw [e]; exact q⟩
      · obtain ⟨c, q⟩ := wv_p (h _ gw_306)
        exact ⟨c, fun _ => by rw [e]; exact q⟩
      · obtain ⟨c, q⟩ := wv_p (h _ gw_740)
        exact ⟨c, fun _ => by rw [e]; exact q⟩
      · obtain ⟨c, q⟩ := wv_a (ht _ wo_A)
        exact ⟨c, fun _ => by rw [e]; exact q⟩
      · obtain ⟨c, q⟩ := wv_o (ht _ wo_0)
        exact ⟨c, fun _ => by rw [e]; exact q⟩
      · obtain ⟨c, q⟩ := wv_o (ht _ wo_1)
        exact ⟨c, fun _ => by rw [e]; exact q⟩
      · obtain ⟨c, q⟩ := wv_o (ht _ wo_4)
        exact ⟨c, fun _ => by rw [e]; exact q⟩
      · obtain ⟨c, q⟩ := wv_o (ht _ wo_5)
        exact ⟨c, fun _ => by rw [e]; exact q⟩
      · obtain ⟨c, q⟩ := wv_o (ht _ wo_9)
        exact ⟨c, fun _ => by rw [e]; exact q⟩
      · obtain ⟨c, q⟩ := wv_o (ht _ wo_10)
        exact ⟨c, fun _ => by rw [e]; exact q⟩
    · obtain ⟨c, _⟩ := a0
      exact ⟨c, fun q => absurd q hk⟩
  exact ⟨fun k => Classical.choose (f k), fun k hk => Classical.choose_spec (f k) hk⟩
theorem wv_B {s : State} {A : Array Value} (ht : ∀ w ∈ tables_1, w.before A s = true) (hn : ∀ w ∈ flatC (Jvm.Cond.and given_1 narrow_1), w.before A s = true) : xm_B s.heap.size s := by
  have hq : ∀ a : Nat, a < s.heap.size → ¬ (fun a => s.heap.size ≤ a) a := fun a ha hb => Nat.not_le.mpr ha hb
  refine ⟨⟨fun C hC => va_AO.of (ht _ (wo_all C hC)), ?_⟩, fun w hw => va_Nw.of rfl (ht _ (wn_all w hw)), ⟨fun X hX => va_Nw.of rfl (ht _ (wc_all X hX)), fun X hX => va_Nw.of rfl (ht _ (wd_all X hX))⟩, fun X hX Y hY hne => ?_, fun z hz => ?_, vx_Zqof (ht _ wl_U) (ht _ wi_T) (hn _ ws_U) hq, vx_Zqof (ht _ wl_S) (ht _ wi_T) (hn _ ws_S) hq⟩
  · exact ht _ wo_A
  · simp only [xm_es, List.mem_cons, List.not_mem_nil, or_false] at hX hY
    rcases hX with e | e | e <;> rcases hY with e2 | e2 | e2 <;> subst e <;> subst e2
    · exact absurd rfl hne
    · exact va_Nc.of (hn _ wx_AS)
    · exact va_Nc.of (hn _ wx_AI)
    · exact va_Nc.of (hn _ wx_SA)
    · exact absurd rfl hne
    · exact va_Nc.of (hn _ wx_SI)
    · exact va_Nc.of (hn _ wx_IA)
    · exact va_Nc.of (hn _ wx_IS)
    · exact absurd rfl hne
  · obtain ⟨a, c, cell, k, h1, -⟩ := Cond.exactly_spec (hn _ (wt_all z hz).2)
    exact ⟨a, vk_R.of (ht _ (wt_all z hz).1) h1⟩
theorem same_nil {s t : State} {L : List Loc} {k n : Nat} (h : s.sameButNew t L k n) (hL : ∀ q ∈ L, s.heap.size ≤ q.base) : s.sameButNew t [] k n := by
  obtain ⟨h1, h2, h3, h4, h5, h6⟩ := h
  refine ⟨h1, h2, h3, h4, h5, fun a c hc => ?_⟩
  obtain ⟨c', e1, e2, e3, e4⟩ := h6 a c hc
  have ha : a < s.heap.size := (Array.getElem?_eq_some_iff.mp hc).1
  exact ⟨c', e1, e2, e3, fun i _ => e4 i fun hm => Nat.not_le.mpr ha (hL _ hm)⟩
