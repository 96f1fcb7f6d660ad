theorem xr_outer (c : ClassId) (N h0 : Nat) : ∀ i : Nat, Jvm.Free.Multi.outerC c N h0 i = arrV c N (fun j => va_rf (if j < i then some (h0 + 1 + j) else none))
  | 0 => by
    show ({ cls := c, slots := Array.replicate N .null, vm := .none } : Cell) = _
    rw [arrV_new]
    refine congrArg (arrV c N) (funext fun j => ?_)
    simp [va_rf]
  | i + 1 => by
    show (Jvm.Free.Multi.outerC c N h0 i).setSlot i (.ref (h0 + 1 + i)) = _
    rw [xr_outer c N h0 i, arrV_store]
    refine congrArg (arrV c N) (funext fun j => ?_)
    by_cases e : j = i
    · subst e
      simp [updV, va_rf]
    · by_cases h : j < i
      · simp [updV, e, h, Nat.lt_succ_of_lt h]
      · simp [updV, e, h, show ¬ j < i + 1 by omega]
/-- three rows of six ints -/
def st_mn (S : xm_S) (n0 n1 n2 n3 : Nat) : xm_S := st_pr (st_pr (st_pr (st_nw (st_nw (st_nw (st_nw S n0 (104, 3)) n1 (100, 6)) n2 (100, 6)) n3 (100, 6)) n0 0 (some n1)) n0 1 (some n2)) n0 2 (some n3)
theorem xm_R.same {D : va_G} {E : Nat → ClassId} {base : Nat} {al : Nat → Nat} {S : xm_S} {H H' : Heap} (h : xm_R D E base al S H) (hq : ∀ q : Nat, q < H.size → H'[q]? = H[q]?) : xm_R D E base al S H' := by
  have hlt : ∀ n, S.1 n ≠ none → al n < H.size := fun n hn => h.lt hn
  obtain ⟨g1, g2, g3⟩ := h
  exact ⟨fun n sh hn => ⟨(g1 n sh hn).1.cong rfl (hq _ (hlt n (by rw [hn]; exact fun z => by cases z))) (fun _ => rfl) (fun _ => rfl) (fun _ => rfl), (g1 n sh hn).2⟩, g2, g3⟩
theorem xm_push {H : Heap} {c : Cell} : (H.push c).size = H.size + 1 ∧ (H.push c)[H.size]? = some c ∧ ∀ q : Nat, q < H.size → (H.push c)[q]? = H[q]? := ⟨Array.size_push .., Array.getElem?_push_size, fun q hq => by rw [Array.getElem?_push, if_neg (Nat.ne_of_lt hq)]⟩
theorem xm_set {H : Heap} {a : Nat} {c : Cell} (h : a < H.size) : (H.setIfInBounds a c).size = H.size ∧ (H.setIfInBounds a c)[a]? = some c ∧ ∀ q : Nat, q ≠ a → (H.setIfInBounds a c)[q]? = H[q]? := ⟨by simp, by simp [h], fun q hq => by simp [Array.getElem?_setIfInBounds, Ne.symm hq]⟩
/-- a new array in the store and in the heap -/
theorem xm_R.arr {D : va_G} {E : Nat → ClassId} {base : Nat} {al : Nat → Nat} {S : xm_S} {H : Heap} {n kd len : Nat} {f : Nat → Value} (hR : xm_R D E base al S H) (hn : S.1 n = none) (hb : base ≤ H.size) (hks : kd ∈ xm_ks) (hkd : 100 ≤ kd) (hf : ∀ al' j, xm_ev al' (st_nw S n (kd, len)) n kd j = f j) : xm_R D E base (fun m => if m = n then H.size else al m) (st_nw S n (kd, len)) (H.push (arrV (E kd) len f)) := by
  obtain ⟨p1, p2, p3⟩ := xm_push (H := H) (c := arrV (E kd) len f)
  refine hR.new hn hb p3 ⟨fun h => absurd h (by show ¬ kd < 100; omega), fun _ => ⟨hks, ?_⟩⟩
  rw [show (fun m => if m = n then H.size else al m) n = H.size from if_pos rfl, p2]
  congr 2
  funext j
  exact (hf _ j).symm
/-- a row is put into an array of arrays -/
theorem xm_R.row {D : va_G} {E : Nat → ClassId} {base : Nat} {al : Nat → Nat} {S : xm_S} {H : Heap} {n len i v : Nat} (hR : xm_R D E base al S H) (ht : st_t S n = some (104, len)) (hv : S.1 v ≠ none) : xm_R D E base al (st_pr S n i (some v)) (H.setIfInBounds (al n) ((arrV (E 104) len (xm_ev al S n 104)).setSlot i (.ref (al v)))) := by
  have hnn : S.1 n ≠ none := by rw [show S.1 n = some (104, len) from ht]; exact fun z => by cases z
  obtain ⟨p1, p2, p3⟩ := xm_set (c := (arrV (E 104) len (xm_ev al S n 104)).setSlot i (.ref (al v))) (hR.lt hnn)
  refine hR.put hnn rfl (fun sh hsh => ?_) p3 (fun m9 hm j => ⟨rfl, if_neg (fun z => hm z.1), rfl⟩) (fun j m9 hj => ?_)
  · cases (show S.1 n = some (104, len) from ht).symm.trans hsh
    refine ⟨fun h => absurd h (by show ¬ 104 < 100; decide), fun _ => ⟨(xm_arr hR ht (by decide)).1, ?_⟩⟩
    rw [p2, arrV_store]
    congr 2
    funext j
    rw [xm_ev_r (kd := 104) (by decide)]
    by_cases hj : j = i
    · subst hj
      rw [st_r_pr_s]
      simp [updV, xm_v]
    · rw [st_r_pr_n _ _ _ _ _ _ (fun z => hj z.2)]
      rw [show updV (xm_ev al S n 104) i (.ref (al v)) j = xm_ev al S n 104 j by simp [updV, hj], xm_ev_r (by decide)]
  · by_cases ej : j = i
    · subst ej
      have hx9 : st_r (st_pr S n j (some v)) n j = some m9 := hj
      rw [st_r_pr_s] at hx9
      cases hx9
      exact hv
    · have hx9 : st_r (st_pr S n i (some v)) n j = some m9 := hj
      rw [st_r_pr_n _ _ _ _ _ _ (fun z => ej z.2)] at hx9
      exact hR.2.2 n j m9 hnn hx9
theorem xm_n3 (j : Nat) (h0 : ¬ j = 0) (h1 : ¬ j = 1) (h2 : ¬ j = 2) : ¬ j < 3 := by omega
theorem xm_four {F G H H0 H1 H2 H3 : Heap} {c : Cell} (r0 : F[H.size + 1 + 0]? = some c) (r1 : F[H.size + 1 + 1]? = some c) (r2 : F[H.size + 1 + 2]? = some c) (hold : ∀ x : Nat, x < H.size → F[x]? = H[x]?) (k0 : F[H.size]? = G[H.size]?) (g1 : ∀ x : Nat, x ≠ H.size → G[x]? = H3[x]?) (z0 : H0.size = H.size + 1) (z1 : H1.size = H.size + 2) (z2 : H2.size = H.size + 3)
    (g2 : ∀ x : Nat, x < H2.size → H3[x]? = H2[x]?) (g3 : ∀ x : Nat, x < H1.size → H2[x]? = H1[x]?) (g4 : ∀ x : Nat, x < H0.size → H1[x]? = H0[x]?) (g5 : ∀ x : Nat, x < H.size → H0[x]? = H[x]?) (p1 : H1[H.size + 1]? = some c) (p2 : H2[H.size + 2]? = some c) (p3 : H3[H.size + 3]? = some c) : ∀ x : Nat, x < H.size + 4 → F[x]? = G[x]? := by
  intro x hx
  rcases Nat.lt_or_ge x H.size with h | h
  · rw [hold x h, g1 x (by omega), g2 x (by omega), g3 x (by omega), g4 x (by omega), g5 x h]
  · obtain ⟨j, rfl⟩ : ∃ j, x = H.size + j := ⟨x - H.size, by omega⟩
    match j, hx with
    | 0, _ => exact k0
    | 1, _ => rw [g1 _ (by omega), g2 _ (by omega), g3 _ (by omega), p1]; exact r0
    | 2, _ => rw [g1 _ (by omega), g2 _ (by omega), p2]; exact r1
    | 3, _ => rw [g1 _ (by omega), p3]; exact r2
    | j + 4, hx => exact absurd hx (by omega)
set_option maxHeartbeats 4000000 in
theorem x_mna {K : xm_K} {cells slots pc : Nat} {L : List (Nat × xm_V)} {st : List xm_V} {S : xm_S} {cc : ByteArray} {own : String} {nl : Nat} {rt : Option FieldType} {rm : Room} {index n0 n1 n2 n3 : Nat} (C : xm_Cx K cc own nl rt rm) (hw : Cond.classLink own index "[[I" ∈ xm_G) (hai : Cond.arrayClass .int ∈ xm_G)
    (h0 : st_t S n0 = none) (h1 : st_t S n1 = none) (h2 : st_t S n2 = none) (h3 : st_t S n3 = none) (hne0 : n1 ≠ n0 ∧ n2 ≠ n0 ∧ n2 ≠ n1 ∧ n3 ≠ n0 ∧ n3 ≠ n1 ∧ n3 ≠ n2) (hc : cells + 4 ≤ rm.cells) (hs : slots + 21 ≤ rm.slots) (d : decode cc pc = .ok (.multianewarray index 2, 4))
    (kk : xm_W K (cells + 4) (slots + 21) (pc + 4) L (xm_r (some n0) :: st) (st_mn S n0 n1 n2 n3)) : xm_W K cells slots pc L (xm_i (nI 6) :: xm_i (nI 3) :: st) S := by
  obtain ⟨D, E, base, al0, S0, p, l, e, R, s, m, args, below, meth, c, nL, q, x0⟩ := K
  obtain ⟨hx, hb, hown, hts, hA, hml, hnl, hrt, hrm, hlk⟩ := C
  have hne : Unit → n1 ≠ n0 ∧ n2 ≠ n0 ∧ n2 ≠ n1 ∧ n3 ≠ n0 ∧ n3 ≠ n1 ∧ n3 ≠ n2 := fun _ => hne0
  clear hne0
  intro al H ls locs hR hE hls hL hst hS
  subst hrm
  have hbs : base ≤ H.size := Nat.le_trans hA.2.2.1 hS.1
  have c3 : (nI 3).toNatClampNeg = 3 := nI_clamp (by omega)
  have c6 : (nI 6).toNatClampNeg = 6 := nI_clamp (by omega)
  have hover : (Cond.arrayOver (.array .int)).before args s = true := hA.2.2.2.1.2
  intro T hT X
  obtain ⟨vm₁, cA, comp, -, fA, fC, hO, -, X', step⟩ := X.multianewarray2F (ty := .int) hx hown (hts _ hw) hover (hts _ hai) (g := F0 m pc ls ((xm_i (nI 6) :: xm_i (nI 3) :: st).map (xm_v al))) rfl (by rw [hb]; exact d) rfl (nI_pos (by omega)) (nI_pos (by omega)) (by rw [c3]; omega) (by rw [c6]; decide) (by rw [c6]; omega) rfl rfl (by rw [c3]; omega) (by rw [c3, c6]; omega)
  rw [c3, c6] at X' step
  have e104 : E 104 = cA := by
    have h9 := (hA.2.1 104 (by decide)).2
    exact Option.some.inj ((show s.vm.findClass _ = some (E 104) from h9).symm.trans fA)
  have e100 : E 100 = comp := by
    have h9 := (hA.2.1 100 (by decide)).2
    exact Option.some.inj ((show s.vm.findClass _ = some (E 100) from h9).symm.trans fC)
  subst e104
  subst e100
  generalize hF : Jvm.Free.Multi.fill (T.setVm vm₁) (E 104) (E 100) 3 6 (defaultValue .int) 3 = F at X' step
  have hTh : (T.setVm vm₁).heap = H := hT
  obtain ⟨f1, f2, -, -⟩ := Jvm.Free.Multi.fill_facts (T.setVm vm₁) (E 104) (E 100) 3 6 (defaultValue .int) 3
  rw [hF, hTh] at f1 f2
  have hold : ∀ x : Nat, x < H.size → F.heap[x]? = H[x]? := fun x hx => by
    have := Jvm.Free.Multi.fill_old (T.setVm vm₁) (E 104) (E 100) 3 6 (defaultValue .int) (a := x) (by rw [hTh]; exact hx) 3
    rw [hF, hTh] at this
    exact this
  have hin : ∀ _ : Nat, Jvm.Free.Multi.innerC (E 100) 6 (defaultValue .int) = arrV (E 100) 6 (fun _ => .int 0) := fun _ => by
    show ({ cls := E 100, slots := Array.replicate 6 (.int 0), vm := .none } : Cell) = _
    rw [arrV_new]
  have hrow : ∀ j : Nat, j < 3 → F.heap[H.size + 1 + j]? = some (arrV (E 100) 6 (fun _ => .int 0)) := fun j hj => by
    have := Jvm.Free.Multi.fill_inner (T.setVm vm₁) (E 104) (E 100) 3 6 (defaultValue .int) 3 j hj
    rw [hF, hTh, hin 0] at this
    exact this
  rw [xr_outer] at f2
  have r0 := hR.arr (kd := 104) (len := 3) (f := fun _ => .null) h0 hbs (by decide) (by decide) (fun al' j => by rw [xm_ev_r (by decide), st_r_nw, if_pos rfl]; rfl)
  generalize hH0 : H.push (arrV (E 104) 3 (fun _ => .null)) = H0 at r0
  have z0 : H0.size = H.size + 1 := by rw [← hH0]; exact xm_push.1
  have r1 := r0.arr (n := n1) (kd := 100) (len := 6) (f := fun _ => .int 0) (by show st_t _ n1 = none; rw [st_t_nw, if_neg (hne ()).1]; exact h1) (by omega) (by decide) (by decide) (fun al' j => by rw [xm_ev_100, st_i_nw, if_pos rfl])
  generalize hH1 : H0.push (arrV (E 100) 6 (fun _ => .int 0)) = H1 at r1
  have z1 : H1.size = H.size + 2 := by rw [← hH1, xm_push.1]; omega
  have r2 := r1.arr (n := n2) (kd := 100) (len := 6) (f := fun _ => .int 0) (by show st_t _ n2 = none; rw [st_t_nw, if_neg (hne ()).2.2.1, st_t_nw, if_neg (hne ()).2.1]; exact h2) (by omega) (by decide) (by decide) (fun al' j => by rw [xm_ev_100, st_i_nw, if_pos rfl])
  generalize hH2 : H1.push (arrV (E 100) 6 (fun _ => .int 0)) = H2 at r2
  have z2 : H2.size = H.size + 3 := by rw [← hH2, xm_push.1]; omega
  have r3 := r2.arr (n := n3) (kd := 100) (len := 6) (f := fun _ => .int 0) (by show st_t _ n3 = none; rw [st_t_nw, if_neg (hne ()).2.2.2.2.2, st_t_nw, if_neg (hne ()).2.2.2.2.1, st_t_nw, if_neg (hne ()).2.2.2.1]; exact h3) (by omega) (by decide) (by decide) (fun al' j => by rw [xm_ev_100, st_i_nw, if_pos rfl])
  generalize hH3 : H2.push (arrV (E 100) 6 (fun _ => .int 0)) = H3 at r3
  have z3 : H3.size = H.size + 4 := by rw [← hH3, xm_push.1]; omega
  generalize hal : (fun m => if m = n3 then H2.size else (fun m => if m = n2 then H1.size else (fun m => if m = n1 then H0.size else (fun m => if m = n0 then H.size else al m) m) m) m) = al3 at r3
  generalize hS3 : st_nw (st_nw (st_nw (st_nw S n0 (104, 3)) n1 (100, 6)) n2 (100, 6)) n3 (100, 6) = S3 at r3
  have a0 : al3 n0 = H.size := by
    rw [← hal]
    simp only [if_neg (Ne.symm (hne ()).2.2.2.1), if_neg (Ne.symm (hne ()).2.1), if_neg (Ne.symm (hne ()).1), if_pos]
  have a1 : al3 n1 = H.size + 1 := by
    rw [← hal]
    simp only [if_neg (Ne.symm (hne ()).2.2.2.2.1), if_neg (Ne.symm (hne ()).2.2.1), if_pos]
    exact z0
  have a2 : al3 n2 = H.size + 2 := by
    rw [← hal]
    simp only [if_neg (Ne.symm (hne ()).2.2.2.2.2), if_pos]
    exact z1
  have a3 : al3 n3 = H.size + 3 := by
    rw [← hal]
    simp only [if_pos]
    exact z2
  have t0 : st_t S3 n0 = some (104, 3) := by
    rw [← hS3, st_t_nw, if_neg (Ne.symm (hne ()).2.2.2.1), st_t_nw, if_neg (Ne.symm (hne ()).2.1), st_t_nw, if_neg (Ne.symm (hne ()).1), st_t_nw, if_pos rfl]
  have t1 : st_t S3 n1 ≠ none := by
    rw [← hS3, st_t_nw, if_neg (Ne.symm (hne ()).2.2.2.2.1), st_t_nw, if_neg (Ne.symm (hne ()).2.2.1), st_t_nw, if_pos rfl]
    exact fun z => by cases z
  have t2 : st_t S3 n2 ≠ none := by
    rw [← hS3, st_t_nw, if_neg (Ne.symm (hne ()).2.2.2.2.2), st_t_nw, if_pos rfl]
    exact fun z => by cases z
  have t3 : st_t S3 n3 ≠ none := by
    rw [← hS3, st_t_nw, if_pos rfl]
    exact fun z => by cases z
  have q1 := r3.row (i := 0) (v := n1) t0 t1
  generalize hG1 : H3.setIfInBounds (al3 n0) ((arrV (E 104) 3 (xm_ev al3 S3 n0 104)).setSlot 0 (.ref (al3 n1))) = G1 at q1
  have q2 := q1.row (i := 1) (v := n2) (n := n0) (len := 3) t0 t2
  generalize hG2 : G1.setIfInBounds (al3 n0) ((arrV (E 104) 3 (xm_ev al3 (st_pr S3 n0 0 (some n1)) n0 104)).setSlot 1 (.ref (al3 n2))) = G2 at q2
  have q3 := q2.row (i := 2) (v := n3) (n := n0) (len := 3) t0 t3
  generalize hG3 : G2.setIfInBounds (al3 n0) ((arrV (E 104) 3 (xm_ev al3 (st_pr (st_pr S3 n0 0 (some n1)) n0 1 (some n2)) n0 104)).setSlot 2 (.ref (al3 n3))) = G3 at q3
  have y1 : G1.size = H.size + 4 := by rw [← hG1]; simp [z3]
  have y2 : G2.size = H.size + 4 := by rw [← hG2]; simp [y1]
  have y3 : G3.size = H.size + 4 := by rw [← hG3]; simp [y2]
  have hcell0 : G3[H.size]? = some (arrV (E 104) 3 (xm_ev al3 (st_mn S n0 n1 n2 n3) n0 104)) := by
    have := (xm_arr q3 (n := n0) (kd := 104) (len := 3) t0 (by decide)).2
    rw [a0] at this
    rw [← hS3] at this
    exact this
  have hb3 : ∀ j, st_r S3 n0 j = none := fun j => by
    rw [← hS3, st_r_nw, if_neg (Ne.symm (hne ()).2.2.2.1), st_r_nw, if_neg (Ne.symm (hne ()).2.1), st_r_nw, if_neg (Ne.symm (hne ()).1), st_r_nw, if_pos rfl]
  have k0 : F.heap[H.size]? = G3[H.size]? := by
    rw [hcell0, f2]
    congr 2
    funext j
    rw [xm_ev_r (by decide)]
    unfold st_mn
    rw [hS3]
    by_cases j2 : j = 2
    · subst j2
      rw [st_r_pr_s]
      show va_rf (some (H.size + 1 + 2)) = Value.ref (al3 n3)
      rw [a3]
      rfl
    · rw [st_r_pr_n _ _ _ _ _ _ (fun z => j2 z.2)]
      by_cases j1 : j = 1
      · subst j1
        rw [st_r_pr_s]
        show va_rf (some (H.size + 1 + 1)) = Value.ref (al3 n2)
        rw [a2]
        rfl
      · rw [st_r_pr_n _ _ _ _ _ _ (fun z => j1 z.2)]
        by_cases j0 : j = 0
        · subst j0
          rw [st_r_pr_s]
          show va_rf (some (H.size + 1 + 0)) = Value.ref (al3 n1)
          rw [a1]
          rfl
        · rw [st_r_pr_n _ _ _ _ _ _ (fun z => j0 z.2), hb3, if_neg (xm_n3 j j0 j1 j2)]
          rfl
  have g1 : ∀ x : Nat, x ≠ H.size → G3[x]? = H3[x]? := fun x e0 => by
    rw [← hG3, (xm_set (by rw [a0, y2]; exact Nat.lt_add_of_pos_right (by decide))).2.2 x (by rw [a0]; exact e0), ← hG2, (xm_set (by rw [a0, y1]; exact Nat.lt_add_of_pos_right (by decide))).2.2 x (by rw [a0]; exact e0), ← hG1, (xm_set (by rw [a0, z3]; exact Nat.lt_add_of_pos_right (by decide))).2.2 x (by rw [a0]; exact e0)]
  have g2 : ∀ x : Nat, x < H2.size → H3[x]? = H2[x]? := fun x hx => by rw [← hH3]; exact xm_push.2.2 x hx
  have g3 : ∀ x : Nat, x < H1.size → H2[x]? = H1[x]? := fun x hx => by rw [← hH2]; exact xm_push.2.2 x hx
  have g4 : ∀ x : Nat, x < H0.size → H1[x]? = H0[x]? := fun x hx => by rw [← hH1]; exact xm_push.2.2 x hx
  have g5 : ∀ x : Nat, x < H.size → H0[x]? = H[x]? := fun x hx => by rw [← hH0]; exact xm_push.2.2 x hx
  have p1 : H1[H.size + 1]? = some (arrV (E 100) 6 (fun _ => .int 0)) := by rw [← hH1, ← z0]; exact xm_push.2.1
  have p2 : H2[H.size + 2]? = some (arrV (E 100) 6 (fun _ => .int 0)) := by rw [← hH2, ← z1]; exact xm_push.2.1
  have p3 : H3[H.size + 3]? = some (arrV (E 100) 6 (fun _ => .int 0)) := by rw [← hH3, ← z2]; exact xm_push.2.1
  have hsame : ∀ x : Nat, x < G3.size → F.heap[x]? = G3[x]? := by
    rw [y3]
    exact xm_four (hrow 0 (by decide)) (hrow 1 (by decide)) (hrow 2 (by decide)) hold k0 g1 z0 z1 z2 g2 g3 g4 g5 p1 p2 p3
  have hfin := q3.same (H' := F.heap) hsame
  have hfin : xm_R D E base al3 (st_mn S n0 n1 n2 n3) F.heap := by unfold st_mn; rw [hS3]; exact hfin
  have hE3 : xm_E al0 S0 al3 (st_mn S n0 n1 n2 n3) := by
    have w0 := hE.new (z := H.size) (sh := (104, 3)) h0
    have w1 := w0.new (z := H0.size) (sh := (100, 6)) (n := n1) (by show st_t _ n1 = none; rw [st_t_nw, if_neg (hne ()).1]; exact h1)
    have w2 := w1.new (z := H1.size) (sh := (100, 6)) (n := n2) (by show st_t _ n2 = none; rw [st_t_nw, if_neg (hne ()).2.2.1, st_t_nw, if_neg (hne ()).2.1]; exact h2)
    have w3 := w2.new (z := H2.size) (sh := (100, 6)) (n := n3) (by show st_t _ n3 = none; rw [st_t_nw, if_neg (hne ()).2.2.2.2.2, st_t_nw, if_neg (hne ()).2.2.2.2.1, st_t_nw, if_neg (hne ()).2.2.2.1]; exact h3)
    rw [hal] at w3
    exact w3
  have hmono : ∀ z, S.1 z ≠ none → al3 z = al z := fun z hz => by
    rw [← hal]
    have d0 : z ≠ n0 := fun e => hz (by rw [e]; exact h0)
    have d1 : z ≠ n1 := fun e => hz (by rw [e]; exact h1)
    have d2 : z ≠ n2 := fun e => hz (by rw [e]; exact h2)
    have d3 : z ≠ n3 := fun e => hz (by rw [e]; exact h3)
    simp only [if_neg d0, if_neg d1, if_neg d2, if_neg d3]
  have hm2 : ∀ z, S.1 z ≠ none → (st_mn S n0 n1 n2 n3).1 z ≠ none := fun z hz => by
    have d0 : z ≠ n0 := fun e => hz (by rw [e]; exact h0)
    have d1 : z ≠ n1 := fun e => hz (by rw [e]; exact h1)
    have d2 : z ≠ n2 := fun e => hz (by rw [e]; exact h2)
    have d3 : z ≠ n3 := fun e => hz (by rw [e]; exact h3)
    show st_t (st_nw (st_nw (st_nw (st_nw S n0 (104, 3)) n1 (100, 6)) n2 (100, 6)) n3 (100, 6)) z ≠ none
    rw [st_t_nw, if_neg d3, st_t_nw, if_neg d2, st_t_nw, if_neg d1, st_t_nw, if_neg d0]
    exact hz
  have hkk := kk al3 F.heap ls locs hfin hE3 (by rw [xm_lv_cong hmono hL]; exact hls) (fun z hz => (hL z hz).mono hm2) (xm_oks_c (xm_ok_s (by show st_t (st_mn S n0 n1 n2 n3) n0 ≠ none; unfold st_mn; rw [hS3]; exact fun z => by rw [show st_t (st_pr (st_pr (st_pr S3 n0 0 (some n1)) n0 1 (some n2)) n0 2 (some n3)) n0 = st_t S3 n0 from rfl, t0] at z; cases z)) (fun z hz => (xm_oks_t (xm_oks_t hst) z hz).mono hm2)) ⟨Nat.le_trans hS.1 (by rw [f1]; omega), fun z g1 g2 => (hold z (Nat.lt_of_lt_of_le g1 hS.1)).trans (hS.2.1 z g1 g2), hS.2.2⟩
  rw [List.map_cons, xm_st_cong hmono (xm_oks_t (xm_oks_t hst))] at hkk
  rw [show xm_v al3 (xm_r (some n0)) = Value.ref H.size from congrArg Value.ref a0] at hkk
  obtain ⟨t, b1, b2⟩ := hkk F rfl X'
  refine ⟨t, step t ?_, b2⟩
  rw [hT]
  exact b1
