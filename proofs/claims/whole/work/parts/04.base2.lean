/-! ARRAYS, NEW, RETURNS, CALLS, THROWS of the abstract machine. -/
def xm_q (K : xm_K) : Option xm_V → xm_S → Prop := match K with | (_, _, _, _, _, _, _, _, _, _, _, _, _, _, _, _, q, _) => q
theorem xm_ev_100 {al : Nat → Nat} {S : xm_S} {n j : Nat} : xm_ev al S n 100 j = .int (st_i S n j) := rfl
theorem xm_ev_101 {al : Nat → Nat} {S : xm_S} {n j : Nat} : xm_ev al S n 101 j = .int (st_i S n j) := rfl
theorem xm_ev_102 {al : Nat → Nat} {S : xm_S} {n j : Nat} : xm_ev al S n 102 j = .int (st_i S n j) := rfl
theorem xm_ev_103 {al : Nat → Nat} {S : xm_S} {n j : Nat} : xm_ev al S n 103 j = .long (st_l S n j) := rfl
theorem xm_ev_r {al : Nat → Nat} {S : xm_S} {n kd j : Nat} (h : 104 ≤ kd) : xm_ev al S n kd j = xm_v al (xm_r (st_r S n j)) := by
  unfold xm_ev
  rw [if_neg (by omega), if_neg (by omega)]
def xm_x (K : xm_K) : String → xm_S → Prop := match K with | (_, _, _, _, _, _, _, _, _, _, _, _, _, _, _, _, _, x) => x
theorem x_iald {K : xm_K} {cells slots pc : Nat} {L : List (Nat × xm_V)} {st : List xm_V} {S : xm_S} {cc : ByteArray} {own : String} {nl : Nat} {rt : Option FieldType} {rm : Room} {n len : Nat} {r : Option Nat} {i : Int32} (C : xm_Cx K cc own nl rt rm) (hr : r = some n) (ht : st_t S n = some (100, len)) (hin : vp_in i len) (d : decode cc pc = .ok (.iaload, 1)) (kk : xm_W K cells slots (pc + 1) L (xm_i (st_i S n i.toNatClampNeg) :: st) S) : xm_W K cells slots (pc) L (xm_i i :: xm_r r :: st) S := by
  obtain ⟨D, E, base, al0, S0, p, l, e, R, s, m, args, below, meth, c, nL, q, x0⟩ := K
  obtain ⟨hx, hb, hown, hts, hA, hml, hnl, hrt, hrm, hlk⟩ := C
  intro al H ls locs hR hE hls hL hst hS
  subst hr
  obtain ⟨hks, hcell⟩ := xm_arr hR ht (by decide)
  have hlt : i.toNatClampNeg < len := Nat.not_le.mp fun z => hin (Or.inr z)
  exact W.iald (v := .int (st_i S n i.toNatClampNeg)) hx hb hcell ((hA.2.1 100 hks).1 len _) (fun z => by cases z) (by rw [arrV_size]; exact hin) (by rw [arrV_read _ _ hlt]; rfl) rfl rfl d (kk al H ls locs hR hE hls hL (xm_oks_i (xm_oks_t (xm_oks_t hst))) hS)
theorem x_iast {K : xm_K} {cells slots pc : Nat} {L : List (Nat × xm_V)} {st : List xm_V} {S : xm_S} {cc : ByteArray} {own : String} {nl : Nat} {rt : Option FieldType} {rm : Room} {n len : Nat} {r : Option Nat} {i : Int32} {x : Int32} (C : xm_Cx K cc own nl rt rm) (hr : r = some n) (ht : st_t S n = some (100, len)) (hin : vp_in i len) (d : decode cc pc = .ok (.iastore, 1)) (kk : xm_W K cells slots (pc + 1) L (st) (st_pi S n i.toNatClampNeg x)) : xm_W K cells slots (pc) L (xm_i x :: xm_i i :: xm_r r :: st) S := by
  obtain ⟨D, E, base, al0, S0, p, l, e, R, s, m, args, below, meth, c, nL, q, x0⟩ := K
  obtain ⟨hx, hb, hown, hts, hA, hml, hnl, hrt, hrm, hlk⟩ := C
  intro al H ls locs hR hE hls hL hst hS
  subst hr
  obtain ⟨hks, hcell⟩ := xm_arr hR ht (by decide)
  have hnn : S.1 n ≠ none := by rw [show S.1 n = some (100, len) from ht]; exact fun z => by cases z
  refine W.iast hx hb hcell ((hA.2.1 100 hks).1 len _) (fun z => by cases z) (by rw [arrV_size]; exact hin) rfl rfl d fun H1 e1 e2 e3 => ?_
  rw [arrV_store] at e1
  have hR' : xm_R D E base al (st_pi S n i.toNatClampNeg x) H1 := by
    refine hR.put hnn rfl (fun sh hsh => ?_) e3 (fun m9 hm j => ?_) (fun j m9 hj => hR.2.2 n j m9 hnn hj)
    · cases (show S.1 n = some (100, len) from ht).symm.trans hsh
      refine ⟨fun h => absurd h (by show ¬ 100 < 100; decide), fun _ => ⟨hks, ?_⟩⟩
      rw [e1]
      congr 2
      funext j
      by_cases hj : j = i.toNatClampNeg
      · subst hj
        simp [updV, xm_ev_100, st_i_pi_s]
      · simp [updV, xm_ev_100, hj, st_i_pi_n _ _ _ _ _ _ (fun z => hj z.2)]
    · exact ⟨if_neg (fun z => hm z.1), rfl, rfl⟩
  exact kk al H1 ls _ hR' hE hls hL (xm_oks_t (xm_oks_t (xm_oks_t hst))) (hS.put e2 e3 (hR.1 n _ ht).2)
theorem x_zald {K : xm_K} {cells slots pc : Nat} {L : List (Nat × xm_V)} {st : List xm_V} {S : xm_S} {cc : ByteArray} {own : String} {nl : Nat} {rt : Option FieldType} {rm : Room} {n len : Nat} {r : Option Nat} {i : Int32} (C : xm_Cx K cc own nl rt rm) (hr : r = some n) (ht : st_t S n = some (101, len)) (hin : vp_in i len) (d : decode cc pc = .ok (.baload, 1)) (kk : xm_W K cells slots (pc + 1) L (xm_i (st_i S n i.toNatClampNeg) :: st) S) : xm_W K cells slots (pc) L (xm_i i :: xm_r r :: st) S := by
  obtain ⟨D, E, base, al0, S0, p, l, e, R, s, m, args, below, meth, c, nL, q, x0⟩ := K
  obtain ⟨hx, hb, hown, hts, hA, hml, hnl, hrt, hrm, hlk⟩ := C
  intro al H ls locs hR hE hls hL hst hS
  subst hr
  obtain ⟨hks, hcell⟩ := xm_arr hR ht (by decide)
  have hlt : i.toNatClampNeg < len := Nat.not_le.mp fun z => hin (Or.inr z)
  exact W.zald (v := .int (st_i S n i.toNatClampNeg)) hx hb hcell ((hA.2.1 101 hks).1 len _) (fun z => by cases z) (by rw [arrV_size]; exact hin) (by rw [arrV_read _ _ hlt]; rfl) rfl rfl d (kk al H ls locs hR hE hls hL (xm_oks_i (xm_oks_t (xm_oks_t hst))) hS)
theorem x_zast {K : xm_K} {cells slots pc : Nat} {L : List (Nat × xm_V)} {st : List xm_V} {S : xm_S} {cc : ByteArray} {own : String} {nl : Nat} {rt : Option FieldType} {rm : Room} {n len : Nat} {r : Option Nat} {i : Int32} {x : Int32} (C : xm_Cx K cc own nl rt rm) (hr : r = some n) (ht : st_t S n = some (101, len)) (hin : vp_in i len) (hv : x = 0 ∨ x = 1) (d : decode cc pc = .ok (.bastore, 1)) (kk : xm_W K cells slots (pc + 1) L (st) (st_pi S n i.toNatClampNeg x)) : xm_W K cells slots (pc) L (xm_i x :: xm_i i :: xm_r r :: st) S := by
  obtain ⟨D, E, base, al0, S0, p, l, e, R, s, m, args, below, meth, c, nL, q, x0⟩ := K
  obtain ⟨hx, hb, hown, hts, hA, hml, hnl, hrt, hrm, hlk⟩ := C
  intro al H ls locs hR hE hls hL hst hS
  subst hr
  obtain ⟨hks, hcell⟩ := xm_arr hR ht (by decide)
  have hnn : S.1 n ≠ none := by rw [show S.1 n = some (101, len) from ht]; exact fun z => by cases z
  have hnv : narrow .boolean (.int x) = .int x := by rcases hv with rfl | rfl <;> rfl
  refine W.zast hx hb hcell ((hA.2.1 101 hks).1 len _) (fun z => by cases z) (by rw [arrV_size]; exact hin) rfl rfl d fun H1 e1 e2 e3 => ?_
  rw [hnv] at e1
  rw [arrV_store] at e1
  have hR' : xm_R D E base al (st_pi S n i.toNatClampNeg x) H1 := by
    refine hR.put hnn rfl (fun sh hsh => ?_) e3 (fun m9 hm j => ?_) (fun j m9 hj => hR.2.2 n j m9 hnn hj)
    · cases (show S.1 n = some (101, len) from ht).symm.trans hsh
      refine ⟨fun h => absurd h (by show ¬ 101 < 100; decide), fun _ => ⟨hks, ?_⟩⟩
      rw [e1]
      congr 2
      funext j
      by_cases hj : j = i.toNatClampNeg
      · subst hj
        simp [updV, xm_ev_101, st_i_pi_s]
      · simp [updV, xm_ev_101, hj, st_i_pi_n _ _ _ _ _ _ (fun z => hj z.2)]
    · exact ⟨if_neg (fun z => hm z.1), rfl, rfl⟩
  exact kk al H1 ls _ hR' hE hls hL (xm_oks_t (xm_oks_t (xm_oks_t hst))) (hS.put e2 e3 (hR.1 n _ ht).2)
theorem x_cald {K : xm_K} {cells slots pc : Nat} {L : List (Nat × xm_V)} {st : List xm_V} {S : xm_S} {cc : ByteArray} {own : String} {nl : Nat} {rt : Option FieldType} {rm : Room} {n len : Nat} {r : Option Nat} {i : Int32} (C : xm_Cx K cc own nl rt rm) (hr : r = some n) (ht : st_t S n = some (102, len)) (hin : vp_in i len) (d : decode cc pc = .ok (.caload, 1)) (kk : xm_W K cells slots (pc + 1) L (xm_i (st_i S n i.toNatClampNeg) :: st) S) : xm_W K cells slots (pc) L (xm_i i :: xm_r r :: st) S := by
  obtain ⟨D, E, base, al0, S0, p, l, e, R, s, m, args, below, meth, c, nL, q, x0⟩ := K
  obtain ⟨hx, hb, hown, hts, hA, hml, hnl, hrt, hrm, hlk⟩ := C
  intro al H ls locs hR hE hls hL hst hS
  subst hr
  obtain ⟨hks, hcell⟩ := xm_arr hR ht (by decide)
  have hlt : i.toNatClampNeg < len := Nat.not_le.mp fun z => hin (Or.inr z)
  exact W.cald (v := .int (st_i S n i.toNatClampNeg)) hx hb hcell ((hA.2.1 102 hks).1 len _) (fun z => by cases z) (by rw [arrV_size]; exact hin) (by rw [arrV_read _ _ hlt]; rfl) rfl rfl d (kk al H ls locs hR hE hls hL (xm_oks_i (xm_oks_t (xm_oks_t hst))) hS)
theorem x_cast {K : xm_K} {cells slots pc : Nat} {L : List (Nat × xm_V)} {st : List xm_V} {S : xm_S} {cc : ByteArray} {own : String} {nl : Nat} {rt : Option FieldType} {rm : Room} {n len : Nat} {r : Option Nat} {i : Int32} {x : Int32} (C : xm_Cx K cc own nl rt rm) (hr : r = some n) (ht : st_t S n = some (102, len)) (hin : vp_in i len) (hv : narrow .char (.int x) = .int x) (d : decode cc pc = .ok (.castore, 1)) (kk : xm_W K cells slots (pc + 1) L (st) (st_pi S n i.toNatClampNeg x)) : xm_W K cells slots (pc) L (xm_i x :: xm_i i :: xm_r r :: st) S := by
  obtain ⟨D, E, base, al0, S0, p, l, e, R, s, m, args, below, meth, c, nL, q, x0⟩ := K
  obtain ⟨hx, hb, hown, hts, hA, hml, hnl, hrt, hrm, hlk⟩ := C
  intro al H ls locs hR hE hls hL hst hS
  subst hr
  obtain ⟨hks, hcell⟩ := xm_arr hR ht (by decide)
  have hnn : S.1 n ≠ none := by rw [show S.1 n = some (102, len) from ht]; exact fun z => by cases z
  have hnv := hv
  refine W.cast hx hb hcell ((hA.2.1 102 hks).1 len _) (fun z => by cases z) (by rw [arrV_size]; exact hin) rfl rfl d fun H1 e1 e2 e3 => ?_
  rw [hnv] at e1
  rw [arrV_store] at e1
  have hR' : xm_R D E base al (st_pi S n i.toNatClampNeg x) H1 := by
    refine hR.put hnn rfl (fun sh hsh => ?_) e3 (fun m9 hm j => ?_) (fun j m9 hj => hR.2.2 n j m9 hnn hj)
    · cases (show S.1 n = some (102, len) from ht).symm.trans hsh
      refine ⟨fun h => absurd h (by show ¬ 102 < 100; decide), fun _ => ⟨hks, ?_⟩⟩
      rw [e1]
      congr 2
      funext j
      by_cases hj : j = i.toNatClampNeg
      · subst hj
        simp [updV, xm_ev_102, st_i_pi_s]
      · simp [updV, xm_ev_102, hj, st_i_pi_n _ _ _ _ _ _ (fun z => hj z.2)]
    · exact ⟨if_neg (fun z => hm z.1), rfl, rfl⟩
  exact kk al H1 ls _ hR' hE hls hL (xm_oks_t (xm_oks_t (xm_oks_t hst))) (hS.put e2 e3 (hR.1 n _ ht).2)
theorem x_lald {K : xm_K} {cells slots pc : Nat} {L : List (Nat × xm_V)} {st : List xm_V} {S : xm_S} {cc : ByteArray} {own : String} {nl : Nat} {rt : Option FieldType} {rm : Room} {n len : Nat} {r : Option Nat} {i : Int32} (C : xm_Cx K cc own nl rt rm) (hr : r = some n) (ht : st_t S n = some (103, len)) (hin : vp_in i len) (d : decode cc pc = .ok (.laload, 1)) (kk : xm_W K cells slots (pc + 1) L (xm_l (st_l S n i.toNatClampNeg) :: st) S) : xm_W K cells slots (pc) L (xm_i i :: xm_r r :: st) S := by
  obtain ⟨D, E, base, al0, S0, p, l, e, R, s, m, args, below, meth, c, nL, q, x0⟩ := K
  obtain ⟨hx, hb, hown, hts, hA, hml, hnl, hrt, hrm, hlk⟩ := C
  intro al H ls locs hR hE hls hL hst hS
  subst hr
  obtain ⟨hks, hcell⟩ := xm_arr hR ht (by decide)
  have hlt : i.toNatClampNeg < len := Nat.not_le.mp fun z => hin (Or.inr z)
  exact W.lald (v := .long (st_l S n i.toNatClampNeg)) hx hb hcell ((hA.2.1 103 hks).1 len _) (fun z => by cases z) (by rw [arrV_size]; exact hin) (by rw [arrV_read _ _ hlt]; rfl) rfl rfl d (kk al H ls locs hR hE hls hL (xm_oks_l (xm_oks_t (xm_oks_t hst))) hS)
theorem x_last {K : xm_K} {cells slots pc : Nat} {L : List (Nat × xm_V)} {st : List xm_V} {S : xm_S} {cc : ByteArray} {own : String} {nl : Nat} {rt : Option FieldType} {rm : Room} {n len : Nat} {r : Option Nat} {i : Int32} {x : Int64} (C : xm_Cx K cc own nl rt rm) (hr : r = some n) (ht : st_t S n = some (103, len)) (hin : vp_in i len) (d : decode cc pc = .ok (.lastore, 1)) (kk : xm_W K cells slots (pc + 1) L (st) (st_pl S n i.toNatClampNeg x)) : xm_W K cells slots (pc) L (xm_l x :: xm_i i :: xm_r r :: st) S := by
  obtain ⟨D, E, base, al0, S0, p, l, e, R, s, m, args, below, meth, c, nL, q, x0⟩ := K
  obtain ⟨hx, hb, hown, hts, hA, hml, hnl, hrt, hrm, hlk⟩ := C
  intro al H ls locs hR hE hls hL hst hS
  subst hr
  obtain ⟨hks, hcell⟩ := xm_arr hR ht (by decide)
  have hnn : S.1 n ≠ none := by rw [show S.1 n = some (103, len) from ht]; exact fun z => by cases z
  refine W.last hx hb hcell ((hA.2.1 103 hks).1 len _) (fun z => by cases z) (by rw [arrV_size]; exact hin) rfl rfl d fun H1 e1 e2 e3 => ?_
  rw [arrV_store] at e1
  have hR' : xm_R D E base al (st_pl S n i.toNatClampNeg x) H1 := by
    refine hR.put hnn rfl (fun sh hsh => ?_) e3 (fun m9 hm j => ?_) (fun j m9 hj => hR.2.2 n j m9 hnn hj)
    · cases (show S.1 n = some (103, len) from ht).symm.trans hsh
      refine ⟨fun h => absurd h (by show ¬ 103 < 100; decide), fun _ => ⟨hks, ?_⟩⟩
      rw [e1]
      congr 2
      funext j
      by_cases hj : j = i.toNatClampNeg
      · subst hj
        simp [updV, xm_ev_103, st_l_pl_s]
      · simp [updV, xm_ev_103, hj, st_l_pl_n _ _ _ _ _ _ (fun z => hj z.2)]
    · exact ⟨rfl, rfl, if_neg (fun z => hm z.1)⟩
  exact kk al H1 ls _ hR' hE hls hL (xm_oks_t (xm_oks_t (xm_oks_t hst))) (hS.put e2 e3 (hR.1 n _ ht).2)
theorem x_aald {K : xm_K} {cells slots pc : Nat} {L : List (Nat × xm_V)} {st : List xm_V} {S : xm_S} {cc : ByteArray} {own : String} {nl : Nat} {rt : Option FieldType} {rm : Room} {n kd len : Nat} {r : Option Nat} {i : Int32} (C : xm_Cx K cc own nl rt rm) (hr : r = some n) (hkd : 104 ≤ kd) (hrf : (xm_ty kd).isReference = true) (ht : st_t S n = some (kd, len)) (hin : vp_in i len) (d : decode cc pc = .ok (.aaload, 1)) (kk : xm_W K cells slots (pc + 1) L (xm_r (st_r S n i.toNatClampNeg) :: st) S) : xm_W K cells slots (pc) L (xm_i i :: xm_r r :: st) S := by
  obtain ⟨D, E, base, al0, S0, p, l, e, R, s, m, args, below, meth, c, nL, q, x0⟩ := K
  obtain ⟨hx, hb, hown, hts, hA, hml, hnl, hrt, hrm, hlk⟩ := C
  intro al H ls locs hR hE hls hL hst hS
  subst hr
  obtain ⟨hks, hcell⟩ := xm_arr hR ht (by omega)
  have hlt : i.toNatClampNeg < len := Nat.not_le.mp fun z => hin (Or.inr z)
  refine W.aald (v := xm_v al (xm_r (st_r S n i.toNatClampNeg))) (ty := xm_ty kd) hx hb hcell ((hA.2.1 kd hks).1 len _) hrf (fun z => by cases z) (by rw [arrV_size]; exact hin) ?_ rfl rfl d (kk al H ls locs hR hE hls hL (xm_oks_c (fun m9 e9 => hR.2.2 n i.toNatClampNeg m9 (by rw [show S.1 n = some (kd, len) from ht]; exact fun z => by cases z) (show st_r S n i.toNatClampNeg = some m9 from xm_r_inj e9)) (xm_oks_t (xm_oks_t hst))) hS)
  rw [arrV_read _ _ hlt, xm_ev_r hkd]
theorem x_aast {K : xm_K} {cells slots pc : Nat} {L : List (Nat × xm_V)} {st : List xm_V} {S : xm_S} {cc : ByteArray} {own : String} {nl : Nat} {rt : Option FieldType} {rm : Room} {n ci len : Nat} {r : Option Nat} {i : Int32} {x : Option Nat} {C9 : String} {T : u_T} {N : Nat} (C : xm_Cx K cc own nl rt rm) (hr : r = some n) (hci : ci < 100) (hc : vwCl[ci]? = some (C9, T, N)) (hty : xm_ty (110 + ci) = .object C9) (ht : st_t S n = some (110 + ci, len)) (hin : vp_in i len) (hv : ∀ v, x = some v → st_t S v = some (ci, 0)) (d : decode cc pc = .ok (.aastore, 1)) (kk : xm_W K cells slots (pc + 1) L (st) (st_pr S n i.toNatClampNeg x)) : xm_W K cells slots (pc) L (xm_r x :: xm_i i :: xm_r r :: st) S := by
  obtain ⟨D, E, base, al0, S0, p, l, e, R, s, m, args, below, meth, c, nL, q, x0⟩ := K
  obtain ⟨hx, hb, hown, hts, hA, hml, hnl, hrt, hrm, hlk⟩ := C
  intro al H ls locs hR hE hls hL hst hS
  subst hr
  obtain ⟨hks, hcell⟩ := xm_arr hR ht (by omega)
  have hnn : S.1 n ≠ none := by rw [show S.1 n = some (110 + ci, len) from ht]; exact fun z => by cases z
  have hlt : i.toNatClampNeg < len := Nat.not_le.mp fun z => hin (Or.inr z)
  have h0 : ¬ i < 0 := fun z => hin (Or.inl z)
  have key : ∀ H1 : Heap, H1[al n]? = some ((arrV (E (110 + ci)) len (xm_ev al S n (110 + ci))).setSlot i.toNatClampNeg (xm_v al (xm_r x))) → H1.size = H.size → (∀ q9 : Nat, q9 ≠ al n → H1[q9]? = H[q9]?) → W p l e R s m args below meth c H1 (locs ++ [⟨al n, i.toNatClampNeg⟩]) cells slots (vx_MQ below (xm_Qc D E base al0 S0 q) (xm_Xc D E base al0 S0 x0) args s R.cells R.slots (fun a => base ≤ a)) (F0 m (pc + 1) ls (st.map (xm_v al))) := by
    intro H1 e1 e2 e3
    rw [arrV_store] at e1
    have hR' : xm_R D E base al (st_pr S n i.toNatClampNeg x) H1 := by
      refine hR.put hnn rfl (fun sh hsh => ?_) e3 (fun m9 hm j => ⟨rfl, if_neg (fun z => hm z.1), rfl⟩) (fun j m9 hj => ?_)
      · cases (show S.1 n = some (110 + ci, len) from ht).symm.trans hsh
        refine ⟨fun h => absurd h (by show ¬ 110 + ci < 100; omega), fun _ => ⟨hks, ?_⟩⟩
        rw [e1]
        congr 2
        funext j
        rw [xm_ev_r (by omega)]
        by_cases hj : j = i.toNatClampNeg
        · subst hj
          simp [updV, st_r_pr_s]
        · rw [st_r_pr_n _ _ _ _ _ _ (fun z => hj z.2)]
          rw [show updV (xm_ev al S n (110 + ci)) i.toNatClampNeg (xm_v al (xm_r x)) j = xm_ev al S n (110 + ci) j by simp [updV, hj], xm_ev_r (by omega)]
      · by_cases ej : j = i.toNatClampNeg
        · subst ej
          have hx9 : st_r (st_pr S n i.toNatClampNeg x) n i.toNatClampNeg = some m9 := hj
          rw [st_r_pr_s] at hx9
          exact xm_oks_h hst m9 (by rw [hx9])
        · have hx9 : st_r (st_pr S n i.toNatClampNeg x) n j = some m9 := hj
          rw [st_r_pr_n _ _ _ _ _ _ (fun z => ej z.2)] at hx9
          exact hR.2.2 n j m9 hnn hx9
    exact kk al H1 ls _ hR' hE hls hL (xm_oks_t (xm_oks_t (xm_oks_t hst))) (hS.put e2 e3 (hR.1 n _ ht).2)
  cases x with
  | none =>
    have hAr := (hA.2.1 (110 + ci) hks).1 len (xm_ev al S n (110 + ci))
    rw [hty] at hAr
    exact va_WaastN (C := C9) hx hb hcell hAr (fun z => by cases z) (by rw [arrV_size]; exact hin) rfl rfl d key
  | some v =>
    obtain ⟨cellV, g1, g2, g3, -⟩ := xm_cell hR (hv v rfl) hci hc
    have hcls := (hA.1.1 ci _ hc).2
    have hRA := (hA.2.1 (110 + ci) hks).2
    rw [hty] at hRA
    obtain ⟨kA, comp, k1, k2, k3, -⟩ := hRA
    have hcomp : comp = D.1 ci := Option.some.inj (k3.symm.trans hcls.1)
    subst hcomp
    obtain ⟨kC, hkC, -⟩ := hcls.2
    exact W.aast hx hb hcell (fun z h => by cases h) (fun h => by cases h) k1 k2 rfl hkC ⟨h0, by rw [arrV_size]; exact hlt⟩ g1 (fun z h => by rw [g3] at h; cases h) (by rw [g2]; exact hkC) (by rw [g2]; exact va_assign hcls) rfl rfl d key
theorem x_new {K : xm_K} {cells slots pc : Nat} {L : List (Nat × xm_V)} {st : List xm_V} {S : xm_S} {cc : ByteArray} {own : String} {nl : Nat} {rt : Option FieldType} {rm : Room} {index ci n N : Nat} {C9 : String} {T : u_T} {ty0 : Nat → FieldType} (C : xm_Cx K cc own nl rt rm) (Cl : xm_Cl ci C9 T N ty0) (hw : Cond.classLink own index C9 ∈ xm_G) (hn : st_t S n = none) (h1 : cells + 1 ≤ rm.cells) (h2 : slots + N ≤ rm.slots) (d : decode cc pc = .ok (.new index, 3)) (kk : xm_W K (cells + 1) (slots + N) (pc + 3) L (xm_r (some n) :: st) (st_nw S n (ci, 0))) : xm_W K cells slots (pc) L (st) S := by
  obtain ⟨D, E, base, al0, S0, p, l, e, R, s, m, args, below, meth, c, nL, q, x0⟩ := K
  obtain ⟨hx, hb, hown, hts, hA, hml, hnl, hrt, hrm, hlk⟩ := C
  intro al H ls locs hR hE hls hL hst hS
  subst hrm
  obtain ⟨hci, hc, hin, hty, hnm, hinst, hini, hdef⟩ := Cl
  have hKn := hA.1.1 ci _ hc
  refine W.newcK hx hb hown (hts _ hw) (hts _ hinst) (hts _ hini) rfl d h1 h2 hKn.2.1 rfl fun H1 kC hkC e1 z1 o1 => ?_
  have hbs : base ≤ H.size := Nat.le_trans hA.2.2.1 hS.1
  have hC9 : xm_C D E (fun m9 => if m9 = n then H.size else al m9) (st_nw S n (ci, 0)) H1 n (ci, 0) := by
    refine ⟨fun _ => ⟨_, hc, ?_⟩, fun h => absurd h (by show ¬ 100 ≤ ci; omega)⟩
    have hb9 := (u_born (o := H.size) ty0 hts hin hKn hkC e1 hty)
    rw [show (fun m9 => if m9 = n then H.size else al m9) n = H.size from if_pos rfl]
    refine hb9.to (fun j hj => ?_)
    unfold xm_fv
    rcases hdef j hj with ⟨f1, f2⟩ | ⟨f1, f2⟩
    · rw [f1, f2, if_pos rfl, st_r_nw, if_pos rfl]
      rfl
    · rw [f1, f2, if_neg (by decide), st_i_nw, if_pos rfl]
  have hR' := hR.new hn hbs (fun z hz => o1 z hz) hC9
  have hmono : ∀ z, S.1 z ≠ none → (fun m9 => if m9 = n then H.size else al m9) z = al z := fun z hz => if_neg (fun (ez : z = n) => hz (by rw [ez]; exact hn))
  have hm2 : ∀ z, S.1 z ≠ none → (st_nw S n (ci, 0)).1 z ≠ none := fun z hz => by show (if z = n then _ else _) ≠ _; rw [if_neg (fun (ez : z = n) => hz (by rw [ez]; exact hn))]; exact hz
  have hkk := kk _ H1 ls locs hR' (hE.new hn) (by rw [xm_lv_cong hmono hL]; exact hls) (fun z hz => (hL z hz).mono hm2) (xm_oks_c (xm_ok_s (by show (if n = n then _ else _) ≠ _; rw [if_pos rfl]; exact fun z => by cases z)) (fun z hz => (hst z hz).mono hm2)) ⟨Nat.le_trans hS.1 (by omega), fun z g1 g2 => (o1 z (Nat.lt_of_lt_of_le g1 hS.1)).trans (hS.2.1 z g1 g2), hS.2.2⟩
  rw [List.map_cons, xm_st_cong hmono hst] at hkk
  rw [show xm_v (fun m9 => if m9 = n then H.size else al m9) (xm_r (some n)) = Value.ref H.size from congrArg Value.ref (if_pos rfl)] at hkk
  exact hkk
theorem x_newa_i {K : xm_K} {cells slots pc : Nat} {L : List (Nat × xm_V)} {st : List xm_V} {S : xm_S} {cc : ByteArray} {own : String} {nl : Nat} {rt : Option FieldType} {rm : Room} {n len : Nat} {v : Int32} (C : xm_Cx K cc own nl rt rm) (hw : Cond.arrayClass .int ∈ xm_G) (hv : v = nI len) (hlen : len < 100000) (hn : st_t S n = none) (h1 : cells + 1 ≤ rm.cells) (h2 : slots + len ≤ rm.slots) (d : decode cc pc = .ok (.newarray .int, 2)) (kk : xm_W K (cells + 1) (slots + len) (pc + 2) L (xm_r (some n) :: st) (st_nw S n (100, len))) : xm_W K cells slots (pc) L (xm_i v :: st) S := by
  obtain ⟨D, E, base, al0, S0, p, l, e, R, s, m, args, below, meth, c, nL, q, x0⟩ := K
  obtain ⟨hx, hb, hown, hts, hA, hml, hnl, hrt, hrm, hlk⟩ := C
  intro al H ls locs hR hE hls hL hst hS
  subst hrm
  subst hv
  refine va_newaK (atype := .int) hx hb (hts _ hw) rfl d rfl (nI_pos (by omega)) (nI_clamp (by omega)) (show len * _ ≤ 536870912 from Nat.le_trans (Nat.mul_le_mul_left len (show componentBytes .int ≤ 8 by decide)) (by omega)) h1 h2 rfl fun H1 cA e1 z1 o1 hAr hNm => ?_
  have hks : 100 ∈ xm_ks := by decide
  have hcA : E 100 = cA := by
    have h9 := (hA.2.1 100 hks).2
    exact Option.some.inj ((show s.vm.findClass _ = some (E 100) from h9).symm.trans hNm)
  subst hcA
  have hbs : base ≤ H.size := Nat.le_trans hA.2.2.1 hS.1
  have hC9 : xm_C D E (fun m9 => if m9 = n then H.size else al m9) (st_nw S n (100, len)) H1 n (100, len) := by
    refine ⟨fun h => absurd h (by show ¬ 100 < 100; decide), fun _ => ⟨hks, ?_⟩⟩
    rw [show (fun m9 => if m9 = n then H.size else al m9) n = H.size from if_pos rfl, e1]
    congr 2
    funext j
    rw [xm_ev_100, st_i_nw, if_pos rfl]
    rfl
  have hR' := hR.new hn hbs (fun z hz => o1 z hz) hC9
  have hmono : ∀ z, S.1 z ≠ none → (fun m9 => if m9 = n then H.size else al m9) z = al z := fun z hz => if_neg (fun (ez : z = n) => hz (by rw [ez]; exact hn))
  have hm2 : ∀ z, S.1 z ≠ none → (st_nw S n (100, len)).1 z ≠ none := fun z hz => by show (if z = n then _ else _) ≠ _; rw [if_neg (fun (ez : z = n) => hz (by rw [ez]; exact hn))]; exact hz
  have hkk := kk _ H1 ls locs hR' (hE.new hn) (by rw [xm_lv_cong hmono hL]; exact hls) (fun z hz => (hL z hz).mono hm2) (xm_oks_c (xm_ok_s (by show (if n = n then _ else _) ≠ _; rw [if_pos rfl]; exact fun z => by cases z)) (fun z hz => (xm_oks_t hst z hz).mono hm2)) ⟨Nat.le_trans hS.1 (by omega), fun z g1 g2 => (o1 z (Nat.lt_of_lt_of_le g1 hS.1)).trans (hS.2.1 z g1 g2), hS.2.2⟩
  rw [List.map_cons, xm_st_cong hmono (xm_oks_t hst)] at hkk
  rw [show xm_v (fun m9 => if m9 = n then H.size else al m9) (xm_r (some n)) = Value.ref H.size from congrArg Value.ref (if_pos rfl)] at hkk
  exact hkk
theorem x_newa_z {K : xm_K} {cells slots pc : Nat} {L : List (Nat × xm_V)} {st : List xm_V} {S : xm_S} {cc : ByteArray} {own : String} {nl : Nat} {rt : Option FieldType} {rm : Room} {n len : Nat} {v : Int32} (C : xm_Cx K cc own nl rt rm) (hw : Cond.arrayClass .boolean ∈ xm_G) (hv : v = nI len) (hlen : len < 100000) (hn : st_t S n = none) (h1 : cells + 1 ≤ rm.cells) (h2 : slots + len ≤ rm.slots) (d : decode cc pc = .ok (.newarray .boolean, 2)) (kk : xm_W K (cells + 1) (slots + len) (pc + 2) L (xm_r (some n) :: st) (st_nw S n (101, len))) : xm_W K cells slots (pc) L (xm_i v :: st) S := by
  obtain ⟨D, E, base, al0, S0, p, l, e, R, s, m, args, below, meth, c, nL, q, x0⟩ := K
  obtain ⟨hx, hb, hown, hts, hA, hml, hnl, hrt, hrm, hlk⟩ := C
  intro al H ls locs hR hE hls hL hst hS
  subst hrm
  subst hv
  refine va_newaK (atype := .boolean) hx hb (hts _ hw) rfl d rfl (nI_pos (by omega)) (nI_clamp (by omega)) (show len * _ ≤ 536870912 from Nat.le_trans (Nat.mul_le_mul_left len (show componentBytes .boolean ≤ 8 by decide)) (by omega)) h1 h2 rfl fun H1 cA e1 z1 o1 hAr hNm => ?_
  have hks : 101 ∈ xm_ks := by decide
  have hcA : E 101 = cA := by
    have h9 := (hA.2.1 101 hks).2
    exact Option.some.inj ((show s.vm.findClass _ = some (E 101) from h9).symm.trans hNm)
  subst hcA
  have hbs : base ≤ H.size := Nat.le_trans hA.2.2.1 hS.1
  have hC9 : xm_C D E (fun m9 => if m9 = n then H.size else al m9) (st_nw S n (101, len)) H1 n (101, len) := by
    refine ⟨fun h => absurd h (by show ¬ 101 < 100; decide), fun _ => ⟨hks, ?_⟩⟩
    rw [show (fun m9 => if m9 = n then H.size else al m9) n = H.size from if_pos rfl, e1]
    congr 2
    funext j
    rw [xm_ev_101, st_i_nw, if_pos rfl]
    rfl
  have hR' := hR.new hn hbs (fun z hz => o1 z hz) hC9
  have hmono : ∀ z, S.1 z ≠ none → (fun m9 => if m9 = n then H.size else al m9) z = al z := fun z hz => if_neg (fun (ez : z = n) => hz (by rw [ez]; exact hn))
  have hm2 : ∀ z, S.1 z ≠ none → (st_nw S n (101, len)).1 z ≠ none := fun z hz => by show (if z = n then _ else _) ≠ _; rw [if_neg (fun (ez : z = n) => hz (by rw [ez]; exact hn))]; exact hz
  have hkk := kk _ H1 ls locs hR' (hE.new hn) (by rw [xm_lv_cong hmono hL]; exact hls) (fun z hz => (hL z hz).mono hm2) (xm_oks_c (xm_ok_s (by show (if n = n then _ else _) ≠ _; rw [if_pos rfl]; exact fun z => by cases z)) (fun z hz => (xm_oks_t hst z hz).mono hm2)) ⟨Nat.le_trans hS.1 (by omega), fun z g1 g2 => (o1 z (Nat.lt_of_lt_of_le g1 hS.1)).trans (hS.2.1 z g1 g2), hS.2.2⟩
  rw [List.map_cons, xm_st_cong hmono (xm_oks_t hst)] at hkk
  rw [show xm_v (fun m9 => if m9 = n then H.size else al m9) (xm_r (some n)) = Value.ref H.size from congrArg Value.ref (if_pos rfl)] at hkk
  exact hkk
theorem x_newa_c {K : xm_K} {cells slots pc : Nat} {L : List (Nat × xm_V)} {st : List xm_V} {S : xm_S} {cc : ByteArray} {own : String} {nl : Nat} {rt : Option FieldType} {rm : Room} {n len : Nat} {v : Int32} (C : xm_Cx K cc own nl rt rm) (hw : Cond.arrayClass .char ∈ xm_G) (hv : v = nI len) (hlen : len < 100000) (hn : st_t S n = none) (h1 : cells + 1 ≤ rm.cells) (h2 : slots + len ≤ rm.slots) (d : decode cc pc = .ok (.newarray .char, 2)) (kk : xm_W K (cells + 1) (slots + len) (pc + 2) L (xm_r (some n) :: st) (st_nw S n (102, len))) : xm_W K cells slots (pc) L (xm_i v :: st) S := by
  obtain ⟨D, E, base, al0, S0, p, l, e, R, s, m, args, below, meth, c, nL, q, x0⟩ := K
  obtain ⟨hx, hb, hown, hts, hA, hml, hnl, hrt, hrm, hlk⟩ := C
  intro al H ls locs hR hE hls hL hst hS
  subst hrm
  subst hv
  refine va_newaK (atype := .char) hx hb (hts _ hw) rfl d rfl (nI_pos (by omega)) (nI_clamp (by omega)) (show len * _ ≤ 536870912 from Nat.le_trans (Nat.mul_le_mul_left len (show componentBytes .char ≤ 8 by decide)) (by omega)) h1 h2 rfl fun H1 cA e1 z1 o1 hAr hNm => ?_
  have hks : 102 ∈ xm_ks := by decide
  have hcA : E 102 = cA := by
    have h9 := (hA.2.1 102 hks).2
    exact Option.some.inj ((show s.vm.findClass _ = some (E 102) from h9).symm.trans hNm)
  subst hcA
  have hbs : base ≤ H.size := Nat.le_trans hA.2.2.1 hS.1
  have hC9 : xm_C D E (fun m9 => if m9 = n then H.size else al m9) (st_nw S n (102, len)) H1 n (102, len) := by
    refine ⟨fun h => absurd h (by show ¬ 102 < 100; decide), fun _ => ⟨hks, ?_⟩⟩
    rw [show (fun m9 => if m9 = n then H.size else al m9) n = H.size from if_pos rfl, e1]
    congr 2
    funext j
    rw [xm_ev_102, st_i_nw, if_pos rfl]
    rfl
  have hR' := hR.new hn hbs (fun z hz => o1 z hz) hC9
  have hmono : ∀ z, S.1 z ≠ none → (fun m9 => if m9 = n then H.size else al m9) z = al z := fun z hz => if_neg (fun (ez : z = n) => hz (by rw [ez]; exact hn))
  have hm2 : ∀ z, S.1 z ≠ none → (st_nw S n (102, len)).1 z ≠ none := fun z hz => by show (if z = n then _ else _) ≠ _; rw [if_neg (fun (ez : z = n) => hz (by rw [ez]; exact hn))]; exact hz
  have hkk := kk _ H1 ls locs hR' (hE.new hn) (by rw [xm_lv_cong hmono hL]; exact hls) (fun z hz => (hL z hz).mono hm2) (xm_oks_c (xm_ok_s (by show (if n = n then _ else _) ≠ _; rw [if_pos rfl]; exact fun z => by cases z)) (fun z hz => (xm_oks_t hst z hz).mono hm2)) ⟨Nat.le_trans hS.1 (by omega), fun z g1 g2 => (o1 z (Nat.lt_of_lt_of_le g1 hS.1)).trans (hS.2.1 z g1 g2), hS.2.2⟩
  rw [List.map_cons, xm_st_cong hmono (xm_oks_t hst)] at hkk
  rw [show xm_v (fun m9 => if m9 = n then H.size else al m9) (xm_r (some n)) = Value.ref H.size from congrArg Value.ref (if_pos rfl)] at hkk
  exact hkk
theorem x_newa_l {K : xm_K} {cells slots pc : Nat} {L : List (Nat × xm_V)} {st : List xm_V} {S : xm_S} {cc : ByteArray} {own : String} {nl : Nat} {rt : Option FieldType} {rm : Room} {n len : Nat} {v : Int32} (C : xm_Cx K cc own nl rt rm) (hw : Cond.arrayClass .long ∈ xm_G) (hv : v = nI len) (hlen : len < 100000) (hn : st_t S n = none) (h1 : cells + 1 ≤ rm.cells) (h2 : slots + len ≤ rm.slots) (d : decode cc pc = .ok (.newarray .long, 2)) (kk : xm_W K (cells + 1) (slots + len) (pc + 2) L (xm_r (some n) :: st) (st_nw S n (103, len))) : xm_W K cells slots (pc) L (xm_i v :: st) S := by
  obtain ⟨D, E, base, al0, S0, p, l, e, R, s, m, args, below, meth, c, nL, q, x0⟩ := K
  obtain ⟨hx, hb, hown, hts, hA, hml, hnl, hrt, hrm, hlk⟩ := C
  intro al H ls locs hR hE hls hL hst hS
  subst hrm
  subst hv
  refine va_newaK (atype := .long) hx hb (hts _ hw) rfl d rfl (nI_pos (by omega)) (nI_clamp (by omega)) (show len * _ ≤ 536870912 from Nat.le_trans (Nat.mul_le_mul_left len (show componentBytes .long ≤ 8 by decide)) (by omega)) h1 h2 rfl fun H1 cA e1 z1 o1 hAr hNm => ?_
  have hks : 103 ∈ xm_ks := by decide
  have hcA : E 103 = cA := by
    have h9 := (hA.2.1 103 hks).2
    exact Option.some.inj ((show s.vm.findClass _ = some (E 103) from h9).symm.trans hNm)
  subst hcA
  have hbs : base ≤ H.size := Nat.le_trans hA.2.2.1 hS.1
  have hC9 : xm_C D E (fun m9 => if m9 = n then H.size else al m9) (st_nw S n (103, len)) H1 n (103, len) := by
    refine ⟨fun h => absurd h (by show ¬ 103 < 100; decide), fun _ => ⟨hks, ?_⟩⟩
    rw [show (fun m9 => if m9 = n then H.size else al m9) n = H.size from if_pos rfl, e1]
    congr 2
    funext j
    rw [xm_ev_103, st_l_nw, if_pos rfl]
    rfl
  have hR' := hR.new hn hbs (fun z hz => o1 z hz) hC9
  have hmono : ∀ z, S.1 z ≠ none → (fun m9 => if m9 = n then H.size else al m9) z = al z := fun z hz => if_neg (fun (ez : z = n) => hz (by rw [ez]; exact hn))
  have hm2 : ∀ z, S.1 z ≠ none → (st_nw S n (103, len)).1 z ≠ none := fun z hz => by show (if z = n then _ else _) ≠ _; rw [if_neg (fun (ez : z = n) => hz (by rw [ez]; exact hn))]; exact hz
  have hkk := kk _ H1 ls locs hR' (hE.new hn) (by rw [xm_lv_cong hmono hL]; exact hls) (fun z hz => (hL z hz).mono hm2) (xm_oks_c (xm_ok_s (by show (if n = n then _ else _) ≠ _; rw [if_pos rfl]; exact fun z => by cases z)) (fun z hz => (xm_oks_t hst z hz).mono hm2)) ⟨Nat.le_trans hS.1 (by omega), fun z g1 g2 => (o1 z (Nat.lt_of_lt_of_le g1 hS.1)).trans (hS.2.1 z g1 g2), hS.2.2⟩
  rw [List.map_cons, xm_st_cong hmono (xm_oks_t hst)] at hkk
  rw [show xm_v (fun m9 => if m9 = n then H.size else al m9) (xm_r (some n)) = Value.ref H.size from congrArg Value.ref (if_pos rfl)] at hkk
  exact hkk
theorem x_newq {K : xm_K} {cells slots pc : Nat} {L : List (Nat × xm_V)} {st : List xm_V} {S : xm_S} {cc : ByteArray} {own : String} {nl : Nat} {rt : Option FieldType} {rm : Room} {index ci n len : Nat} {v : Int32} {C9 : String} (C : xm_Cx K cc own nl rt rm) (hw : Cond.classLink own index C9 ∈ xm_G) (hao : C9 ∈ xm_aos) (hks : 110 + ci ∈ xm_ks) (hty : xm_ty (110 + ci) = .object C9) (hv : v = nI len) (hlen : len < 100000) (hn : st_t S n = none) (h1 : cells + 1 ≤ rm.cells) (h2 : slots + len ≤ rm.slots) (d : decode cc pc = .ok (.anewarray index, 3)) (kk : xm_W K (cells + 1) (slots + len) (pc + 3) L (xm_r (some n) :: st) (st_nw S n (110 + ci, len))) : xm_W K cells slots (pc) L (xm_i v :: st) S := by
  obtain ⟨D, E, base, al0, S0, p, l, e, R, s, m, args, below, meth, c, nL, q, x0⟩ := K
  obtain ⟨hx, hb, hown, hts, hA, hml, hnl, hrt, hrm, hlk⟩ := C
  intro al H ls locs hR hE hls hL hst hS
  subst hrm
  subst hv
  have hcl : (nI len).toNatClampNeg = len := nI_clamp (by omega)
  refine W.anew hx hb hown (hts _ hw) (va_AO.use (hA.2.2.2.1.1 C9 hao)) rfl d rfl (nI_pos (by omega)) (by rw [hcl]; omega) h1 (by rw [hcl]; exact h2) fun cA kA comp f1 f2 f3 f4 => ?_
  rw [hcl]
  have hRA := (hA.2.1 (110 + ci) hks).2
  rw [hty] at hRA
  obtain ⟨kA9, comp9, k1, k2, k3, k4⟩ := hRA
  have hcA : E (110 + ci) = cA := Option.some.inj (k4.symm.trans f1)
  subst hcA
  generalize hH1 : H.push ({ cls := E (110 + ci), slots := Array.replicate len .null, vm := .none } : Cell) = H1
  have z1 : H1.size = H.size + 1 := by rw [← hH1, Array.size_push]
  have e1 : H1[H.size]? = some (arrV (E (110 + ci)) len (fun _ => .null)) := by rw [← hH1, Array.getElem?_push_size, ← arrV_new]
  have o1 : ∀ q : Nat, q < H.size → H1[q]? = H[q]? := fun q hq => by rw [← hH1, Array.getElem?_push, if_neg (Nat.ne_of_lt hq)]
  have hbs : base ≤ H.size := Nat.le_trans hA.2.2.1 hS.1
  have hC9 : xm_C D E (fun m9 => if m9 = n then H.size else al m9) (st_nw S n (110 + ci, len)) H1 n (110 + ci, len) := by
    refine ⟨fun h => absurd h (by show ¬ 110 + ci < 100; omega), fun _ => ⟨hks, ?_⟩⟩
    rw [show (fun m9 => if m9 = n then H.size else al m9) n = H.size from if_pos rfl, e1]
    congr 2
    funext j
    rw [xm_ev_r (by omega), st_r_nw, if_pos rfl]
    rfl
  have hR' := hR.new hn hbs (fun z hz => o1 z hz) hC9
  have hmono : ∀ z, S.1 z ≠ none → (fun m9 => if m9 = n then H.size else al m9) z = al z := fun z hz => if_neg (fun (ez : z = n) => hz (by rw [ez]; exact hn))
  have hm2 : ∀ z, S.1 z ≠ none → (st_nw S n (110 + ci, len)).1 z ≠ none := fun z hz => by show (if z = n then _ else _) ≠ _; rw [if_neg (fun (ez : z = n) => hz (by rw [ez]; exact hn))]; exact hz
  have hkk := kk _ H1 ls locs hR' (hE.new hn) (by rw [xm_lv_cong hmono hL]; exact hls) (fun z hz => (hL z hz).mono hm2) (xm_oks_c (xm_ok_s (by show (if n = n then _ else _) ≠ _; rw [if_pos rfl]; exact fun z => by cases z)) (fun z hz => (xm_oks_t hst z hz).mono hm2)) ⟨Nat.le_trans hS.1 (by omega), fun z g1 g2 => (o1 z (Nat.lt_of_lt_of_le g1 hS.1)).trans (hS.2.1 z g1 g2), hS.2.2⟩
  rw [List.map_cons, xm_st_cong hmono (xm_oks_t hst)] at hkk
  rw [show xm_v (fun m9 => if m9 = n then H.size else al m9) (xm_r (some n)) = Value.ref H.size from congrArg Value.ref (if_pos rfl)] at hkk
  exact hkk
theorem x_iret {K : xm_K} {cells slots pc : Nat} {L : List (Nat × xm_V)} {S : xm_S} {cc : ByteArray} {own : String} {nl : Nat} {rt : Option FieldType} {rm : Room} {v : Int32} (C : xm_Cx K cc own nl rt rm) (h1 : cells ≤ rm.cells) (h2 : slots ≤ rm.slots) (hret : rt = some .int) (d : decode cc pc = .ok (.ireturn, 1)) (hq : xm_q K (some (xm_i v)) S)  : xm_W K cells slots (pc) L ([xm_i v]) S := by
  obtain ⟨D, E, base, al0, S0, p, l, e, R, s, m, args, below, meth, c, nL, q, x0⟩ := K
  obtain ⟨hx, hb, hown, hts, hA, hml, hnl, hrt, hrm, hlk⟩ := C
  intro al H ls locs hR hE hls hL hst hS
  subst hrm
  refine W.widen h1 h2 (vx_ret ?_)
  exact W.iret (v := v) hx hb (hrt.trans hret) (fun t ht hW => ⟨⟨al, S, some (xm_i v), rfl, hq, by rw [ht]; exact hR, hE, fun w hw => by cases hw; exact xm_ok_i⟩, hS.F ht⟩) hS.2.2 d hlk
theorem x_zret {K : xm_K} {cells slots pc : Nat} {L : List (Nat × xm_V)} {S : xm_S} {cc : ByteArray} {own : String} {nl : Nat} {rt : Option FieldType} {rm : Room} {v : Int32} (C : xm_Cx K cc own nl rt rm) (h1 : cells ≤ rm.cells) (h2 : slots ≤ rm.slots) (hret : rt = some .boolean) (hv : v = 0 ∨ v = 1) (d : decode cc pc = .ok (.ireturn, 1)) (hq : xm_q K (some (xm_i v)) S)  : xm_W K cells slots (pc) L ([xm_i v]) S := by
  obtain ⟨D, E, base, al0, S0, p, l, e, R, s, m, args, below, meth, c, nL, q, x0⟩ := K
  obtain ⟨hx, hb, hown, hts, hA, hml, hnl, hrt, hrm, hlk⟩ := C
  intro al H ls locs hR hE hls hL hst hS
  subst hrm
  refine W.widen h1 h2 (vx_ret ?_)
  exact W.zret (v := v) hx hb (hrt.trans hret) (by rcases hv with rfl | rfl <;> rfl) (fun t ht hW => ⟨⟨al, S, some (xm_i v), rfl, hq, by rw [ht]; exact hR, hE, fun w hw => by cases hw; exact xm_ok_i⟩, hS.F ht⟩) hS.2.2 d hlk
theorem x_vret {K : xm_K} {cells slots pc : Nat} {L : List (Nat × xm_V)} {S : xm_S} {cc : ByteArray} {own : String} {nl : Nat} {rt : Option FieldType} {rm : Room}  (C : xm_Cx K cc own nl rt rm) (h1 : cells ≤ rm.cells) (h2 : slots ≤ rm.slots) (hret : rt = none) (d : decode cc pc = .ok (.return_, 1)) (hq : xm_q K none S)  : xm_W K cells slots (pc) L ([]) S := by
  obtain ⟨D, E, base, al0, S0, p, l, e, R, s, m, args, below, meth, c, nL, q, x0⟩ := K
  obtain ⟨hx, hb, hown, hts, hA, hml, hnl, hrt, hrm, hlk⟩ := C
  intro al H ls locs hR hE hls hL hst hS
  subst hrm
  refine W.widen h1 h2 (vx_ret ?_)
  exact W.vret hx hb (hrt.trans hret) (fun t ht hW => ⟨⟨al, S, none, rfl, hq, by rw [ht]; exact hR, hE, fun w hw => by cases hw⟩, hS.F ht⟩) hS.2.2 d hlk
theorem x_aret {K : xm_K} {cells slots pc : Nat} {L : List (Nat × xm_V)} {S : xm_S} {cc : ByteArray} {own : String} {nl : Nat} {rt : Option FieldType} {rm : Room} {v : Option Nat} {ty : FieldType} (C : xm_Cx K cc own nl rt rm) (h1 : cells ≤ rm.cells) (h2 : slots ≤ rm.slots) (hret : rt = some ty) (hty : (∃ n, ty = .object n) ∨ ∃ t, ty = .array t) (d : decode cc pc = .ok (.areturn, 1)) (hq : xm_q K (some (xm_r v)) S)  : xm_W K cells slots (pc) L ([xm_r v]) S := by
  obtain ⟨D, E, base, al0, S0, p, l, e, R, s, m, args, below, meth, c, nL, q, x0⟩ := K
  obtain ⟨hx, hb, hown, hts, hA, hml, hnl, hrt, hrm, hlk⟩ := C
  intro al H ls locs hR hE hls hL hst hS
  subst hrm
  refine W.widen h1 h2 (vx_ret ?_)
  exact W.aret (v := xm_v al (xm_r v)) hx hb (hrt.trans hret) hty (by cases v with | none => exact Or.inl rfl | some z => exact Or.inr ⟨_, rfl⟩) (fun t ht hW => ⟨⟨al, S, some (xm_r v), rfl, hq, by rw [ht]; exact hR, hE, fun w hw => by cases hw; exact xm_oks_h hst⟩, hS.F ht⟩) hS.2.2 d hlk
