/-! CALLS, THROWS, A METHOD'S CONTRACT on the abstract machine. -/
def xm_qi (g : Int32 → xm_S → Prop) : Option xm_V → xm_S → Prop := fun r S => ∃ v, r = some (xm_i v) ∧ g v S
def xm_qr (g : Option Nat → xm_S → Prop) : Option xm_V → xm_S → Prop := fun r S => ∃ v, r = some (xm_r v) ∧ g v S
def xm_qv (g : xm_S → Prop) : Option xm_V → xm_S → Prop := fun r S => r = none ∧ g S
def xm_nox : String → xm_S → Prop := fun _ _ => False
theorem xm_ki {g : Int32 → xm_S → Prop} {P : Option xm_V → xm_S → Prop} (h : ∀ v S, g v S → P (some (xm_i v)) S) : ∀ r S, xm_qi g r S → P r S := fun r S ⟨v, e, hg⟩ => e ▸ h v S hg
theorem xm_kr {g : Option Nat → xm_S → Prop} {P : Option xm_V → xm_S → Prop} (h : ∀ v S, g v S → P (some (xm_r v)) S) : ∀ r S, xm_qr g r S → P r S := fun r S ⟨v, e, hg⟩ => e ▸ h v S hg
theorem xm_kv {g : xm_S → Prop} {P : Option xm_V → xm_S → Prop} (h : ∀ S, g S → P none S) : ∀ r S, xm_qv g r S → P r S := fun r S ⟨e, hg⟩ => e ▸ h S hg
theorem xm_kx {P : String → xm_S → Prop} : ∀ X S, xm_nox X S → P X S := fun _ _ h => h.elim
/-- the words of a list of values: how many slots -/
def xm_w (v : xm_V) : Nat := match v with | .inr (.inl _) => 2 | _ => 1
def xm_cs : List xm_V → Nat
  | [] => 0
  | v :: vs => xm_w v + xm_cs vs
def xm_a0 : Nat → List xm_V → List (Nat × xm_V)
  | _, [] => []
  | i, v :: vs => (i, v) :: xm_a0 (i + xm_w v) vs
theorem xm_cat_n (al : Nat → Nat) (v : xm_V) : (xm_v al v).category = xm_w v := by
  rcases v with x | x | x | x
  · rfl
  · rfl
  · cases x <;> rfl
  · rfl
theorem xm_cs_sum (al : Nat → Nat) : ∀ st : List xm_V, ((st.map (xm_v al)).map fun v => v.category).sum = xm_cs st
  | [] => rfl
  | v :: vs => by
    simp only [List.map_cons, List.sum_cons, xm_cs, xm_cs_sum al vs, xm_cat_n]
theorem xm_cs_len (al : Nat → Nat) : ∀ st : List xm_V, (lg_sl (st.map (xm_v al))).length = xm_cs st
  | [] => rfl
  | v :: vs => by
    have h := xm_cs_len al vs
    unfold lg_sl at h ⊢
    rw [List.map_cons, List.flatMap_cons, List.length_append, h, xm_cs]
    congr 1
    rcases v with x | x | x | x
    · rfl
    · rfl
    · cases x <;> rfl
    · rfl
theorem xm_a0_args (al : Nat → Nat) : ∀ (i : Nat) (vs : List xm_V), lv_args i (vs.map (xm_v al)) = xm_lv al (xm_a0 i vs)
  | _, [] => rfl
  | i, v :: vs => by
    rw [List.map_cons, lv_args, xm_a0, xm_lv, List.map_cons]
    congr 1
    rw [xm_a0_args al _ vs]
    congr 2
    rcases v with x | x | x | x
    · rfl
    · rfl
    · cases x <;> rfl
    · rfl
theorem xm_a0_ok {S : xm_S} : ∀ {i : Nat} {vs : List xm_V}, xm_oks S vs → xm_okl S (xm_a0 i vs)
  | _, [], _ => fun q h => by cases h
  | i, v :: vs, h => fun q hq => by
    rw [xm_a0] at hq
    rcases List.mem_cons.mp hq with rfl | hq
    · exact xm_oks_h h
    · exact xm_a0_ok (xm_oks_t h) q hq
def xm_Pc (D : va_G) (E : Nat → ClassId) (base : Nat) (al : Nat → Nat) (S : xm_S) (vs : List xm_V) : Array Value → State → Prop := fun a U => a = (vs.map (xm_v al)).toArray ∧ xm_R D E base al S U.heap ∧ xm_A D E base U ∧ xm_oks S vs
theorem xm_Pc_blind {D : va_G} {E : Nat → ClassId} {base : Nat} {al : Nat → Nat} {S : xm_S} {vs : List xm_V} : FrameBlind (xm_Pc D E base al S vs) := by
  rintro a U g mk ⟨h1, h2, h3, h4⟩
  exact ⟨h1, h2, h3.moved (locs := []) (State.WarmedH.refl U) va_S.rf, h4⟩
/-- a method's contract: from the store S and the arguments vs it returns with q, or throws with x -/
def xm_Met (y : MethodName) (code : ByteArray) (maxL : Nat) (ret : Option FieldType) (rm : Room) (vs : List xm_V) (S : xm_S) (q : Option xm_V → xm_S → Prop) (x : String → xm_S → Prop) : Prop :=
  ∀ (l : Launch), l.stackTraces = false → ∀ (D : va_G) (E : Nat → ClassId) (base : Nat) (al : Nat → Nat), vx_Met l y (Cond.code y code maxL ret :: xm_G) rm (xm_Pc D E base al S vs) (xm_Qc D E base al S q) (xm_Xc D E base al S x) rm.cells rm.slots (fun a => base ≤ a)
/-- no handlers -/
def xm_Nx (K : xm_K) : Prop := match K with
  | (_, _, _, _, _, _, _, _, _, _, _, _, _, _, c, _, _, _) => ∀ z ∈ c.exceptionTable.toList, False
/-- an exception flies here -/
def xm_T (K : xm_K) (cells slots pc : Nat) (L : List (Nat × xm_V)) (X : String) (S : xm_S) : Prop := match K with
  | (D, E, base, al0, S0, p, l, e, R, s, m, args, below, meth, c, nL, q, x) => ∀ (al : Nat → Nat) (H : Heap) (ls : Array Slot) (locs : List Loc) (rest : List Value) (q9 : Addr) (ce : Cell), xm_R D E base al S H → xm_E al0 S0 al S → lv_has ls nL (xm_lv al L) → xm_okl S L → va_S (fun a => base ≤ a) s.heap H locs → H[q9]? = some ce → ce.vm = .none → s.vm.findClass X = some ce.cls →
    vx_W p l e R s m args below meth c H locs cells slots (vx_MQ below (xm_Qc D E base al0 S0 q) (xm_Xc D E base al0 S0 x) args s R.cells R.slots (fun a => base ≤ a)) (F0 m pc ls rest) q9
theorem x_thru {K : xm_K} {cells slots pc : Nat} {L : List (Nat × xm_V)} {S : xm_S} {cc : ByteArray} {own : String} {nl : Nat} {rt : Option FieldType} {rm : Room} {X : String} (C : xm_Cx K cc own nl rt rm) (N : xm_Nx K) (h1 : cells ≤ rm.cells) (h2 : slots ≤ rm.slots) (hq : xm_x K X S) : xm_T K cells slots pc L X S := by
  obtain ⟨D, E, base, al0, S0, p, l, e, R, s, m, args, below, meth, c, nL, q, x0⟩ := K
  obtain ⟨hx, hb, hown, hts, hA, hml, hnl, hrt, hrm, hlk⟩ := C
  intro al H ls locs rest q9 ce hR hE hls hL hS hc hv hcl
  subst hrm
  exact vx_out (fun z hz => (N z hz).elim) hlk hc hv hcl (fun t ht _ => ⟨⟨al, S, hq, by rw [ht]; exact hR, hE⟩, hS.F ht⟩) hS.2.2 h1 h2
theorem xm_ofW {y : MethodName} {code : ByteArray} {maxL : Nat} {ret : Option FieldType} {rm : Room} {vs : List xm_V} {S : xm_S} {q : Option xm_V → xm_S → Prop} {x : String → xm_S → Prop} (own : String) (hy : plainName y.cls = true) (hyc : y.cls = own) (hlen : xm_cs vs ≤ maxL)
    (body : ∀ K : xm_K, xm_Cx K code own maxL ret rm → xm_Nx K → xm_q K = q → xm_x K = x → (y.name = "<init>" → xm_init K) → xm_W K 0 0 0 (xm_a0 0 vs) [] S) : xm_Met y code maxL ret rm vs S q x := by
  intro l hl D E base al
  refine vx_ofW hy rfl ?_
  intro p e s m args below meth c s₁ B hml htab hP
  obtain ⟨rfl, hR, hA, hok⟩ := hP
  have hts := atoms_spec (ws := Cond.code y code maxL ret :: xm_G) B.pre
  have hown : s.vm.findClass own = some m.cls := hyc ▸ findClass_of_methodNamed B.named
  have hW := body (D, E, base, al, S, p, l, e, (headSpec (Cond.code y code maxL ret :: xm_G) rm).room, s, m, (vs.map (xm_v al)).toArray, below, meth, c, maxL, q, x) ⟨B.exec, B.bytes, hown, fun w hw => hts w (List.mem_cons_of_mem _ hw), hA, ⟨hml, hl⟩, rfl, B.returns, rfl, B.notSynchronized⟩ htab rfl rfl (fun hn => (name_of_methodNamed B.named B.method).1.trans hn)
  rw [lg_entry_eq]
  have he := lv_entry (vs.map (xm_v al)) (n := maxL) (by rw [xm_cs_len]; exact hlen)
  rw [xm_a0_args] at he
  exact hW al s.heap _ [] hR (fun n _ => ⟨rfl, rfl⟩) he (xm_a0_ok hok) (fun v hv => by cases hv) va_S.rf
theorem xm_GI {ws : List Cond} (h : ∀ w ∈ ws, w ∈ xm_G) : GoodIn xm_G ws := fun w hw => ⟨h w hw, good_of_word (List.mem_filter.mp (h w hw)).2⟩
/-- what the tables say of a call -/
def xm_Lk (own : String) (idx : Nat) (y : MethodName) (code : ByteArray) (maxL : Nat) (ret : Option FieldType) (n : Nat) : Prop :=
  Cond.methodLink own idx y ∈ xm_G ∧ Cond.initialized y.cls ∈ xm_G ∧ Cond.code y code maxL ret ∈ xm_G ∧ (y.cls ≠ "java/lang/invoke/MethodHandle" ∧ y.cls ≠ "java/lang/invoke/VarHandle" ∧ (parseMethodDescriptor y.desc).map (fun d => d.parameters.length) = some n)
section XC
variable {p : Program} {l : Launch} {e : Env} {R : Room} {s : State} {m : MethodId} {args : Array Value} {below : List Frame} {meth : Method} {c : Code} {H : Heap} {locs : List Loc} {cells slots : Nat}
/-- behind a call, whatever kind it is of -/
theorem xm_back {D : va_G} {E : Nat → ClassId} {base nL pc mc ms : Nat} {al0 : Nat → Nat} {S0 S : xm_S} {q q' : Option xm_V → xm_S → Prop} {x x' : String → xm_S → Prop} {L : List (Nat × xm_V)} {st : List xm_V} {st0 : List Value} {al : Nat → Nat} {ls : Array Slot} {a : Array Value}
    (hr : vx_Run p l e R s m args below meth c H locs cells slots mc ms (F0 m pc ls st0) (st.map (xm_v al)) (xm_Qc D E base al S q' a) (xm_Xc D E base al S x') (fun a => base ≤ a))
    (hE : xm_E al0 S0 al S) (hls : lv_has ls nL (xm_lv al L)) (hL : xm_okl S L) (hst : xm_oks S st) (hS : va_S (fun a => base ≤ a) s.heap H locs)
    (kx : ∀ X S', x' X S' → xm_T (D, E, base, al0, S0, p, l, e, R, s, m, args, below, meth, c, nL, q, x) (cells + mc) (slots + ms) pc L X S') (kk : ∀ r S', q' r S' → xm_W (D, E, base, al0, S0, p, l, e, R, s, m, args, below, meth, c, nL, q, x) (cells + mc) (slots + ms) (pc + 3) L (r.toList ++ st) S') :
    W p l e R s m args below meth c H locs cells slots (vx_MQ below (xm_Qc D E base al0 S0 q) (xm_Xc D E base al0 S0 x) args s R.cells R.slots (fun a => base ≤ a)) (F0 m pc ls st0) := by
  have hcomp : ∀ {al' : Nat → Nat} {S' : xm_S}, xm_E al S al' S' → xm_E al0 S0 al' S' := fun h n hn => by
    obtain ⟨h1, h2⟩ := hE n hn
    obtain ⟨h3, h4⟩ := h n (by rw [h2]; exact hn)
    exact ⟨h3.trans h1, h4.trans h2⟩
  have hm : ∀ {al' : Nat → Nat} {S' : xm_S}, xm_E al S al' S' → ∀ n, S.1 n ≠ none → al' n = al n := fun h n hn => (h n hn).1
  have hm2 : ∀ {al' : Nat → Nat} {S' : xm_S}, xm_E al S al' S' → ∀ n, S.1 n ≠ none → S'.1 n ≠ none := fun h n hn => by rw [(h n hn).2]; exact hn
  intro T hT X
  rcases hr T hT X with ⟨v, st₀, t, T', L9, h0, X', hL9, e1, e2, ⟨⟨al', S', r, hv, hq, hR', hE', hok⟩, hF⟩, stp⟩ | ⟨q9, st₀, t, T', L9, X9, ce, h0, X', hL9, e1, e2, ⟨⟨al', S', hq, hR', hE'⟩, hF⟩, hce, hcv, hcl, stp⟩
  · cases hv
    obtain ⟨k1, k2, k3⟩ := vx_keep h0 e1 hS (fun _ _ h => h) (fun _ h => h) hL9 hF
    have hk := kk r S' hq al' T'.heap ls (locs ++ L9) (by rw [e1]; exact hR') (hcomp hE') (by rw [xm_lv_cong (hm hE') hL]; exact hls) (fun z hz => (hL z hz).mono (hm2 hE')) (fun z hz => by
      rcases List.mem_append.mp hz with h | h
      · exact hok z (by cases r with | none => cases h | some w => cases h with | head => rfl | tail _ h => cases h)
      · exact (hst z h).mono (hm2 hE')) k3
    rw [List.map_append, xm_st_cong (hm hE') hst] at hk
    obtain ⟨t2, a1, b1⟩ := hk T' rfl X'
    refine ⟨t2, stp t2 ?_, b1⟩
    have ev : (r.map (xm_v al')).toList = r.toList.map (xm_v al') := by cases r <;> rfl
    rw [ev]
    exact a1
  · obtain ⟨k1, k2, k3⟩ := vx_keep h0 e1 hS (fun _ _ h => h) (fun _ h => h) hL9 hF
    obtain ⟨t2, a1, b1⟩ := kx X9 S' hq al' T'.heap ls (locs ++ L9) _ q9 ce (by rw [e1]; exact hR') (hcomp hE') (by rw [xm_lv_cong (hm hE') hL]; exact hls) (fun z hz => (hL z hz).mono (hm2 hE')) k3 (by rw [e1]; exact hce) hcv hcl T' rfl X'
    exact ⟨t2, stp.trans a1, b1⟩
end XC
section XR
variable {K : xm_K} {cells slots pc : Nat} {L : List (Nat × xm_V)} {st st0 : List xm_V} {S : xm_S} {cc : ByteArray} {own : String} {nl : Nat} {rt : Option FieldType} {rm : Room}
variable {y : MethodName} {code : ByteArray} {maxL idx : Nat} {ret : Option FieldType} {rm' : Room} {vs : List xm_V} {q' : Option xm_V → xm_S → Prop} {x' : String → xm_S → Prop}
theorem x_callS (C : xm_Cx K cc own nl rt rm) (M : xm_Met y code maxL ret rm' vs S q' x') (lk : xm_Lk own idx y code maxL ret vs.length) (hsta : Cond.static y ∈ xm_G) (hstk : st0 = vs.reverse ++ st) (hcs : xm_cs st ≤ 8) (hroom : rm'.frames + 1 ≤ rm.frames ∧ 8 + (maxL + 11) + rm'.locals ≤ rm.locals ∧ cells + rm'.cells ≤ rm.cells ∧ slots + rm'.slots ≤ rm.slots) (d : decode cc pc = .ok (.invokestatic idx, 3))
    (kx : ∀ X S', x' X S' → xm_T K (cells + rm'.cells) (slots + rm'.slots) pc L X S') (kk : ∀ r S', q' r S' → xm_W K (cells + rm'.cells) (slots + rm'.slots) (pc + 3) L (r.toList ++ st) S') : xm_W K cells slots pc L st0 S := by
  obtain ⟨D, E, base, al0, S0, p, l, e, R, s, m, args, below, meth, c, nL, q, x0⟩ := K
  obtain ⟨hx, hb, hown, hts, hA, hml, hnl, hrt, hrm, hlk⟩ := C
  intro al H ls locs hR hE hls hL hst hS
  subst hrm
  subst hstk
  obtain ⟨l1, l2, l3, l4⟩ := lk
  have hst1 : xm_oks S st := fun v hv => hst v (List.mem_append_right _ hv)
  have hst2 : xm_oks S vs := fun v hv => hst v (List.mem_append_left _ (List.mem_reverse.mpr hv))
  refine xm_back (vx_runS (As := vs.map (xm_v al)) (Ts := xm_G) ⟨hx, hb, hml.1, hown, hts⟩ (M l hml.2 D E base al) (va_cwS vs.length hts (xm_GI fun w hw => ?_) rfl rfl rfl l4 ⟨hroom.1, hroom.2.1⟩) ⟨xm_Pc_blind, fun U hU hW => ⟨rfl, by rw [hU]; exact hR, hA.moved hW (by rw [hU]; exact hS), hst2⟩⟩ rfl (List.length_map ..) hls.1 (by rw [List.map_append, List.map_reverse]) (lv_room (by rw [xm_cs_sum]; exact hcs)) d ⟨hroom.2.2.1, hroom.2.2.2⟩) hE hls hL hst1 hS kx kk
  rcases List.mem_append.mp hw with h | h
  · simp only [List.mem_cons, List.not_mem_nil, or_false] at h
    rcases h with rfl | rfl | rfl
    · exact l1
    · exact hsta
    · exact l2
  · rcases List.mem_cons.mp h with rfl | h
    · exact l3
    · exact h
theorem x_callV {ci n : Nat} {T : u_T} {N : Nat} {rv : Option Nat} (C : xm_Cx K cc own nl rt rm) (M : xm_Met y code maxL ret rm' (xm_r (some n) :: vs) S q' x') (lk : xm_Lk own idx y code maxL ret vs.length) (hins : Cond.instanceMethod y ∈ xm_G) (hsel : Cond.selects y.cls y y ∈ xm_G) (hci : ci < 100) (hc : vwCl[ci]? = some (y.cls, T, N)) (hrv : rv = some n) (ht : st_t S n = some (ci, 0)) (hstk : st0 = vs.reverse ++ xm_r rv :: st) (hcs : xm_cs st ≤ 8) (hroom : rm'.frames + 1 ≤ rm.frames ∧ 8 + (maxL + 11) + rm'.locals ≤ rm.locals ∧ cells + rm'.cells ≤ rm.cells ∧ slots + rm'.slots ≤ rm.slots) (d : decode cc pc = .ok (.invokevirtual idx, 3))
    (kx : ∀ X S', x' X S' → xm_T K (cells + rm'.cells) (slots + rm'.slots) pc L X S') (kk : ∀ r S', q' r S' → xm_W K (cells + rm'.cells) (slots + rm'.slots) (pc + 3) L (r.toList ++ st) S') : xm_W K cells slots pc L st0 S := by
  obtain ⟨D, E, base, al0, S0, p, l, e, R, s, m, args, below, meth, c, nL, q, x0⟩ := K
  obtain ⟨hx, hb, hown, hts, hA, hml, hnl, hrt, hrm, hlk⟩ := C
  intro al H ls locs hR hE hls hL hst hS
  subst hrm
  subst hstk
  subst hrv
  obtain ⟨l1, l2, l3, l4⟩ := lk
  have hst1 : xm_oks S st := fun v hv => hst v (List.mem_append_right _ (List.mem_cons_of_mem _ hv))
  have hst2 : xm_oks S (xm_r (some n) :: vs) := fun v hv => by
    rcases List.mem_cons.mp hv with rfl | hv
    · exact hst _ (List.mem_append_right _ List.mem_cons_self)
    · exact hst v (List.mem_append_left _ (List.mem_reverse.mpr hv))
  obtain ⟨cell, g1, g2, g3, -⟩ := xm_cell hR ht hci hc
  refine xm_back (vx_runV (C := y.cls) (b := al n) (As := vs.map (xm_v al)) (Ts := xm_G) ⟨hx, hb, hml.1, hown, hts⟩ (M l hml.2 D E base al) (cwV vs.length hts (xm_GI fun w hw => ?_) rfl rfl rfl ⟨rfl, l4⟩ ⟨hroom.1, hroom.2.1⟩) ⟨xm_Pc_blind, ⟨cell, g1, by rw [g3]; rfl, by rw [g2]; exact (hA.1.1 ci _ hc).2.1⟩, fun U hU hW => ⟨rfl, by rw [hU]; exact hR, hA.moved hW (by rw [hU]; exact hS), hst2⟩⟩ rfl (List.length_map ..) hls.1 (by rw [List.map_append, List.map_reverse]; rfl) (lv_room (by rw [xm_cs_sum]; exact hcs)) d ⟨hroom.2.2.1, hroom.2.2.2⟩) hE hls hL hst1 hS kx kk
  rcases List.mem_append.mp hw with h | h
  · simp only [List.mem_cons, List.not_mem_nil, or_false] at h
    rcases h with rfl | rfl | rfl | rfl
    · exact l1
    · exact hins
    · exact hsel
    · exact l2
  · rcases List.mem_cons.mp h with rfl | h
    · exact l3
    · exact h
theorem x_callI {n : Nat} {rv : Option Nat} (C : xm_Cx K cc own nl rt rm) (M : xm_Met y code maxL none rm' (xm_r (some n) :: vs) S q' x') (lk : xm_Lk own idx y code maxL none vs.length) (hins : Cond.instanceMethod y ∈ xm_G) (hy1 : y.name = "<init>") (hrv : rv = some n) (hstk : st0 = vs.reverse ++ xm_r rv :: st) (hcs : xm_cs st ≤ 8) (hroom : rm'.frames + 1 ≤ rm.frames ∧ 8 + (maxL + 11) + rm'.locals ≤ rm.locals ∧ cells + rm'.cells ≤ rm.cells ∧ slots + rm'.slots ≤ rm.slots) (d : decode cc pc = .ok (.invokespecial idx, 3))
    (kx : ∀ X S', x' X S' → xm_T K (cells + rm'.cells) (slots + rm'.slots) pc L X S') (kk : ∀ r S', q' r S' → xm_W K (cells + rm'.cells) (slots + rm'.slots) (pc + 3) L (r.toList ++ st) S') : xm_W K cells slots pc L st0 S := by
  obtain ⟨D, E, base, al0, S0, p, l, e, R, s, m, args, below, meth, c, nL, q, x0⟩ := K
  obtain ⟨hx, hb, hown, hts, hA, hml, hnl, hrt, hrm, hlk⟩ := C
  intro al H ls locs hR hE hls hL hst hS
  subst hrm
  subst hstk
  subst hrv
  obtain ⟨l1, l2, l3, l4⟩ := lk
  have hst1 : xm_oks S st := fun v hv => hst v (List.mem_append_right _ (List.mem_cons_of_mem _ hv))
  have hst2 : xm_oks S (xm_r (some n) :: vs) := fun v hv => by
    rcases List.mem_cons.mp hv with rfl | hv
    · exact hst _ (List.mem_append_right _ List.mem_cons_self)
    · exact hst v (List.mem_append_left _ (List.mem_reverse.mpr hv))
  exact xm_back (vx_runI (b := al n) (As := vs.map (xm_v al)) (Ts := xm_G) ⟨hx, hb, hml.1, hown, hts⟩ (M l hml.2 D E base al) (cwI vs.length hts (xm_GI fun w hw => (List.mem_cons.mp hw).elim (fun h => h ▸ l3) id) rfl rfl rfl (hts _ l2) (hts _ l1) (hts _ hins) hy1 l4 ⟨hroom.1, hroom.2.1⟩) ⟨xm_Pc_blind, fun U hU hW => ⟨rfl, by rw [hU]; exact hR, hA.moved hW (by rw [hU]; exact hS), hst2⟩⟩ rfl (List.length_map ..) hls.1 (by rw [List.map_append, List.map_reverse]; rfl) (lv_room (by rw [xm_cs_sum]; exact hcs)) d ⟨hroom.2.2.1, hroom.2.2.2⟩) hE hls hL hst1 hS kx kk
/-- a private constructor of a nest mate -/
theorem x_callIN {n : Nat} {rv : Option Nat} (host : String) (C : xm_Cx K cc own nl rt rm) (M : xm_Met y code maxL none rm' (xm_r (some n) :: vs) S q' x') (hnest : (own, idx, y, host) ∈ xm_nest) (hini : Cond.initialized y.cls ∈ xm_G) (hcode : Cond.code y code maxL none ∈ xm_G) (hd : y.cls ≠ "java/lang/invoke/MethodHandle" ∧ y.cls ≠ "java/lang/invoke/VarHandle" ∧ (parseMethodDescriptor y.desc).map (fun d => d.parameters.length) = some vs.length) (hins : Cond.instanceMethod y ∈ xm_G) (hy1 : y.name = "<init>") (hrv : rv = some n) (hstk : st0 = vs.reverse ++ xm_r rv :: st) (hcs : xm_cs st ≤ 8) (hroom : rm'.frames + 1 ≤ rm.frames ∧ 8 + (maxL + 11) + rm'.locals ≤ rm.locals ∧ cells + rm'.cells ≤ rm.cells ∧ slots + rm'.slots ≤ rm.slots) (d : decode cc pc = .ok (.invokespecial idx, 3))
    (kx : ∀ X S', x' X S' → xm_T K (cells + rm'.cells) (slots + rm'.slots) pc L X S') (kk : ∀ r S', q' r S' → xm_W K (cells + rm'.cells) (slots + rm'.slots) (pc + 3) L (r.toList ++ st) S') : xm_W K cells slots pc L st0 S := by
  obtain ⟨D, E, base, al0, S0, p, l, e, R, s, m, args, below, meth, c, nL, q, x0⟩ := K
  obtain ⟨hx, hb, hown, hts, hA, hml, hnl, hrt, hrm, hlk⟩ := C
  intro al H ls locs hR hE hls hL hst hS
  subst hrm
  subst hstk
  subst hrv
  have hst1 : xm_oks S st := fun v hv => hst v (List.mem_append_right _ (List.mem_cons_of_mem _ hv))
  have hst2 : xm_oks S (xm_r (some n) :: vs) := fun v hv => by
    rcases List.mem_cons.mp hv with rfl | hv
    · exact hst _ (List.mem_append_right _ List.mem_cons_self)
    · exact hst v (List.mem_append_left _ (List.mem_reverse.mpr hv))
  exact xm_back (vx_runIN (host := host) (b := al n) (As := vs.map (xm_v al)) (Ts := xm_G) ⟨hx, hb, hml.1, hown, hts⟩ (M l hml.2 D E base al) ⟨va_cnB vs.length hts (xm_GI fun w hw => (List.mem_cons.mp hw).elim (fun h => h ▸ hcode) id) rfl rfl rfl (hA.2.2.2.2.1 _ hnest) (hts _ hini) hd ⟨hroom.1, hroom.2.1⟩, hy1, hts _ hins⟩ ⟨xm_Pc_blind, fun U hU hW => ⟨rfl, by rw [hU]; exact hR, hA.moved hW (by rw [hU]; exact hS), hst2⟩⟩ rfl (List.length_map ..) hls.1 (by rw [List.map_append, List.map_reverse]; rfl) (lv_room (by rw [xm_cs_sum]; exact hcs)) d ⟨hroom.2.2.1, hroom.2.2.2⟩) hE hls hL hst1 hS kx kk
theorem x_objInit {r : Option Nat} {n : Nat} (C : xm_Cx K cc own nl rt rm) (hr : r = some n) (hw : Cond.methodLink own idx objectInit ∈ xm_G) (hcs : xm_cs st ≤ 8) (h1 : 1 ≤ rm.frames) (h2 : 20 ≤ rm.locals) (d : decode cc pc = .ok (.invokespecial idx, 3)) (hi : Cond.instanceMethod objectInit ∈ xm_G) (hco : Cond.code objectInit ⟨#[0xb1]⟩ 1 none ∈ xm_G) (kk : xm_W K cells slots (pc + 3) L st S) : xm_W K cells slots pc L (xm_r r :: st) S := by
  obtain ⟨D, E, base, al0, S0, p, l, e, R, s, m, args, below, meth, c, nL, q, x0⟩ := K
  obtain ⟨hx, hb, hown, hts, hA, hml, hnl, hrt, hrm, hlk⟩ := C
  intro al H ls locs hR hE hls hL hst hS
  subst hrm
  subst hr
  refine W.objInit (rest := st.map (xm_v al)) hx hb hown (hts _ hw) (hts _ hi) (hts _ hco) rfl (by rw [hml.1]; exact hls.1) rfl d h1 ?_ (kk al H ls locs hR hE hls hL (xm_oks_t hst) hS)
  show 2 * 0 + _ + 12 ≤ _
  rw [xm_cs_sum]
  omega
abbrev xm_names : List String := ["java/lang/RuntimeException", "java/lang/Exception"]
theorem x_throw {ik is ic : Nat} {X text : String} (C : xm_Cx K cc RX11 nl rt rm) (N : xm_Nx K) (hX : X ∈ xm_es) (hcls : Bundle.fit X = true) (hk : Cond.classLink RX11 ik X ∈ xm_G) (hini : Cond.initialized X ∈ xm_G) (hstr : (is, text) ∈ xm_strs) (hat : ∀ w ∈ (vx_atS RX11 ic X xm_names).filter goodWord, w ∈ xm_G) (hno : ∀ w ∈ (vx_atS RX11 ic X xm_names).filter (fun w => !goodWord w), w ∈ Cond.castable X X :: xm_ds.map (fun Y => Cond.declares (Bundle.initS Y))) (hgood : ∀ w ∈ Cond.classLink RX11 ik X :: Cond.initialized X :: vx_atS RX11 ic X xm_names, vx_ot w = true)
    (hcs : xm_cs st ≤ 8) (hroom : 6 ≤ rm.frames ∧ 100 ≤ rm.locals ∧ cells + 1 ≤ rm.cells ∧ slots + 6 ≤ rm.slots) (d0 : decode cc pc = .ok (.new ik, 3)) (d3 : decode cc (pc + 3) = .ok (.dup, 1)) (hd : (decode cc (pc + 4) = .ok (.ldc is, 2) ∧ decode cc (pc + 6) = .ok (.invokespecial ic, 3) ∧ decode cc (pc + 9) = .ok (.athrow, 1)) ∨ (decode cc (pc + 4) = .ok (.ldc_w is, 3) ∧ decode cc (pc + 7) = .ok (.invokespecial ic, 3) ∧ decode cc (pc + 10) = .ok (.athrow, 1)))
    (hq : xm_x K X S) : xm_W K cells slots pc L st S := by
  obtain ⟨D, E, base, al0, S0, p, l, e, R, s, m, args, below, meth, c, nL, q, x0⟩ := K
  obtain ⟨hx, hb, hown, hts, hA, hml, hnl, hrt, hrm, hlk⟩ := C
  intro al H ls locs hR hE hls hL hst hS
  subst hrm
  obtain ⟨-, -, b3, -, b5, b6, b7⟩ := hA.2.2.2
  obtain ⟨sa, hsa⟩ := b5 _ hstr
  have hcast : ∀ w ∈ Cond.castable X X :: xm_ds.map (fun Y => Cond.declares (Bundle.initS Y)), w.before args s = true := fun w hw => by
    rcases List.mem_cons.mp hw with rfl | hw
    · exact va_Nw.use rfl (b3.1 X hX)
    · obtain ⟨Y, hY, rfl⟩ := List.mem_map.mp hw
      exact va_Nw.use rfl (b3.2 Y hY)
  have hat' : ∀ w ∈ vx_atS RX11 ic X xm_names, w.before args s = true := vx_hat (fun w hw => hts w (hat w hw)) hno hcast
  have hend : ∀ t : State, s.vm.Alike t.vm → H.size ≤ t.heap.size → (∀ q : Nat, q < H.size → t.heap[q]? = H[q]?) → xm_Xc D E base al0 S0 x0 X s t := fun t _ hz ho => by
    refine ⟨⟨al, S, hq, ⟨fun n sh hn => ?_, hR.2.1, hR.2.2⟩, hE⟩, ⟨Nat.le_trans hS.1 hz, fun a h1 h2 => (ho a (Nat.lt_of_lt_of_le h1 hS.1)).trans (hS.2.1 a h1 h2)⟩⟩
    exact ⟨(hR.1 n sh hn).1.cong rfl (ho _ (hR.lt (by rw [hn]; exact fun z => by cases z))) (fun _ => rfl) (fun _ => rfl) (fun _ => rfl), (hR.1 n sh hn).2⟩
  have hcat : ((st.map (xm_v al)).map fun v => v.category).sum + (13 * (xm_names.length + 1) + 43) ≤ R.locals := by
    rw [xm_cs_sum]
    show xm_cs st + (13 * 3 + 43) ≤ _
    omega
  rcases hd with ⟨d4, d6, d9⟩ | ⟨d4, d6, d9⟩
  · exact vx_throwS hx hb hml.2 hown hcls (by decide +kernel) (hts _ hk) (hts _ hini) hsa hat' hgood b6 b7 hS (by rw [hls.1, hml.1]) d0 d3 d4 d6 d9 (fun z hz => (N z hz).elim) (by show 2 + 3 < _; omega) hcat hroom.2.2.1 hroom.2.2.2 hlk hend hS.2.2 hroom.2.2.1 hroom.2.2.2
  · exact vx_throwSW hx hb hml.2 hown hcls (by decide +kernel) (hts _ hk) (hts _ hini) hsa hat' hgood b6 b7 hS (by rw [hls.1, hml.1]) d0 d3 d4 d6 d9 (fun z hz => (N z hz).elim) (by show 2 + 3 < _; omega) hcat hroom.2.2.1 hroom.2.2.2 hlk hend hS.2.2 hroom.2.2.1 hroom.2.2.2
end XR
section XH
variable {K : xm_K} {cells slots pc : Nat} {L : List (Nat × xm_V)} {st : List xm_V} {S : xm_S} {cc : ByteArray} {own : String} {nl : Nat} {rt : Option FieldType} {rm : Room}
/-- the method's handlers -/
def xm_Hx (K : xm_K) (hh : List (Nat × Nat × Nat × Nat)) : Prop := match K with
  | (_, _, _, _, _, _, _, _, _, _, _, _, _, _, c, _, _, _) => c.exceptionTable.toList = tableOf hh
theorem x_catch {hh pre suf : List (Nat × Nat × Nat × Nat)} {a b hp ct : Nat} {X : String} (C : xm_Cx K cc own nl rt rm) (hH : xm_Hx K hh) (hX : X ∈ xm_es) (hs : hh = pre ++ (a, b, hp, ct) :: suf) (hpre : ∀ z ∈ pre, z.2.2.2 ≠ 0 ∧ ∃ Y ∈ xm_es, X ≠ Y ∧ Cond.classLink own z.2.2.2 Y ∈ xm_G) (hcov : covers ({ startPc := a, endPc := b, handlerPc := hp, catchType := ct } : ExceptionTableEntry) pc = true) (hct : ct ≠ 0) (hl : Cond.classLink own ct X ∈ xm_G)
    (kk : ∀ q9 : Nat, xm_W K cells slots hp L [xm_w0 q9] S) : xm_T K cells slots pc L X S := by
  obtain ⟨D, E, base, al0, S0, p, l, e, R, s, m, args, below, meth, c, nL, q, x0⟩ := K
  obtain ⟨hx, hb, hown, hts, hA, hml, hnl, hrt, hrm, hlk⟩ := C
  intro al H ls locs rest q9 ce hR hE hls hL hS hc hv hcl
  obtain ⟨-, -, b3, b4, -⟩ := hA.2.2.2
  refine vx_catch hown (tableOf pre) { startPc := a, endPc := b, handlerPc := hp, catchType := ct } (tableOf suf) ?_ (fun z hz => ?_) hcov hct (hts _ hl) (va_Nw.use rfl (b3.1 X hX)) hc hv hcl (kk q9 al H ls locs hR hE hls hL (xm_oks_c xm_ok_w (fun v hv => by cases hv)) hS)
  · rw [show c.exceptionTable.toList = tableOf hh from hH, hs]
    simp [tableOf]
  · obtain ⟨w, hw, rfl⟩ := List.mem_map.mp hz
    obtain ⟨h0, Y, hY, hn, hlY⟩ := hpre w hw
    exact Or.inr ⟨h0, Y, hts _ hlY, b4 X hX Y hY hn⟩
theorem x_astore_w {i : Nat} {x : Nat} {L' : List (Nat × xm_V)} (C : xm_Cx K cc own nl rt rm) (d : decode cc pc = .ok (.astore i, 2)) (hn : i < nl) (hl : (i, xm_w0 x) :: xm_drop i L = L') (kk : xm_W K cells slots (pc + 2) L' st S) : xm_W K cells slots pc L (xm_w0 x :: st) S := by
  obtain ⟨D, E, base, al0, S0, p, l, e, R, s, m, args, below, meth, c, nL, q, x0⟩ := K
  obtain ⟨hx, hb, hown, hts, hA, hml, hnl, hrt, hrm, hlk⟩ := C
  intro al H ls locs hR hE hls hL hst hS
  subst hnl
  exact lv_astore hx hb d hls hn (xm_lv_drop hl) (fun ls hls => kk al H ls locs hR hE hls (xm_okl_drop hl xm_ok_w hL) (xm_oks_t hst) hS)
theorem x_astore_n_w {j : Fin 4} {i : Nat} {x : Nat} {L' : List (Nat × xm_V)} (C : xm_Cx K cc own nl rt rm) (d : decode cc pc = .ok (.astore_n j, 1)) (hj : (j : Nat) = i) (hn : i < nl) (hl : (i, xm_w0 x) :: xm_drop i L = L') (kk : xm_W K cells slots (pc + 1) L' st S) : xm_W K cells slots pc L (xm_w0 x :: st) S := by
  obtain ⟨D, E, base, al0, S0, p, l, e, R, s, m, args, below, meth, c, nL, q, x0⟩ := K
  obtain ⟨hx, hb, hown, hts, hA, hml, hnl, hrt, hrm, hlk⟩ := C
  intro al H ls locs hR hE hls hL hst hS
  subst hnl
  exact lv_astore_n hx hb d hj hls hn (xm_lv_drop hl) (fun ls hls => kk al H ls locs hR hE hls (xm_okl_drop hl xm_ok_w hL) (xm_oks_t hst) hS)
theorem x_aload_n_w {j : Fin 4} {i : Nat} {x : Nat} (C : xm_Cx K cc own nl rt rm) (k : Nat) (d : decode cc pc = .ok (.aload_n j, 1)) (hj : (j : Nat) = i) (hl : L[k]? = some (i, xm_w0 x)) (kk : xm_W K cells slots (pc + 1) L (xm_w0 x :: st) S) : xm_W K cells slots pc L st S := by
  obtain ⟨D, E, base, al0, S0, p, l, e, R, s, m, args, below, meth, c, nL, q, x0⟩ := K
  obtain ⟨hx, hb, hown, hts, hA, hml, hnl, hrt, hrm, hlk⟩ := C
  intro al H ls locs hR hE hls hL hst hS
  exact lv_aload_n hx hb d hj (xm_at hls k hl) (kk al H ls locs hR hE hls hL (xm_oks_c xm_ok_w hst) hS)
/-- the script: L ints xs at the cell b, which nobody writes -/
def xm_Sc (K : xm_K) (b len : Nat) (xs : Nat → Int32) : Prop := match K with
  | (_, _, base, _, _, _, _, _, _, s, _, _, _, _, _, _, _, _) => va_X b len xs s s.heap ∧ b < s.heap.size ∧ ¬ base ≤ b
theorem x_sald {b len : Nat} {xs : Nat → Int32} {i : Int32} (C : xm_Cx K cc own nl rt rm) (hX : xm_Sc K b len xs) (hin : vp_in i len) (d : decode cc pc = .ok (.iaload, 1)) (kk : xm_W K cells slots (pc + 1) L (xm_i (xs i.toNatClampNeg) :: st) S) : xm_W K cells slots pc L (xm_i i :: xm_w0 b :: st) S := by
  obtain ⟨D, E, base, al0, S0, p, l, e, R, s, m, args, below, meth, c, nL, q, x0⟩ := K
  obtain ⟨hx, hb, hown, hts, hA, hml, hnl, hrt, hrm, hlk⟩ := C
  obtain ⟨h1, h2, h3⟩ := hX
  intro al H ls locs hR hE hls hL hst hS
  exact va_sld hx hb h1 h2 h3 hS hin d (kk al H ls locs hR hE hls hL (xm_oks_i (xm_oks_t (xm_oks_t hst))) hS)
theorem x_slen {b len : Nat} {xs : Nat → Int32} (C : xm_Cx K cc own nl rt rm) (hX : xm_Sc K b len xs) (d : decode cc pc = .ok (.arraylength, 1)) (kk : xm_W K cells slots (pc + 1) L (xm_i (nI len) :: st) S) : xm_W K cells slots pc L (xm_w0 b :: st) S := by
  obtain ⟨D, E, base, al0, S0, p, l, e, R, s, m, args, below, meth, c, nL, q, x0⟩ := K
  obtain ⟨hx, hb, hown, hts, hA, hml, hnl, hrt, hrm, hlk⟩ := C
  obtain ⟨h1, h2, h3⟩ := hX
  intro al H ls locs hR hE hls hL hst hS
  exact va_slen hx hb h1 h2 h3 hS d (kk al H ls locs hR hE hls hL (xm_oks_i (xm_oks_t hst)) hS)
theorem x_tsw {dflt hi : Int} {offs : Array Int} {len : Nat} {x : Int32} (C : xm_Cx K cc own nl rt rm) (d : decode cc pc = .ok (.tableswitch dflt 0 hi offs, len)) (hx0 : 0 ≤ x.toInt) (kin : ∀ (k : Nat) (off : Int) (tgt : Nat), x = nI k → (k : Int) ≤ hi → k < 1000 → offs[k]? = some off → (pc : Int) + off = (tgt : Int) → xm_W K cells slots tgt L st S) (hoff : ∀ k : Nat, (k : Int) ≤ hi → ∃ off, offs[k]? = some off ∧ 0 ≤ (pc : Int) + off) (hhi : hi < 1000) (kout : ∀ tgt : Nat, hi < x.toInt → (pc : Int) + dflt = (tgt : Int) → xm_W K cells slots tgt L st S) (hd0 : 0 ≤ (pc : Int) + dflt) : xm_W K cells slots pc L (xm_i x :: st) S := by
  obtain ⟨D, E, base, al0, S0, p, l, e, R, s, m, args, below, meth, c, nL, q, x0⟩ := K
  obtain ⟨hx, hb, hown, hts, hA, hml, hnl, hrt, hrm, hlk⟩ := C
  intro al H ls locs hR hE hls hL hst hS
  by_cases h : hi < x.toInt
  · exact lv_tableOut hx hb d (Or.inr h) (tgt := ((pc : Int) + dflt).toNat) (by omega) (kout ((pc : Int) + dflt).toNat h (by omega) al H ls locs hR hE hls hL (xm_oks_t hst) hS)
  · obtain ⟨off, ho, h0⟩ := hoff x.toInt.toNat (by omega)
    have hxk : x = nI x.toInt.toNat := by
      apply Int32.toInt_inj.mp
      rw [nI_toInt (by omega)]
      omega
    exact lv_tableIn hx hb d (by omega) h (off := off) (tgt := ((pc : Int) + off).toNat) (by rw [Int.sub_zero]; exact ho) (by omega) (kin x.toInt.toNat off ((pc : Int) + off).toNat hxk (by omega) (by omega) ho (by omega) al H ls locs hR hE hls hL (xm_oks_t hst) hS)
end XH
section XL
variable {K : xm_K} {cells slots pc : Nat} {L : List (Nat × xm_V)} {st st0 : List xm_V} {S : xm_S} {cc : ByteArray} {own : String} {nl : Nat} {rt : Option FieldType} {rm : Room}
variable {y : MethodName} {code : ByteArray} {maxL idx : Nat} {ret : Option FieldType} {rm' : Room} {vs : List xm_V} {q' : Option xm_V → xm_S → Prop} {x' : String → xm_S → Prop} {hh : List (Nat × Nat × Nat × Nat)}
theorem x_tswT {dflt : Int} {offs : Array Int} {len n dt : Nat} {T : List Nat} {x : Int32} (C : xm_Cx K cc own nl rt rm) (d : decode cc pc = .ok (.tableswitch dflt 0 n offs, len)) (hx0 : 0 ≤ x.toInt) (hT : (List.range (n + 1)).all (fun k => offs[k]? == some ((T.getD k 0 : Int) - (pc : Int))) = true) (hn : n < 999) (hd : (pc : Int) + dflt = (dt : Int))
    (kin : ∀ k : Nat, k < n + 1 → x = nI k → xm_W K cells slots (T.getD k 0) L st S) (kout : (n : Int) < x.toInt → xm_W K cells slots dt L st S) : xm_W K cells slots pc L (xm_i x :: st) S := by
  have key : ∀ k : Nat, k < n + 1 → offs[k]? = some ((T.getD k 0 : Int) - (pc : Int)) := fun k hk => by
    have := List.all_eq_true.mp hT k (List.mem_range.mpr hk)
    exact eq_of_beq this
  refine x_tsw C d hx0 (fun k off tgt hk h1 h2 ho ht => ?_) (fun k hk => ⟨_, key k (by omega), by omega⟩) (by omega) (fun tgt h ht => ?_) (by omega)
  · have e := Option.some.inj (ho.symm.trans (key k (by omega)))
    have e2 : tgt = T.getD k 0 := by omega
    rw [e2]
    exact kin k (by omega) hk
  · have e2 : tgt = dt := by omega
    rw [e2]
    exact kout h
/-- the contract of a method with handlers of its own -/
def xm_MetH (y : MethodName) (code : ByteArray) (maxL : Nat) (ret : Option FieldType) (hh : List (Nat × Nat × Nat × Nat)) (rm : Room) (vs : List xm_V) (S : xm_S) (q : Option xm_V → xm_S → Prop) (x : String → xm_S → Prop) : Prop :=
  ∀ (l : Launch), l.stackTraces = false → ∀ (D : va_G) (E : Nat → ClassId) (base : Nat) (al : Nat → Nat), vx_Met l y (Cond.codeWith y code maxL ret hh :: xm_G) rm (xm_Pc D E base al S vs) (xm_Qc D E base al S q) (xm_Xc D E base al S x) rm.cells rm.slots (fun a => base ≤ a)
theorem xm_ofWH {q : Option xm_V → xm_S → Prop} {x : String → xm_S → Prop} (own : String) (hy : plainName y.cls = true) (hyc : y.cls = own) (hlen : xm_cs vs ≤ maxL)
    (body : ∀ K : xm_K, xm_Cx K code own maxL ret rm → xm_Hx K hh → xm_q K = q → xm_x K = x → xm_W K 0 0 0 (xm_a0 0 vs) [] S) : xm_MetH y code maxL ret hh rm vs S q x := by
  intro l hl D E base al
  refine vx_ofWH hy rfl ?_
  intro p e s m args below meth c s₁ B hml hP
  obtain ⟨rfl, hR, hA, hok⟩ := hP
  have hts := atoms_spec (ws := Cond.codeWith y code maxL ret hh :: xm_G) B.pre
  have hown : s.vm.findClass own = some m.cls := hyc ▸ findClass_of_methodNamed B.named
  have htab := vx_table (x := y) B (hts _ List.mem_cons_self)
  have hW := body (D, E, base, al, S, p, l, e, (headSpec (Cond.codeWith y code maxL ret hh :: xm_G) rm).room, s, m, (vs.map (xm_v al)).toArray, below, meth, c, maxL, q, x) ⟨B.exec, B.bytes, hown, fun w hw => hts w (List.mem_cons_of_mem _ hw), hA, ⟨hml, hl⟩, rfl, B.returns, rfl, B.notSynchronized⟩ htab rfl rfl
  rw [lg_entry_eq]
  have he := lv_entry (vs.map (xm_v al)) (n := maxL) (by rw [xm_cs_len]; exact hlen)
  rw [xm_a0_args] at he
  exact hW al s.heap _ [] hR (fun n _ => ⟨rfl, rfl⟩) he (xm_a0_ok hok) (fun v hv => by cases hv) va_S.rf
theorem x_callSH (C : xm_Cx K cc own nl rt rm) (M : xm_MetH y code maxL ret hh rm' vs S q' x') (l1 : Cond.methodLink own idx y ∈ xm_G) (l2 : Cond.initialized y.cls ∈ xm_G) (l3 : Cond.codeWith y code maxL ret hh ∈ xm_G) (l4 : y.cls ≠ "java/lang/invoke/MethodHandle" ∧ y.cls ≠ "java/lang/invoke/VarHandle" ∧ (parseMethodDescriptor y.desc).map (fun d => d.parameters.length) = some vs.length) (hsta : Cond.static y ∈ xm_G) (hstk : st0 = vs.reverse ++ st) (hcs : xm_cs st ≤ 8) (hroom : rm'.frames + 1 ≤ rm.frames ∧ 8 + (maxL + 11) + rm'.locals ≤ rm.locals ∧ cells + rm'.cells ≤ rm.cells ∧ slots + rm'.slots ≤ rm.slots) (d : decode cc pc = .ok (.invokestatic idx, 3))
    (kx : ∀ X S', x' X S' → xm_T K (cells + rm'.cells) (slots + rm'.slots) pc L X S') (kk : ∀ r S', q' r S' → xm_W K (cells + rm'.cells) (slots + rm'.slots) (pc + 3) L (r.toList ++ st) S') : xm_W K cells slots pc L st0 S := by
  obtain ⟨D, E, base, al0, S0, p, l, e, R, s, m, args, below, meth, c, nL, q, x0⟩ := K
  obtain ⟨hx, hb, hown, hts, hA, hml, hnl, hrt, hrm, hlk⟩ := C
  intro al H ls locs hR hE hls hL hst hS
  subst hrm
  subst hstk
  have hst1 : xm_oks S st := fun v hv => hst v (List.mem_append_right _ hv)
  have hst2 : xm_oks S vs := fun v hv => hst v (List.mem_append_left _ (List.mem_reverse.mpr hv))
  refine xm_back (vx_runSX (As := vs.map (xm_v al)) (Ts := xm_G) ⟨hx, hb, hml.1, hown, hts⟩ (M l hml.2 D E base al) (vx_cwSW vs.length hts (xm_GI fun w hw => ?_) rfl rfl rfl l4 ⟨hroom.1, hroom.2.1⟩) ⟨xm_Pc_blind, fun U hU hW => ⟨rfl, by rw [hU]; exact hR, hA.moved hW (by rw [hU]; exact hS), hst2⟩⟩ rfl (List.length_map ..) hls.1 (by rw [List.map_append, List.map_reverse]) (lv_room (by rw [xm_cs_sum]; exact hcs)) d ⟨hroom.2.2.1, hroom.2.2.2⟩) hE hls hL hst1 hS kx kk
  rcases List.mem_append.mp hw with h | h
  · simp only [List.mem_cons, List.not_mem_nil, or_false] at h
    rcases h with rfl | rfl | rfl
    · exact l1
    · exact hsta
    · exact l2
  · rcases List.mem_cons.mp h with rfl | h
    · exact l3
    · exact h
end XL
