/-! THE ABSTRACT MACHINE. Objects and arrays have NAMES (numbers that the proof chooses), a map al gives each its address.
A store S says of each name its shape (kind, length), its ints, its references (names), its longs. xm_W: from this frame, with this store, the machine comes to the method's end as wanted. Every row below turns xm_W at an instruction into xm_W at the next. -/
abbrev xm_V : Type := Int32 ⊕ (Int64 ⊕ (Option Nat ⊕ Nat))
abbrev xm_i (x : Int32) : xm_V := .inl x
abbrev xm_l (x : Int64) : xm_V := .inr (.inl x)
abbrev xm_r (x : Option Nat) : xm_V := .inr (.inr (.inl x))
/-- a bare address: of a cell that has no name (the script, an exception) -/
abbrev xm_w0 (x : Nat) : xm_V := .inr (.inr (.inr x))
def xm_v (al : Nat → Nat) (v : xm_V) : Value := match v with
  | .inl x => .int x
  | .inr (.inl y) => .long y
  | .inr (.inr (.inl none)) => .null
  | .inr (.inr (.inl (some n))) => .ref (al n)
  | .inr (.inr (.inr a)) => .ref a
abbrev xm_S : Type := (Nat → Option (Nat × Nat)) × (Nat → Nat → Int32) × (Nat → Nat → Option Nat) × (Nat → Nat → Int64)
def st_t (S : xm_S) (n : Nat) : Option (Nat × Nat) := S.1 n
def st_i (S : xm_S) (n k : Nat) : Int32 := S.2.1 n k
def st_r (S : xm_S) (n k : Nat) : Option Nat := S.2.2.1 n k
def st_l (S : xm_S) (n k : Nat) : Int64 := S.2.2.2 n k
def st_pi (S : xm_S) (n k : Nat) (v : Int32) : xm_S := (S.1, fun m j => if m = n ∧ j = k then v else S.2.1 m j, S.2.2.1, S.2.2.2)
def st_pr (S : xm_S) (n k : Nat) (v : Option Nat) : xm_S := (S.1, S.2.1, fun m j => if m = n ∧ j = k then v else S.2.2.1 m j, S.2.2.2)
def st_pl (S : xm_S) (n k : Nat) (v : Int64) : xm_S := (S.1, S.2.1, S.2.2.1, fun m j => if m = n ∧ j = k then v else S.2.2.2 m j)
def st_nw (S : xm_S) (n : Nat) (sh : Nat × Nat) : xm_S := (fun m => if m = n then some sh else S.1 m, fun m j => if m = n then 0 else S.2.1 m j, fun m j => if m = n then none else S.2.2.1 m j, fun m j => if m = n then 0 else S.2.2.2 m j)

theorem st_t_pi (S : xm_S) (n k : Nat) (v : Int32) (m : Nat) : st_t (st_pi S n k v) m = st_t S m := rfl
theorem st_i_pi (S : xm_S) (n k : Nat) (v : Int32) (m j : Nat) : st_i (st_pi S n k v) m j = if m = n ∧ j = k then v else st_i S m j := rfl
theorem st_i_pi_s (S : xm_S) (n k : Nat) (v : Int32) : st_i (st_pi S n k v) n k = v := by rw [st_i_pi, if_pos ⟨rfl, rfl⟩]
theorem st_i_pi_n (S : xm_S) (n k : Nat) (v : Int32) (m j : Nat) (h : ¬ (m = n ∧ j = k)) : st_i (st_pi S n k v) m j = st_i S m j := by rw [st_i_pi, if_neg h]
theorem st_r_pi (S : xm_S) (n k : Nat) (v : Int32) (m j : Nat) : st_r (st_pi S n k v) m j = st_r S m j := rfl
theorem st_l_pi (S : xm_S) (n k : Nat) (v : Int32) (m j : Nat) : st_l (st_pi S n k v) m j = st_l S m j := rfl
theorem st_t_pr (S : xm_S) (n k : Nat) (v : Option Nat) (m : Nat) : st_t (st_pr S n k v) m = st_t S m := rfl
theorem st_i_pr (S : xm_S) (n k : Nat) (v : Option Nat) (m j : Nat) : st_i (st_pr S n k v) m j = st_i S m j := rfl
theorem st_r_pr (S : xm_S) (n k : Nat) (v : Option Nat) (m j : Nat) : st_r (st_pr S n k v) m j = if m = n ∧ j = k then v else st_r S m j := rfl
theorem st_r_pr_s (S : xm_S) (n k : Nat) (v : Option Nat) : st_r (st_pr S n k v) n k = v := by rw [st_r_pr, if_pos ⟨rfl, rfl⟩]
theorem st_r_pr_n (S : xm_S) (n k : Nat) (v : Option Nat) (m j : Nat) (h : ¬ (m = n ∧ j = k)) : st_r (st_pr S n k v) m j = st_r S m j := by rw [st_r_pr, if_neg h]
theorem st_l_pr (S : xm_S) (n k : Nat) (v : Option Nat) (m j : Nat) : st_l (st_pr S n k v) m j = st_l S m j := rfl
theorem st_t_pl (S : xm_S) (n k : Nat) (v : Int64) (m : Nat) : st_t (st_pl S n k v) m = st_t S m := rfl
theorem st_i_pl (S : xm_S) (n k : Nat) (v : Int64) (m j : Nat) : st_i (st_pl S n k v) m j = st_i S m j := rfl
theorem st_r_pl (S : xm_S) (n k : Nat) (v : Int64) (m j : Nat) : st_r (st_pl S n k v) m j = st_r S m j := rfl
theorem st_l_pl (S : xm_S) (n k : Nat) (v : Int64) (m j : Nat) : st_l (st_pl S n k v) m j = if m = n ∧ j = k then v else st_l S m j := rfl
theorem st_l_pl_s (S : xm_S) (n k : Nat) (v : Int64) : st_l (st_pl S n k v) n k = v := by rw [st_l_pl, if_pos ⟨rfl, rfl⟩]
theorem st_l_pl_n (S : xm_S) (n k : Nat) (v : Int64) (m j : Nat) (h : ¬ (m = n ∧ j = k)) : st_l (st_pl S n k v) m j = st_l S m j := by rw [st_l_pl, if_neg h]
theorem st_t_nw (S : xm_S) (n : Nat) (sh : Nat × Nat) (m : Nat) : st_t (st_nw S n sh) m = if m = n then some sh else st_t S m := rfl
theorem st_i_nw (S : xm_S) (n : Nat) (sh : Nat × Nat) (m j : Nat) : st_i (st_nw S n sh) m j = if m = n then 0 else st_i S m j := rfl
theorem st_r_nw (S : xm_S) (n : Nat) (sh : Nat × Nat) (m j : Nat) : st_r (st_nw S n sh) m j = if m = n then none else st_r S m j := rfl
theorem st_l_nw (S : xm_S) (n : Nat) (sh : Nat × Nat) (m j : Nat) : st_l (st_nw S n sh) m j = if m = n then 0 else st_l S m j := rfl
/-- whether a field holds a reference: by class and place -/
def xm_fr (ci k : Nat) : Bool := match ci with
  | 0 => List.elem k [1]
  | 1 => List.elem k [2]
  | 2 => List.elem k [0, 1, 7, 8, 9]
  | 3 => List.elem k [0, 1, 2, 3]
  | 4 => List.elem k [1]
  | 5 => List.elem k [1]
  | 6 => List.elem k [0]
  | 7 => List.elem k [0, 1, 4, 5, 9, 10, 15]
  | 8 => List.elem k [0]
  | 9 => List.elem k [2, 3]
  | 10 => List.elem k [6, 8, 10, 11, 13, 14, 15, 17]
  | 11 => List.elem k [0, 1, 2, 5, 7, 8, 9, 10, 15, 16, 17]
  | 12 => List.elem k [1, 2, 3, 4, 5, 6, 7, 8, 9, 10, 11, 12, 13, 14, 15, 16, 17, 19, 20, 22, 23, 24, 25, 27, 28, 29, 30, 31, 32, 33, 34, 35, 40, 41, 42, 43, 44, 45, 46, 47, 48, 49, 50, 51, 57, 58, 59, 63]
  | _ => false
/-- the element types of the arrays that there are, by kind -/
def xm_ty (kd : Nat) : FieldType := match kd with
  | 100 => .int
  | 101 => .boolean
  | 102 => .char
  | 103 => .long
  | 104 => .array .int
  | 110 => .object RX0
  | 111 => .object RX1
  | 114 => .object RX4
  | 115 => .object RX5
  | 119 => .object RX9
  | 120 => .object RX10
  | _ => .int
def xm_ks : List Nat := [100, 101, 102, 103, 104, 110, 111, 114, 115, 119, 120]
def xm_fv (al : Nat → Nat) (S : xm_S) (n ci k : Nat) : Value := if xm_fr ci k = true then xm_v al (xm_r (st_r S n k)) else .int (st_i S n k)
def xm_ev (al : Nat → Nat) (S : xm_S) (n kd j : Nat) : Value := if kd = 103 then .long (st_l S n j) else if kd < 103 then .int (st_i S n j) else xm_v al (xm_r (st_r S n j))
def xm_C (D : va_G) (E : Nat → ClassId) (al : Nat → Nat) (S : xm_S) (H : Heap) (n : Nat) (sh : Nat × Nat) : Prop :=
  (sh.1 < 100 → ∃ r : vw_C, vwCl[sh.1]? = some r ∧ t_OB (al n) (D.1 sh.1) r.2.2 (D.2 sh.1) H (xm_fv al S n sh.1)) ∧ (100 ≤ sh.1 → sh.1 ∈ xm_ks ∧ H[al n]? = some (arrV (E sh.1) sh.2 (xm_ev al S n sh.1)))
def xm_R (D : va_G) (E : Nat → ClassId) (base : Nat) (al : Nat → Nat) (S : xm_S) (H : Heap) : Prop :=
  (∀ n sh, S.1 n = some sh → xm_C D E al S H n sh ∧ base ≤ al n) ∧ (∀ n m, S.1 n ≠ none → S.1 m ≠ none → al n = al m → n = m) ∧ (∀ n k m, S.1 n ≠ none → S.2.2.1 n k = some m → S.1 m ≠ none)
/-- later names, addresses: those that were there stay -/
def xm_E (al0 : Nat → Nat) (S0 : xm_S) (al : Nat → Nat) (S : xm_S) : Prop := ∀ n, S0.1 n ≠ none → al n = al0 n ∧ S.1 n = S0.1 n
def xm_ok (S : xm_S) (v : xm_V) : Prop := ∀ n, v = xm_r (some n) → S.1 n ≠ none
def xm_oks (S : xm_S) (st : List xm_V) : Prop := ∀ v ∈ st, xm_ok S v
def xm_okl (S : xm_S) (L : List (Nat × xm_V)) : Prop := ∀ q ∈ L, xm_ok S q.2
abbrev xm_lv (al : Nat → Nat) (L : List (Nat × xm_V)) : List (Nat × Value) := L.map (fun q => (q.1, xm_v al q.2))
def xm_G : List Cond := lw_tbl.filter goodWord
def xm_aos : List String := [RX0, RX1, RX4, RX5, RX9, RX10]
def xm_nest : List (String × Nat × MethodName × String) := [(RX11, 11, yX8_init, RX11), (RX11, 58, yX7_init, RX11), (RX2, 51, yX1_init, RX11), (RX11, 89, yX5_init, RX11), (RX8, 32, yX6_init, RX11)]
abbrev xm_eA : String := "java/lang/IllegalArgumentException"
abbrev xm_eS : String := "java/lang/IllegalStateException"
abbrev xm_eI : String := "java/lang/IndexOutOfBoundsException"
def xm_ds : List String := ["java/lang/RuntimeException", "java/lang/Exception", "java/lang/Throwable"]
def xm_es : List String := [xm_eA, xm_eS, xm_eI]
def xm_strs : List (Nat × String) := [(92, "n is 1 to 8"), (101, "a character is 33 to 126"), (108, "the tape has at most 40 characters"), (351, "no such package"), (126, "no such scheme"), (360, "an argument is out of range"), (366, "there is no room for one more"), (354, "no such version"), (362, "the own feature is 1, 2, 4, 8 or NONE"), (364, "the other package is its own"), (371, "the tape has a fault"), (356, "no such platform"), (235, "nothing is proposed"), (259, "the last minute is 100000"), (358, "no such mirror"), (281, "it has a file with this path"), (290, "a path is diverted to another one"), (312, "the path has nothing"), (376, "the generation is not kept")]
def xm_AO2 (U : State) : Prop := (Cond.arrayOver (.array .int)).before #[] U = true
theorem xm_AO2.moved {u U : State} (hvm : u.vm.Alike U.vm) (h : xm_AO2 u) : xm_AO2 U := by
  unfold xm_AO2 Cond.before Cond.holds at h ⊢
  simp only [Cond.value, beq_iff_eq] at h ⊢
  cases hc : u.vm.findClass (FieldType.array .int).toString with
  | none => simp [hc] at h
  | some comp =>
    simp only [hc, Option.bind_some, Option.bind_eq_some_iff, Option.map_eq_some_iff] at h
    obtain ⟨c, hi, k, hk, hb⟩ := h
    obtain ⟨k', hk', he⟩ := hvm.2.2 _ _ hk
    have hi' : (U.vm.classes.findIdx? fun (x : Class) => match x.kind with | .array component _ => component == comp | _ => false) = some c := by
      have q1 := va_idx_bare U.vm comp
      have q2 := va_idx_bare u.vm comp
      first | rw [hvm.bare_eq] at q1 | rw [← hvm.bare_eq] at q1
      exact q1.symm.trans (q2.trans hi)
    have f1 : U.vm.findClass (FieldType.array .int).toString = some comp := by rw [hvm.findClass]; exact hc
    rw [f1, Option.bind_some]
    refine (congrArg (fun o : Option Nat => (o.bind _)) hi').trans ?_
    rw [Option.bind_some, hk', Option.map_some, he, hvm.findClass]
    exact congrArg some hb
/-- what the tables say beside the words that may be handed on: arrays over classes, nest mates, exceptions, texts -/
def xm_B (base : Nat) (s : State) : Prop :=
  ((∀ C ∈ xm_aos, va_AO C s) ∧ xm_AO2 s) ∧ (∀ w ∈ xm_nest, va_Nw (.methodLinkNest w.1 w.2.1 w.2.2.1 w.2.2.2) s) ∧ ((∀ X ∈ xm_es, va_Nw (.castable X X) s) ∧ ∀ X ∈ xm_ds, va_Nw (.declares (Bundle.initS X)) s) ∧ (∀ X ∈ xm_es, ∀ Y ∈ xm_es, X ≠ Y → va_Nc X Y s) ∧ (∀ z ∈ xm_strs, ∃ sa, vk_R RX11 z.1 z.2 sa s) ∧
  vx_Zq Bundle.tN "UNASSIGNED_STACK" Bundle.steD (fun a => base ≤ a) s s.heap ∧ vx_Zq Bundle.tN "SUPPRESSED_SENTINEL" Bundle.listD (fun a => base ≤ a) s s.heap
def xm_A (D : va_G) (E : Nat → ClassId) (base : Nat) (s : State) : Prop :=
  va_K D vwCl [] s ∧ (∀ kd ∈ xm_ks, ArrOfT s (E kd) (xm_ty kd) ∧ va_RA s (E kd) (xm_ty kd)) ∧ base ≤ s.heap.size ∧ xm_B base s
theorem xm_A.moved {D : va_G} {E : Nat → ClassId} {base : Nat} {s U : State} {locs : List Loc} (hW : s.WarmedH U.vm) (hS : va_S (fun a => base ≤ a) s.heap U.heap locs) (h : xm_A D E base s) : xm_A D E base U := by
  obtain ⟨h1, h2, h3, b1, b2, b3, b4, b5, b6, b7⟩ := h
  refine ⟨h1.moved hW.alike, fun kd hk => ⟨arrOfT_moved hW.alike (h2 kd hk).1, (h2 kd hk).2.moved hW.alike⟩, Nat.le_trans h3 hS.1, ⟨fun C hC => (b1.1 C hC).moved hW.alike, b1.2.moved hW.alike⟩, fun w hw => va_Nw.warmM hW (b2 w hw), ⟨fun X hX => va_Nw.warmC hW (b3.1 X hX), fun X hX => va_Nw.warmD hW (b3.2 X hX)⟩, fun X hX Y hY hn => (b4 X hX Y hY hn).moved hW.alike, fun z hz => ?_, (b6.kept hS.2.1).moved hW.alike, (b7.kept hS.2.1).moved hW.alike⟩
  obtain ⟨sa, hs⟩ := b5 z hz
  exact ⟨sa, vk_R.warm hW hs⟩
abbrev xm_K : Type := va_G × (Nat → ClassId) × Nat × (Nat → Nat) × xm_S × Program × Launch × Env × Room × State × MethodId × Array Value × List Frame × Method × Code × Nat × (Option xm_V → xm_S → Prop) × (String → xm_S → Prop)
def xm_Qc (D : va_G) (E : Nat → ClassId) (base : Nat) (al0 : Nat → Nat) (S0 : xm_S) (q : Option xm_V → xm_S → Prop) : Array Value → State → Outcome → State → Prop := fun _ st o t =>
  (∃ (al : Nat → Nat) (S : xm_S) (r : Option xm_V), o = .returned (r.map (xm_v al)) ∧ q r S ∧ xm_R D E base al S t.heap ∧ xm_E al0 S0 al S ∧ ∀ v, r = some v → xm_ok S v) ∧ va_F (fun a => base ≤ a) st t
def xm_Xc (D : va_G) (E : Nat → ClassId) (base : Nat) (al0 : Nat → Nat) (S0 : xm_S) (x : String → xm_S → Prop) : String → State → State → Prop := fun X st t =>
  (∃ (al : Nat → Nat) (S : xm_S), x X S ∧ xm_R D E base al S t.heap ∧ xm_E al0 S0 al S) ∧ va_F (fun a => base ≤ a) st t
def xm_W (K : xm_K) (cells slots pc : Nat) (L : List (Nat × xm_V)) (st : List xm_V) (S : xm_S) : Prop := match K with
  | (D, E, base, al0, S0, p, l, e, R, s, m, args, below, meth, c, nL, q, x) => ∀ (al : Nat → Nat) (H : Heap) (ls : Array Slot) (locs : List Loc), xm_R D E base al S H → xm_E al0 S0 al S → lv_has ls nL (xm_lv al L) → xm_okl S L → xm_oks S st → va_S (fun a => base ≤ a) s.heap H locs →
    W p l e R s m args below meth c H locs cells slots (vx_MQ below (xm_Qc D E base al0 S0 q) (xm_Xc D E base al0 S0 x) args s R.cells R.slots (fun a => base ≤ a)) (F0 m pc ls (st.map (xm_v al)))
/-- what a method's walk knows: the machine, the code, its class, the tables' words, its return type, its room -/
def xm_Cx (K : xm_K) (cc : ByteArray) (own : String) (nl : Nat) (ret : Option FieldType) (rm : Room) : Prop := match K with
  | (D, E, base, _, _, p, l, _, R, s, m, args, _, meth, c, nL, _, _) => p.tables.exec = Jvm.exec ∧ c.code = cc ∧ s.vm.findClass own = some m.cls ∧ (∀ w ∈ xm_G, w.before args s = true) ∧ xm_A D E base s ∧ (c.maxLocals = nL ∧ l.stackTraces = false) ∧ nL = nl ∧ meth.sig.returnType = ret ∧ R = rm ∧ meth.locks = false
def xm_init (K : xm_K) : Prop := match K with | (_, _, _, _, _, _, _, _, _, _, _, _, _, meth, _, _, _, _) => meth.name = "<init>"
theorem xm_oks_i {S : xm_S} {st : List xm_V} {x : Int32} (h : xm_oks S st) : xm_oks S (xm_i x :: st) := fun v hv => (List.mem_cons.mp hv).elim (fun e n hn => by rw [e] at hn; cases hn) (h v)
theorem xm_oks_l {S : xm_S} {st : List xm_V} {x : Int64} (h : xm_oks S st) : xm_oks S (xm_l x :: st) := fun v hv => (List.mem_cons.mp hv).elim (fun e n hn => by rw [e] at hn; cases hn) (h v)
theorem xm_oks_c {S : xm_S} {st : List xm_V} {v : xm_V} (hv : xm_ok S v) (h : xm_oks S st) : xm_oks S (v :: st) := fun w hw => (List.mem_cons.mp hw).elim (fun e => e ▸ hv) (h w)
theorem xm_oks_t {S : xm_S} {st : List xm_V} {v : xm_V} (h : xm_oks S (v :: st)) : xm_oks S st := fun w hw => h w (List.mem_cons_of_mem _ hw)
theorem xm_oks_h {S : xm_S} {st : List xm_V} {v : xm_V} (h : xm_oks S (v :: st)) : xm_ok S v := h v List.mem_cons_self
theorem xm_ok_i {S : xm_S} {x : Int32} : xm_ok S (xm_i x) := fun n hn => by cases hn
theorem xm_ok_l {S : xm_S} {x : Int64} : xm_ok S (xm_l x) := fun n hn => by cases hn
theorem xm_r_inj {a b : Option Nat} (h : xm_r a = xm_r b) : a = b := Sum.inl.inj (Sum.inr.inj (Sum.inr.inj h))
theorem xm_ok_w {S : xm_S} {x : Nat} : xm_ok S (xm_w0 x) := fun n hn => by cases hn
theorem xm_ok_n {S : xm_S} : xm_ok S (xm_r none) := fun n hn => by cases hn
theorem xm_ok_s {S : xm_S} {n : Nat} (h : S.1 n ≠ none) : xm_ok S (xm_r (some n)) := fun m hm => by cases hm; exact h
/-- what is kept of the locals when the local i (a value of one slot) is written -/
abbrev xm_drop (i : Nat) (L : List (Nat × xm_V)) : List (Nat × xm_V) := L.filter (fun q => !(q.1 == i) && !(q.1 + 1 == i && (match q.2 with | .inr (.inl _) => true | _ => false)))
theorem xm_cat (al : Nat → Nat) (v : xm_V) : ((xm_v al v).category == 2) = (match v with | .inr (.inl _) => true | _ => false) := by
  rcases v with x | x | x | x
  · rfl
  · rfl
  · cases x <;> rfl
  · rfl
theorem xm_lv_drop {al : Nat → Nat} {i : Nat} {v : xm_V} {L L' : List (Nat × xm_V)} (h : (i, v) :: xm_drop i L = L') : (i, xm_v al v) :: (xm_lv al L).filter (fun q => !(q.1 == i) && !(q.1 + 1 == i && q.2.category == 2)) = xm_lv al L' := by
  subst h
  simp only [xm_lv, xm_drop, List.map_cons, List.filter_map]
  congr 2
  apply List.filter_congr
  intro q _
  show (!(q.1 == i) && !(q.1 + 1 == i && (xm_v al q.2).category == 2)) = _
  rw [xm_cat]
theorem xm_okl_drop {S : xm_S} {i : Nat} {v : xm_V} {L L' : List (Nat × xm_V)} (h : (i, v) :: xm_drop i L = L') (hv : xm_ok S v) (hL : xm_okl S L) : xm_okl S L' := by
  subst h
  intro q hq
  rcases List.mem_cons.mp hq with rfl | hq
  · exact hv
  · exact hL q (List.mem_filter.mp hq).1
theorem xm_at {al : Nat → Nat} {ls : Array Slot} {nL : Nat} {L : List (Nat × xm_V)} (h : lv_has ls nL (xm_lv al L)) (k : Nat) {i : Nat} {v : xm_V} (hk : L[k]? = some (i, v)) : ls[i]? = some (.val (xm_v al v)) := lv_at h k (by rw [List.getElem?_map, hk]; rfl)
theorem xm_pick {al : Nat → Nat} {ls : Array Slot} {nL : Nat} {L L' : List (Nat × xm_V)} (h : lv_has ls nL (xm_lv al L)) (ks : List Nat) (hp : ks.filterMap (fun k => L[k]?) = L') : lv_has ls nL (xm_lv al L') := by
  refine lv_sub h ks ?_
  subst hp
  show ks.filterMap (fun k => (xm_lv al L)[k]?) = List.map _ (ks.filterMap _)
  rw [List.map_filterMap]
  congr 1
  funext k
  rw [List.getElem?_map]

theorem x_iconst {K : xm_K} {cells slots pc : Nat} {L : List (Nat × xm_V)} {st : List xm_V} {S : xm_S} {cc : ByteArray} {own : String} {nl : Nat} {rt : Option FieldType} {rm : Room} {n : Int} {v : Int32} (C : xm_Cx K cc own nl rt rm) (d : decode cc pc = .ok (.iconst n, 1)) (hv : Int32.ofInt n = v) (kk : xm_W K cells slots (pc + 1) L (xm_i v :: st) S) : xm_W K cells slots (pc) L (st) S := by
  obtain ⟨D, E, base, al0, S0, p, l, e, R, s, m, args, below, meth, c, nL, q, x0⟩ := K
  obtain ⟨hx, hb, hown, hts, hA, hml, hnl, hrt, hrm, hlk⟩ := C
  intro al H ls locs hR hE hls hL hst hS
  exact lv_iconst hx hb d hv (kk al H ls locs hR hE hls hL (xm_oks_i hst) hS)
theorem x_bipush {K : xm_K} {cells slots pc : Nat} {L : List (Nat × xm_V)} {st : List xm_V} {S : xm_S} {cc : ByteArray} {own : String} {nl : Nat} {rt : Option FieldType} {rm : Room} {n : Int} {v : Int32} (C : xm_Cx K cc own nl rt rm) (d : decode cc pc = .ok (.bipush n, 2)) (hv : (Int8.ofInt n).toInt32 = v) (kk : xm_W K cells slots (pc + 2) L (xm_i v :: st) S) : xm_W K cells slots (pc) L (st) S := by
  obtain ⟨D, E, base, al0, S0, p, l, e, R, s, m, args, below, meth, c, nL, q, x0⟩ := K
  obtain ⟨hx, hb, hown, hts, hA, hml, hnl, hrt, hrm, hlk⟩ := C
  intro al H ls locs hR hE hls hL hst hS
  exact lv_bipush hx hb d hv (kk al H ls locs hR hE hls hL (xm_oks_i hst) hS)
theorem x_sipush {K : xm_K} {cells slots pc : Nat} {L : List (Nat × xm_V)} {st : List xm_V} {S : xm_S} {cc : ByteArray} {own : String} {nl : Nat} {rt : Option FieldType} {rm : Room} {n : Int} {v : Int32} (C : xm_Cx K cc own nl rt rm) (d : decode cc pc = .ok (.sipush n, 3)) (hv : (Int16.ofInt n).toInt32 = v) (kk : xm_W K cells slots (pc + 3) L (xm_i v :: st) S) : xm_W K cells slots (pc) L (st) S := by
  obtain ⟨D, E, base, al0, S0, p, l, e, R, s, m, args, below, meth, c, nL, q, x0⟩ := K
  obtain ⟨hx, hb, hown, hts, hA, hml, hnl, hrt, hrm, hlk⟩ := C
  intro al H ls locs hR hE hls hL hst hS
  exact lv_sipush hx hb d hv (kk al H ls locs hR hE hls hL (xm_oks_i hst) hS)
theorem x_lconst {K : xm_K} {cells slots pc : Nat} {L : List (Nat × xm_V)} {st : List xm_V} {S : xm_S} {cc : ByteArray} {own : String} {nl : Nat} {rt : Option FieldType} {rm : Room} {n : Fin 2} {v : Int64} (C : xm_Cx K cc own nl rt rm) (d : decode cc pc = .ok (.lconst n, 1)) (hv : Int64.ofNat (n : Nat) = v) (kk : xm_W K cells slots (pc + 1) L (xm_l v :: st) S) : xm_W K cells slots (pc) L (st) S := by
  obtain ⟨D, E, base, al0, S0, p, l, e, R, s, m, args, below, meth, c, nL, q, x0⟩ := K
  obtain ⟨hx, hb, hown, hts, hA, hml, hnl, hrt, hrm, hlk⟩ := C
  intro al H ls locs hR hE hls hL hst hS
  exact lv_lconst hx hb d hv (kk al H ls locs hR hE hls hL (xm_oks_l hst) hS)
theorem x_null {K : xm_K} {cells slots pc : Nat} {L : List (Nat × xm_V)} {st : List xm_V} {S : xm_S} {cc : ByteArray} {own : String} {nl : Nat} {rt : Option FieldType} {rm : Room}  (C : xm_Cx K cc own nl rt rm) (d : decode cc pc = .ok (.aconst_null, 1)) (kk : xm_W K cells slots (pc + 1) L (xm_r none :: st) S) : xm_W K cells slots (pc) L (st) S := by
  obtain ⟨D, E, base, al0, S0, p, l, e, R, s, m, args, below, meth, c, nL, q, x0⟩ := K
  obtain ⟨hx, hb, hown, hts, hA, hml, hnl, hrt, hrm, hlk⟩ := C
  intro al H ls locs hR hE hls hL hst hS
  exact lv_null hx hb d (kk al H ls locs hR hE hls hL (xm_oks_c xm_ok_n hst) hS)
theorem x_ldc {K : xm_K} {cells slots pc : Nat} {L : List (Nat × xm_V)} {st : List xm_V} {S : xm_S} {cc : ByteArray} {own : String} {nl : Nat} {rt : Option FieldType} {rm : Room} {index : Nat} {v : Int32} (C : xm_Cx K cc own nl rt rm) (hw : Cond.constant own index v ∈ xm_G) (d : decode cc pc = .ok (.ldc index, 2)) (kk : xm_W K cells slots (pc + 2) L (xm_i v :: st) S) : xm_W K cells slots (pc) L (st) S := by
  obtain ⟨D, E, base, al0, S0, p, l, e, R, s, m, args, below, meth, c, nL, q, x0⟩ := K
  obtain ⟨hx, hb, hown, hts, hA, hml, hnl, hrt, hrm, hlk⟩ := C
  intro al H ls locs hR hE hls hL hst hS
  exact lv_ldc hx hb hown (hts _ hw) d (kk al H ls locs hR hE hls hL (xm_oks_i hst) hS)
theorem x_ldcw {K : xm_K} {cells slots pc : Nat} {L : List (Nat × xm_V)} {st : List xm_V} {S : xm_S} {cc : ByteArray} {own : String} {nl : Nat} {rt : Option FieldType} {rm : Room} {index : Nat} {v : Int32} (C : xm_Cx K cc own nl rt rm) (hw : Cond.constant own index v ∈ xm_G) (d : decode cc pc = .ok (.ldc_w index, 3)) (kk : xm_W K cells slots (pc + 3) L (xm_i v :: st) S) : xm_W K cells slots (pc) L (st) S := by
  obtain ⟨D, E, base, al0, S0, p, l, e, R, s, m, args, below, meth, c, nL, q, x0⟩ := K
  obtain ⟨hx, hb, hown, hts, hA, hml, hnl, hrt, hrm, hlk⟩ := C
  intro al H ls locs hR hE hls hL hst hS
  exact lv_ldcw hx hb hown (hts _ hw) d (kk al H ls locs hR hE hls hL (xm_oks_i hst) hS)
theorem x_ldc2 {K : xm_K} {cells slots pc : Nat} {L : List (Nat × xm_V)} {st : List xm_V} {S : xm_S} {cc : ByteArray} {own : String} {nl : Nat} {rt : Option FieldType} {rm : Room} {index : Nat} {v : Int64} (C : xm_Cx K cc own nl rt rm) (hw : Cond.constantLong own index v ∈ xm_G) (d : decode cc pc = .ok (.ldc2_w index, 3)) (kk : xm_W K cells slots (pc + 3) L (xm_l v :: st) S) : xm_W K cells slots (pc) L (st) S := by
  obtain ⟨D, E, base, al0, S0, p, l, e, R, s, m, args, below, meth, c, nL, q, x0⟩ := K
  obtain ⟨hx, hb, hown, hts, hA, hml, hnl, hrt, hrm, hlk⟩ := C
  intro al H ls locs hR hE hls hL hst hS
  exact lv_ldc2 hx hb hown (hts _ hw) d (kk al H ls locs hR hE hls hL (xm_oks_l hst) hS)
theorem x_iload {K : xm_K} {cells slots pc : Nat} {L : List (Nat × xm_V)} {st : List xm_V} {S : xm_S} {cc : ByteArray} {own : String} {nl : Nat} {rt : Option FieldType} {rm : Room} {i : Nat} {x : Int32} (C : xm_Cx K cc own nl rt rm) (k : Nat) (d : decode cc pc = .ok (.iload i, 2)) (hl : L[k]? = some (i, xm_i x)) (kk : xm_W K cells slots (pc + 2) L (xm_i x :: st) S) : xm_W K cells slots (pc) L (st) S := by
  obtain ⟨D, E, base, al0, S0, p, l, e, R, s, m, args, below, meth, c, nL, q, x0⟩ := K
  obtain ⟨hx, hb, hown, hts, hA, hml, hnl, hrt, hrm, hlk⟩ := C
  intro al H ls locs hR hE hls hL hst hS
  exact lv_iload hx hb d (xm_at hls k hl) (kk al H ls locs hR hE hls hL (xm_oks_i hst) hS)
theorem x_iload_n {K : xm_K} {cells slots pc : Nat} {L : List (Nat × xm_V)} {st : List xm_V} {S : xm_S} {cc : ByteArray} {own : String} {nl : Nat} {rt : Option FieldType} {rm : Room} {j : Fin 4} {i : Nat} {x : Int32} (C : xm_Cx K cc own nl rt rm) (k : Nat) (d : decode cc pc = .ok (.iload_n j, 1)) (hj : (j : Nat) = i) (hl : L[k]? = some (i, xm_i x)) (kk : xm_W K cells slots (pc + 1) L (xm_i x :: st) S) : xm_W K cells slots (pc) L (st) S := by
  obtain ⟨D, E, base, al0, S0, p, l, e, R, s, m, args, below, meth, c, nL, q, x0⟩ := K
  obtain ⟨hx, hb, hown, hts, hA, hml, hnl, hrt, hrm, hlk⟩ := C
  intro al H ls locs hR hE hls hL hst hS
  exact lv_iload_n hx hb d hj (xm_at hls k hl) (kk al H ls locs hR hE hls hL (xm_oks_i hst) hS)
theorem x_lload {K : xm_K} {cells slots pc : Nat} {L : List (Nat × xm_V)} {st : List xm_V} {S : xm_S} {cc : ByteArray} {own : String} {nl : Nat} {rt : Option FieldType} {rm : Room} {i : Nat} {x : Int64} (C : xm_Cx K cc own nl rt rm) (k : Nat) (d : decode cc pc = .ok (.lload i, 2)) (hl : L[k]? = some (i, xm_l x)) (kk : xm_W K cells slots (pc + 2) L (xm_l x :: st) S) : xm_W K cells slots (pc) L (st) S := by
  obtain ⟨D, E, base, al0, S0, p, l, e, R, s, m, args, below, meth, c, nL, q, x0⟩ := K
  obtain ⟨hx, hb, hown, hts, hA, hml, hnl, hrt, hrm, hlk⟩ := C
  intro al H ls locs hR hE hls hL hst hS
  exact lv_lload hx hb d (xm_at hls k hl) (kk al H ls locs hR hE hls hL (xm_oks_l hst) hS)
theorem x_lload_n {K : xm_K} {cells slots pc : Nat} {L : List (Nat × xm_V)} {st : List xm_V} {S : xm_S} {cc : ByteArray} {own : String} {nl : Nat} {rt : Option FieldType} {rm : Room} {j : Fin 4} {i : Nat} {x : Int64} (C : xm_Cx K cc own nl rt rm) (k : Nat) (d : decode cc pc = .ok (.lload_n j, 1)) (hj : (j : Nat) = i) (hl : L[k]? = some (i, xm_l x)) (kk : xm_W K cells slots (pc + 1) L (xm_l x :: st) S) : xm_W K cells slots (pc) L (st) S := by
  obtain ⟨D, E, base, al0, S0, p, l, e, R, s, m, args, below, meth, c, nL, q, x0⟩ := K
  obtain ⟨hx, hb, hown, hts, hA, hml, hnl, hrt, hrm, hlk⟩ := C
  intro al H ls locs hR hE hls hL hst hS
  exact lv_lload_n hx hb d hj (xm_at hls k hl) (kk al H ls locs hR hE hls hL (xm_oks_l hst) hS)
theorem x_aload {K : xm_K} {cells slots pc : Nat} {L : List (Nat × xm_V)} {st : List xm_V} {S : xm_S} {cc : ByteArray} {own : String} {nl : Nat} {rt : Option FieldType} {rm : Room} {i : Nat} {x : Option Nat} (C : xm_Cx K cc own nl rt rm) (k : Nat) (d : decode cc pc = .ok (.aload i, 2)) (hl : L[k]? = some (i, xm_r x)) (kk : xm_W K cells slots (pc + 2) L (xm_r x :: st) S) : xm_W K cells slots (pc) L (st) S := by
  obtain ⟨D, E, base, al0, S0, p, l, e, R, s, m, args, below, meth, c, nL, q, x0⟩ := K
  obtain ⟨hx, hb, hown, hts, hA, hml, hnl, hrt, hrm, hlk⟩ := C
  intro al H ls locs hR hE hls hL hst hS
  have h1 := xm_at hls k hl
  have h2 := kk al H ls locs hR hE hls hL (xm_oks_c (hL _ (List.mem_of_getElem? hl)) hst) hS
  cases x with
  | none => exact lv_aloadN hx hb d h1 h2
  | some n => exact lv_aload hx hb d h1 h2
theorem x_istore {K : xm_K} {cells slots pc : Nat} {L : List (Nat × xm_V)} {st : List xm_V} {S : xm_S} {cc : ByteArray} {own : String} {nl : Nat} {rt : Option FieldType} {rm : Room} {i : Nat} {x : Int32} {L' : List (Nat × xm_V)} (C : xm_Cx K cc own nl rt rm) (d : decode cc pc = .ok (.istore i, 2)) (hn : i < nl) (hl : (i, xm_i x) :: xm_drop i L = L') (kk : xm_W K cells slots (pc + 2) L' (st) S) : xm_W K cells slots (pc) L (xm_i x :: st) S := by
  obtain ⟨D, E, base, al0, S0, p, l, e, R, s, m, args, below, meth, c, nL, q, x0⟩ := K
  obtain ⟨hx, hb, hown, hts, hA, hml, hnl, hrt, hrm, hlk⟩ := C
  intro al H ls locs hR hE hls hL hst hS
  subst hnl
  exact lv_istore hx hb d hls hn (xm_lv_drop hl) (fun ls hls => kk al H ls locs hR hE hls (xm_okl_drop hl xm_ok_i hL) (xm_oks_t hst) hS)
theorem x_astore {K : xm_K} {cells slots pc : Nat} {L : List (Nat × xm_V)} {st : List xm_V} {S : xm_S} {cc : ByteArray} {own : String} {nl : Nat} {rt : Option FieldType} {rm : Room} {i : Nat} {x : Option Nat} {L' : List (Nat × xm_V)} (C : xm_Cx K cc own nl rt rm) (d : decode cc pc = .ok (.astore i, 2)) (hn : i < nl) (hl : (i, xm_r x) :: xm_drop i L = L') (kk : xm_W K cells slots (pc + 2) L' (st) S) : xm_W K cells slots (pc) L (xm_r x :: st) S := by
  obtain ⟨D, E, base, al0, S0, p, l, e, R, s, m, args, below, meth, c, nL, q, x0⟩ := K
  obtain ⟨hx, hb, hown, hts, hA, hml, hnl, hrt, hrm, hlk⟩ := C
  intro al H ls locs hR hE hls hL hst hS
  subst hnl
  have h2 := fun ls hls => kk al H ls locs hR hE hls (xm_okl_drop hl (xm_oks_h hst) hL) (xm_oks_t hst) hS
  cases x with
  | none => exact lv_astoreN hx hb d hls hn (xm_lv_drop hl) h2
  | some n => exact lv_astore hx hb d hls hn (xm_lv_drop hl) h2
theorem x_aload_n {K : xm_K} {cells slots pc : Nat} {L : List (Nat × xm_V)} {st : List xm_V} {S : xm_S} {cc : ByteArray} {own : String} {nl : Nat} {rt : Option FieldType} {rm : Room} {j : Fin 4} {i : Nat} {x : Option Nat} (C : xm_Cx K cc own nl rt rm) (k : Nat) (d : decode cc pc = .ok (.aload_n j, 1)) (hj : (j : Nat) = i) (hl : L[k]? = some (i, xm_r x)) (kk : xm_W K cells slots (pc + 1) L (xm_r x :: st) S) : xm_W K cells slots (pc) L (st) S := by
  obtain ⟨D, E, base, al0, S0, p, l, e, R, s, m, args, below, meth, c, nL, q, x0⟩ := K
  obtain ⟨hx, hb, hown, hts, hA, hml, hnl, hrt, hrm, hlk⟩ := C
  intro al H ls locs hR hE hls hL hst hS
  have h1 := xm_at hls k hl
  have h2 := kk al H ls locs hR hE hls hL (xm_oks_c (hL _ (List.mem_of_getElem? hl)) hst) hS
  cases x with
  | none => exact lv_aload_nN hx hb d hj h1 h2
  | some n => exact lv_aload_n hx hb d hj h1 h2
theorem x_istore_n {K : xm_K} {cells slots pc : Nat} {L : List (Nat × xm_V)} {st : List xm_V} {S : xm_S} {cc : ByteArray} {own : String} {nl : Nat} {rt : Option FieldType} {rm : Room} {j : Fin 4} {i : Nat} {x : Int32} {L' : List (Nat × xm_V)} (C : xm_Cx K cc own nl rt rm) (d : decode cc pc = .ok (.istore_n j, 1)) (hj : (j : Nat) = i) (hn : i < nl) (hl : (i, xm_i x) :: xm_drop i L = L') (kk : xm_W K cells slots (pc + 1) L' (st) S) : xm_W K cells slots (pc) L (xm_i x :: st) S := by
  obtain ⟨D, E, base, al0, S0, p, l, e, R, s, m, args, below, meth, c, nL, q, x0⟩ := K
  obtain ⟨hx, hb, hown, hts, hA, hml, hnl, hrt, hrm, hlk⟩ := C
  intro al H ls locs hR hE hls hL hst hS
  subst hnl
  exact lv_istore_n hx hb d hj hls hn (xm_lv_drop hl) (fun ls hls => kk al H ls locs hR hE hls (xm_okl_drop hl xm_ok_i hL) (xm_oks_t hst) hS)
theorem x_astore_n {K : xm_K} {cells slots pc : Nat} {L : List (Nat × xm_V)} {st : List xm_V} {S : xm_S} {cc : ByteArray} {own : String} {nl : Nat} {rt : Option FieldType} {rm : Room} {j : Fin 4} {i : Nat} {x : Option Nat} {L' : List (Nat × xm_V)} (C : xm_Cx K cc own nl rt rm) (d : decode cc pc = .ok (.astore_n j, 1)) (hj : (j : Nat) = i) (hn : i < nl) (hl : (i, xm_r x) :: xm_drop i L = L') (kk : xm_W K cells slots (pc + 1) L' (st) S) : xm_W K cells slots (pc) L (xm_r x :: st) S := by
  obtain ⟨D, E, base, al0, S0, p, l, e, R, s, m, args, below, meth, c, nL, q, x0⟩ := K
  obtain ⟨hx, hb, hown, hts, hA, hml, hnl, hrt, hrm, hlk⟩ := C
  intro al H ls locs hR hE hls hL hst hS
  subst hnl
  have h2 := fun ls hls => kk al H ls locs hR hE hls (xm_okl_drop hl (xm_oks_h hst) hL) (xm_oks_t hst) hS
  cases x with
  | none => exact lv_astore_nN hx hb d hj hls hn (xm_lv_drop hl) h2
  | some n => exact lv_astore_n hx hb d hj hls hn (xm_lv_drop hl) h2
theorem x_iinc {K : xm_K} {cells slots pc : Nat} {L : List (Nat × xm_V)} {st : List xm_V} {S : xm_S} {cc : ByteArray} {own : String} {nl : Nat} {rt : Option FieldType} {rm : Room} {i : Nat} {n : Int} {x v : Int32} {L' : List (Nat × xm_V)} (C : xm_Cx K cc own nl rt rm) (k : Nat) (d : decode cc pc = .ok (.iinc i n, 3)) (hk : L[k]? = some (i, xm_i x)) (hv : x + Int32.ofInt n = v) (hn : i < nl) (hl : (i, xm_i v) :: xm_drop i L = L') (kk : xm_W K cells slots (pc + 3) L' (st) S) : xm_W K cells slots (pc) L (st) S := by
  obtain ⟨D, E, base, al0, S0, p, l, e, R, s, m, args, below, meth, c, nL, q, x0⟩ := K
  obtain ⟨hx, hb, hown, hts, hA, hml, hnl, hrt, hrm, hlk⟩ := C
  intro al H ls locs hR hE hls hL hst hS
  subst hnl
  exact lv_iinc hx hb d hls (k := k) (by rw [List.getElem?_map, hk]; rfl) hv hn (xm_lv_drop hl) (fun ls hls => kk al H ls locs hR hE hls (xm_okl_drop hl xm_ok_i hL) hst hS)
theorem x_keep {K : xm_K} {cells slots pc : Nat} {L : List (Nat × xm_V)} {st : List xm_V} {S : xm_S} {cc : ByteArray} {own : String} {nl : Nat} {rt : Option FieldType} {rm : Room} {L' : List (Nat × xm_V)} (C : xm_Cx K cc own nl rt rm) (ks : List Nat) (hp : ks.filterMap (fun k => L[k]?) = L') (kk : xm_W K cells slots (pc) L' (st) S) : xm_W K cells slots (pc) L (st) S := by
  obtain ⟨D, E, base, al0, S0, p, l, e, R, s, m, args, below, meth, c, nL, q, x0⟩ := K
  obtain ⟨hx, hb, hown, hts, hA, hml, hnl, hrt, hrm, hlk⟩ := C
  intro al H ls locs hR hE hls hL hst hS
  refine kk al H ls locs hR hE (xm_pick hls ks hp) (fun q hq => ?_) hst hS
  subst hp
  obtain ⟨k, -, hk⟩ := List.mem_filterMap.mp hq
  exact hL q (List.mem_of_getElem? hk)
theorem x_cs {K : xm_K} {cells slots pc : Nat} {L : List (Nat × xm_V)} {st : List xm_V} {S : xm_S} {cc : ByteArray} {own : String} {nl : Nat} {rt : Option FieldType} {rm : Room} {cells' slots' : Nat} (C : xm_Cx K cc own nl rt rm) (h1 : cells ≤ cells') (h2 : slots ≤ slots') (kk : xm_W K cells' slots' (pc) L (st) S) : xm_W K cells slots (pc) L (st) S := by
  obtain ⟨D, E, base, al0, S0, p, l, e, R, s, m, args, below, meth, c, nL, q, x0⟩ := K
  obtain ⟨hx, hb, hown, hts, hA, hml, hnl, hrt, hrm, hlk⟩ := C
  intro al H ls locs hR hE hls hL hst hS
  exact W.widen h1 h2 (kk al H ls locs hR hE hls hL hst hS)
theorem x_iadd {K : xm_K} {cells slots pc : Nat} {L : List (Nat × xm_V)} {st : List xm_V} {S : xm_S} {cc : ByteArray} {own : String} {nl : Nat} {rt : Option FieldType} {rm : Room} {x y : Int32} (C : xm_Cx K cc own nl rt rm) (d : decode cc pc = .ok (.iadd, 1)) (kk : xm_W K cells slots (pc + 1) L (xm_i (x + y) :: st) S) : xm_W K cells slots (pc) L (xm_i y :: xm_i x :: st) S := by
  obtain ⟨D, E, base, al0, S0, p, l, e, R, s, m, args, below, meth, c, nL, q, x0⟩ := K
  obtain ⟨hx, hb, hown, hts, hA, hml, hnl, hrt, hrm, hlk⟩ := C
  intro al H ls locs hR hE hls hL hst hS
  exact lv_iadd hx hb d (kk al H ls locs hR hE hls hL (xm_oks_i (xm_oks_t (xm_oks_t hst))) hS)
theorem x_isub {K : xm_K} {cells slots pc : Nat} {L : List (Nat × xm_V)} {st : List xm_V} {S : xm_S} {cc : ByteArray} {own : String} {nl : Nat} {rt : Option FieldType} {rm : Room} {x y : Int32} (C : xm_Cx K cc own nl rt rm) (d : decode cc pc = .ok (.isub, 1)) (kk : xm_W K cells slots (pc + 1) L (xm_i (x - y) :: st) S) : xm_W K cells slots (pc) L (xm_i y :: xm_i x :: st) S := by
  obtain ⟨D, E, base, al0, S0, p, l, e, R, s, m, args, below, meth, c, nL, q, x0⟩ := K
  obtain ⟨hx, hb, hown, hts, hA, hml, hnl, hrt, hrm, hlk⟩ := C
  intro al H ls locs hR hE hls hL hst hS
  exact lv_isub hx hb d (kk al H ls locs hR hE hls hL (xm_oks_i (xm_oks_t (xm_oks_t hst))) hS)
theorem x_imul {K : xm_K} {cells slots pc : Nat} {L : List (Nat × xm_V)} {st : List xm_V} {S : xm_S} {cc : ByteArray} {own : String} {nl : Nat} {rt : Option FieldType} {rm : Room} {x y : Int32} (C : xm_Cx K cc own nl rt rm) (d : decode cc pc = .ok (.imul, 1)) (kk : xm_W K cells slots (pc + 1) L (xm_i (x * y) :: st) S) : xm_W K cells slots (pc) L (xm_i y :: xm_i x :: st) S := by
  obtain ⟨D, E, base, al0, S0, p, l, e, R, s, m, args, below, meth, c, nL, q, x0⟩ := K
  obtain ⟨hx, hb, hown, hts, hA, hml, hnl, hrt, hrm, hlk⟩ := C
  intro al H ls locs hR hE hls hL hst hS
  exact lv_imul hx hb d (kk al H ls locs hR hE hls hL (xm_oks_i (xm_oks_t (xm_oks_t hst))) hS)
theorem x_iand {K : xm_K} {cells slots pc : Nat} {L : List (Nat × xm_V)} {st : List xm_V} {S : xm_S} {cc : ByteArray} {own : String} {nl : Nat} {rt : Option FieldType} {rm : Room} {x y : Int32} (C : xm_Cx K cc own nl rt rm) (d : decode cc pc = .ok (.iand, 1)) (kk : xm_W K cells slots (pc + 1) L (xm_i (x &&& y) :: st) S) : xm_W K cells slots (pc) L (xm_i y :: xm_i x :: st) S := by
  obtain ⟨D, E, base, al0, S0, p, l, e, R, s, m, args, below, meth, c, nL, q, x0⟩ := K
  obtain ⟨hx, hb, hown, hts, hA, hml, hnl, hrt, hrm, hlk⟩ := C
  intro al H ls locs hR hE hls hL hst hS
  exact lv_iand hx hb d (kk al H ls locs hR hE hls hL (xm_oks_i (xm_oks_t (xm_oks_t hst))) hS)
theorem x_ior {K : xm_K} {cells slots pc : Nat} {L : List (Nat × xm_V)} {st : List xm_V} {S : xm_S} {cc : ByteArray} {own : String} {nl : Nat} {rt : Option FieldType} {rm : Room} {x y : Int32} (C : xm_Cx K cc own nl rt rm) (d : decode cc pc = .ok (.ior, 1)) (kk : xm_W K cells slots (pc + 1) L (xm_i (x ||| y) :: st) S) : xm_W K cells slots (pc) L (xm_i y :: xm_i x :: st) S := by
  obtain ⟨D, E, base, al0, S0, p, l, e, R, s, m, args, below, meth, c, nL, q, x0⟩ := K
  obtain ⟨hx, hb, hown, hts, hA, hml, hnl, hrt, hrm, hlk⟩ := C
  intro al H ls locs hR hE hls hL hst hS
  exact lv_ior hx hb d (kk al H ls locs hR hE hls hL (xm_oks_i (xm_oks_t (xm_oks_t hst))) hS)
theorem x_ixor {K : xm_K} {cells slots pc : Nat} {L : List (Nat × xm_V)} {st : List xm_V} {S : xm_S} {cc : ByteArray} {own : String} {nl : Nat} {rt : Option FieldType} {rm : Room} {x y : Int32} (C : xm_Cx K cc own nl rt rm) (d : decode cc pc = .ok (.ixor, 1)) (kk : xm_W K cells slots (pc + 1) L (xm_i (x ^^^ y) :: st) S) : xm_W K cells slots (pc) L (xm_i y :: xm_i x :: st) S := by
  obtain ⟨D, E, base, al0, S0, p, l, e, R, s, m, args, below, meth, c, nL, q, x0⟩ := K
  obtain ⟨hx, hb, hown, hts, hA, hml, hnl, hrt, hrm, hlk⟩ := C
  intro al H ls locs hR hE hls hL hst hS
  exact lv_ixor hx hb d (kk al H ls locs hR hE hls hL (xm_oks_i (xm_oks_t (xm_oks_t hst))) hS)
theorem x_ishl {K : xm_K} {cells slots pc : Nat} {L : List (Nat × xm_V)} {st : List xm_V} {S : xm_S} {cc : ByteArray} {own : String} {nl : Nat} {rt : Option FieldType} {rm : Room} {x y : Int32} (C : xm_Cx K cc own nl rt rm) (d : decode cc pc = .ok (.ishl, 1)) (kk : xm_W K cells slots (pc + 1) L (xm_i (x <<< (y &&& 31)) :: st) S) : xm_W K cells slots (pc) L (xm_i y :: xm_i x :: st) S := by
  obtain ⟨D, E, base, al0, S0, p, l, e, R, s, m, args, below, meth, c, nL, q, x0⟩ := K
  obtain ⟨hx, hb, hown, hts, hA, hml, hnl, hrt, hrm, hlk⟩ := C
  intro al H ls locs hR hE hls hL hst hS
  exact lv_ishl hx hb d (kk al H ls locs hR hE hls hL (xm_oks_i (xm_oks_t (xm_oks_t hst))) hS)
theorem x_ishr {K : xm_K} {cells slots pc : Nat} {L : List (Nat × xm_V)} {st : List xm_V} {S : xm_S} {cc : ByteArray} {own : String} {nl : Nat} {rt : Option FieldType} {rm : Room} {x y : Int32} (C : xm_Cx K cc own nl rt rm) (d : decode cc pc = .ok (.ishr, 1)) (kk : xm_W K cells slots (pc + 1) L (xm_i (x >>> (y &&& 31)) :: st) S) : xm_W K cells slots (pc) L (xm_i y :: xm_i x :: st) S := by
  obtain ⟨D, E, base, al0, S0, p, l, e, R, s, m, args, below, meth, c, nL, q, x0⟩ := K
  obtain ⟨hx, hb, hown, hts, hA, hml, hnl, hrt, hrm, hlk⟩ := C
  intro al H ls locs hR hE hls hL hst hS
  exact lv_ishr hx hb d (kk al H ls locs hR hE hls hL (xm_oks_i (xm_oks_t (xm_oks_t hst))) hS)
theorem x_iushr {K : xm_K} {cells slots pc : Nat} {L : List (Nat × xm_V)} {st : List xm_V} {S : xm_S} {cc : ByteArray} {own : String} {nl : Nat} {rt : Option FieldType} {rm : Room} {x y : Int32} (C : xm_Cx K cc own nl rt rm) (d : decode cc pc = .ok (.iushr, 1)) (kk : xm_W K cells slots (pc + 1) L (xm_i (x.toUInt32 >>> (y.toUInt32 &&& Int32.toUInt32 31)).toInt32 :: st) S) : xm_W K cells slots (pc) L (xm_i y :: xm_i x :: st) S := by
  obtain ⟨D, E, base, al0, S0, p, l, e, R, s, m, args, below, meth, c, nL, q, x0⟩ := K
  obtain ⟨hx, hb, hown, hts, hA, hml, hnl, hrt, hrm, hlk⟩ := C
  intro al H ls locs hR hE hls hL hst hS
  exact lv_iushr hx hb d rfl (kk al H ls locs hR hE hls hL (xm_oks_i (xm_oks_t (xm_oks_t hst))) hS)
theorem x_ineg {K : xm_K} {cells slots pc : Nat} {L : List (Nat × xm_V)} {st : List xm_V} {S : xm_S} {cc : ByteArray} {own : String} {nl : Nat} {rt : Option FieldType} {rm : Room} {x : Int32} (C : xm_Cx K cc own nl rt rm) (d : decode cc pc = .ok (.ineg, 1)) (kk : xm_W K cells slots (pc + 1) L (xm_i (-x) :: st) S) : xm_W K cells slots (pc) L (xm_i x :: st) S := by
  obtain ⟨D, E, base, al0, S0, p, l, e, R, s, m, args, below, meth, c, nL, q, x0⟩ := K
  obtain ⟨hx, hb, hown, hts, hA, hml, hnl, hrt, hrm, hlk⟩ := C
  intro al H ls locs hR hE hls hL hst hS
  exact lv_ineg hx hb d (kk al H ls locs hR hE hls hL (xm_oks_i (xm_oks_t hst)) hS)
theorem x_idiv {K : xm_K} {cells slots pc : Nat} {L : List (Nat × xm_V)} {st : List xm_V} {S : xm_S} {cc : ByteArray} {own : String} {nl : Nat} {rt : Option FieldType} {rm : Room} {x y : Int32} (C : xm_Cx K cc own nl rt rm) (d : decode cc pc = .ok (.idiv, 1)) (hne : ¬ y = 0) (kk : xm_W K cells slots (pc + 1) L (xm_i (x / y) :: st) S) : xm_W K cells slots (pc) L (xm_i y :: xm_i x :: st) S := by
  obtain ⟨D, E, base, al0, S0, p, l, e, R, s, m, args, below, meth, c, nL, q, x0⟩ := K
  obtain ⟨hx, hb, hown, hts, hA, hml, hnl, hrt, hrm, hlk⟩ := C
  intro al H ls locs hR hE hls hL hst hS
  exact lv_idiv hx hb d hne (kk al H ls locs hR hE hls hL (xm_oks_i (xm_oks_t (xm_oks_t hst))) hS)
theorem x_irem {K : xm_K} {cells slots pc : Nat} {L : List (Nat × xm_V)} {st : List xm_V} {S : xm_S} {cc : ByteArray} {own : String} {nl : Nat} {rt : Option FieldType} {rm : Room} {x y : Int32} (C : xm_Cx K cc own nl rt rm) (d : decode cc pc = .ok (.irem, 1)) (hne : ¬ y = 0) (kk : xm_W K cells slots (pc + 1) L (xm_i (x - x / y * y) :: st) S) : xm_W K cells slots (pc) L (xm_i y :: xm_i x :: st) S := by
  obtain ⟨D, E, base, al0, S0, p, l, e, R, s, m, args, below, meth, c, nL, q, x0⟩ := K
  obtain ⟨hx, hb, hown, hts, hA, hml, hnl, hrt, hrm, hlk⟩ := C
  intro al H ls locs hR hE hls hL hst hS
  exact lv_irem hx hb d hne (kk al H ls locs hR hE hls hL (xm_oks_i (xm_oks_t (xm_oks_t hst))) hS)
theorem x_land {K : xm_K} {cells slots pc : Nat} {L : List (Nat × xm_V)} {st : List xm_V} {S : xm_S} {cc : ByteArray} {own : String} {nl : Nat} {rt : Option FieldType} {rm : Room} {x y : Int64} (C : xm_Cx K cc own nl rt rm) (d : decode cc pc = .ok (.land, 1)) (kk : xm_W K cells slots (pc + 1) L (xm_l (x &&& y) :: st) S) : xm_W K cells slots (pc) L (xm_l y :: xm_l x :: st) S := by
  obtain ⟨D, E, base, al0, S0, p, l, e, R, s, m, args, below, meth, c, nL, q, x0⟩ := K
  obtain ⟨hx, hb, hown, hts, hA, hml, hnl, hrt, hrm, hlk⟩ := C
  intro al H ls locs hR hE hls hL hst hS
  exact lv_land hx hb d (kk al H ls locs hR hE hls hL (xm_oks_l (xm_oks_t (xm_oks_t hst))) hS)
theorem x_lor {K : xm_K} {cells slots pc : Nat} {L : List (Nat × xm_V)} {st : List xm_V} {S : xm_S} {cc : ByteArray} {own : String} {nl : Nat} {rt : Option FieldType} {rm : Room} {x y : Int64} (C : xm_Cx K cc own nl rt rm) (d : decode cc pc = .ok (.lor, 1)) (kk : xm_W K cells slots (pc + 1) L (xm_l (x ||| y) :: st) S) : xm_W K cells slots (pc) L (xm_l y :: xm_l x :: st) S := by
  obtain ⟨D, E, base, al0, S0, p, l, e, R, s, m, args, below, meth, c, nL, q, x0⟩ := K
  obtain ⟨hx, hb, hown, hts, hA, hml, hnl, hrt, hrm, hlk⟩ := C
  intro al H ls locs hR hE hls hL hst hS
  exact lv_lor hx hb d (kk al H ls locs hR hE hls hL (xm_oks_l (xm_oks_t (xm_oks_t hst))) hS)
theorem x_lshl {K : xm_K} {cells slots pc : Nat} {L : List (Nat × xm_V)} {st : List xm_V} {S : xm_S} {cc : ByteArray} {own : String} {nl : Nat} {rt : Option FieldType} {rm : Room} {x : Int64} {y : Int32} (C : xm_Cx K cc own nl rt rm) (d : decode cc pc = .ok (.lshl, 1)) (kk : xm_W K cells slots (pc + 1) L (xm_l (x <<< (y.toInt64 &&& 63)) :: st) S) : xm_W K cells slots (pc) L (xm_i y :: xm_l x :: st) S := by
  obtain ⟨D, E, base, al0, S0, p, l, e, R, s, m, args, below, meth, c, nL, q, x0⟩ := K
  obtain ⟨hx, hb, hown, hts, hA, hml, hnl, hrt, hrm, hlk⟩ := C
  intro al H ls locs hR hE hls hL hst hS
  exact lv_lshl hx hb d rfl (kk al H ls locs hR hE hls hL (xm_oks_l (xm_oks_t (xm_oks_t hst))) hS)
theorem x_lshr {K : xm_K} {cells slots pc : Nat} {L : List (Nat × xm_V)} {st : List xm_V} {S : xm_S} {cc : ByteArray} {own : String} {nl : Nat} {rt : Option FieldType} {rm : Room} {x : Int64} {y : Int32} (C : xm_Cx K cc own nl rt rm) (d : decode cc pc = .ok (.lshr, 1)) (kk : xm_W K cells slots (pc + 1) L (xm_l (x >>> (y.toInt64 &&& 63)) :: st) S) : xm_W K cells slots (pc) L (xm_i y :: xm_l x :: st) S := by
  obtain ⟨D, E, base, al0, S0, p, l, e, R, s, m, args, below, meth, c, nL, q, x0⟩ := K
  obtain ⟨hx, hb, hown, hts, hA, hml, hnl, hrt, hrm, hlk⟩ := C
  intro al H ls locs hR hE hls hL hst hS
  exact lv_lshr hx hb d rfl (kk al H ls locs hR hE hls hL (xm_oks_l (xm_oks_t (xm_oks_t hst))) hS)
theorem x_lushr {K : xm_K} {cells slots pc : Nat} {L : List (Nat × xm_V)} {st : List xm_V} {S : xm_S} {cc : ByteArray} {own : String} {nl : Nat} {rt : Option FieldType} {rm : Room} {x : Int64} {y : Int32} (C : xm_Cx K cc own nl rt rm) (d : decode cc pc = .ok (.lushr, 1)) (kk : xm_W K cells slots (pc + 1) L (xm_l ((x.toUInt64 >>> (y.toInt64.toUInt64 &&& Int64.toUInt64 63)).toInt64) :: st) S) : xm_W K cells slots (pc) L (xm_i y :: xm_l x :: st) S := by
  obtain ⟨D, E, base, al0, S0, p, l, e, R, s, m, args, below, meth, c, nL, q, x0⟩ := K
  obtain ⟨hx, hb, hown, hts, hA, hml, hnl, hrt, hrm, hlk⟩ := C
  intro al H ls locs hR hE hls hL hst hS
  exact lv_lushr hx hb d rfl (kk al H ls locs hR hE hls hL (xm_oks_l (xm_oks_t (xm_oks_t hst))) hS)
theorem x_lcmp {K : xm_K} {cells slots pc : Nat} {L : List (Nat × xm_V)} {st : List xm_V} {S : xm_S} {cc : ByteArray} {own : String} {nl : Nat} {rt : Option FieldType} {rm : Room} {x y : Int64} (C : xm_Cx K cc own nl rt rm) (d : decode cc pc = .ok (.lcmp, 1)) (kk : xm_W K cells slots (pc + 1) L (xm_i (lg_cmp x y) :: st) S) : xm_W K cells slots (pc) L (xm_l y :: xm_l x :: st) S := by
  obtain ⟨D, E, base, al0, S0, p, l, e, R, s, m, args, below, meth, c, nL, q, x0⟩ := K
  obtain ⟨hx, hb, hown, hts, hA, hml, hnl, hrt, hrm, hlk⟩ := C
  intro al H ls locs hR hE hls hL hst hS
  exact W.lcmp hx hb d (kk al H ls locs hR hE hls hL (xm_oks_i (xm_oks_t (xm_oks_t hst))) hS)
theorem x_i2l {K : xm_K} {cells slots pc : Nat} {L : List (Nat × xm_V)} {st : List xm_V} {S : xm_S} {cc : ByteArray} {own : String} {nl : Nat} {rt : Option FieldType} {rm : Room} {x : Int32} (C : xm_Cx K cc own nl rt rm) (d : decode cc pc = .ok (.i2l, 1)) (kk : xm_W K cells slots (pc + 1) L (xm_l x.toInt64 :: st) S) : xm_W K cells slots (pc) L (xm_i x :: st) S := by
  obtain ⟨D, E, base, al0, S0, p, l, e, R, s, m, args, below, meth, c, nL, q, x0⟩ := K
  obtain ⟨hx, hb, hown, hts, hA, hml, hnl, hrt, hrm, hlk⟩ := C
  intro al H ls locs hR hE hls hL hst hS
  exact lv_i2l hx hb d rfl (kk al H ls locs hR hE hls hL (xm_oks_l (xm_oks_t hst)) hS)
theorem x_l2i {K : xm_K} {cells slots pc : Nat} {L : List (Nat × xm_V)} {st : List xm_V} {S : xm_S} {cc : ByteArray} {own : String} {nl : Nat} {rt : Option FieldType} {rm : Room} {x : Int64} (C : xm_Cx K cc own nl rt rm) (d : decode cc pc = .ok (.l2i, 1)) (kk : xm_W K cells slots (pc + 1) L (xm_i x.toInt32 :: st) S) : xm_W K cells slots (pc) L (xm_l x :: st) S := by
  obtain ⟨D, E, base, al0, S0, p, l, e, R, s, m, args, below, meth, c, nL, q, x0⟩ := K
  obtain ⟨hx, hb, hown, hts, hA, hml, hnl, hrt, hrm, hlk⟩ := C
  intro al H ls locs hR hE hls hL hst hS
  exact lv_l2i hx hb d rfl (kk al H ls locs hR hE hls hL (xm_oks_i (xm_oks_t hst)) hS)
theorem x_i2c {K : xm_K} {cells slots pc : Nat} {L : List (Nat × xm_V)} {st : List xm_V} {S : xm_S} {cc : ByteArray} {own : String} {nl : Nat} {rt : Option FieldType} {rm : Room} {x : Int32} (C : xm_Cx K cc own nl rt rm) (d : decode cc pc = .ok (.i2c, 1)) (kk : xm_W K cells slots (pc + 1) L (xm_i (x.toUInt32 % 65536).toInt32 :: st) S) : xm_W K cells slots (pc) L (xm_i x :: st) S := by
  obtain ⟨D, E, base, al0, S0, p, l, e, R, s, m, args, below, meth, c, nL, q, x0⟩ := K
  obtain ⟨hx, hb, hown, hts, hA, hml, hnl, hrt, hrm, hlk⟩ := C
  intro al H ls locs hR hE hls hL hst hS
  exact lv_i2c hx hb d rfl (kk al H ls locs hR hE hls hL (xm_oks_i (xm_oks_t hst)) hS)
theorem xm_cat1_i (al : Nat → Nat) (x : Int32) : (xm_v al (xm_i x)).category = 1 := rfl
theorem xm_cat1_r (al : Nat → Nat) (x : Option Nat) : (xm_v al (xm_r x)).category = 1 := by cases x <;> rfl
theorem x_dup_i {K : xm_K} {cells slots pc : Nat} {L : List (Nat × xm_V)} {st : List xm_V} {S : xm_S} {cc : ByteArray} {own : String} {nl : Nat} {rt : Option FieldType} {rm : Room} {x : Int32} (C : xm_Cx K cc own nl rt rm) (d : decode cc pc = .ok (.dup, 1)) (kk : xm_W K cells slots (pc + 1) L (xm_i x :: xm_i x :: st) S) : xm_W K cells slots (pc) L (xm_i x :: st) S := by
  obtain ⟨D, E, base, al0, S0, p, l, e, R, s, m, args, below, meth, c, nL, q, x0⟩ := K
  obtain ⟨hx, hb, hown, hts, hA, hml, hnl, hrt, hrm, hlk⟩ := C
  intro al H ls locs hR hE hls hL hst hS
  exact lv_dup hx hb d (xm_cat1_i al x) (kk al H ls locs hR hE hls hL (xm_oks_c (xm_oks_h hst) hst) hS)
theorem x_pop_i {K : xm_K} {cells slots pc : Nat} {L : List (Nat × xm_V)} {st : List xm_V} {S : xm_S} {cc : ByteArray} {own : String} {nl : Nat} {rt : Option FieldType} {rm : Room} {x : Int32} (C : xm_Cx K cc own nl rt rm) (d : decode cc pc = .ok (.pop, 1)) (kk : xm_W K cells slots (pc + 1) L (st) S) : xm_W K cells slots (pc) L (xm_i x :: st) S := by
  obtain ⟨D, E, base, al0, S0, p, l, e, R, s, m, args, below, meth, c, nL, q, x0⟩ := K
  obtain ⟨hx, hb, hown, hts, hA, hml, hnl, hrt, hrm, hlk⟩ := C
  intro al H ls locs hR hE hls hL hst hS
  exact lv_pop hx hb d (xm_cat1_i al x) (kk al H ls locs hR hE hls hL (xm_oks_t hst) hS)
theorem x_dup_r {K : xm_K} {cells slots pc : Nat} {L : List (Nat × xm_V)} {st : List xm_V} {S : xm_S} {cc : ByteArray} {own : String} {nl : Nat} {rt : Option FieldType} {rm : Room} {x : Option Nat} (C : xm_Cx K cc own nl rt rm) (d : decode cc pc = .ok (.dup, 1)) (kk : xm_W K cells slots (pc + 1) L (xm_r x :: xm_r x :: st) S) : xm_W K cells slots (pc) L (xm_r x :: st) S := by
  obtain ⟨D, E, base, al0, S0, p, l, e, R, s, m, args, below, meth, c, nL, q, x0⟩ := K
  obtain ⟨hx, hb, hown, hts, hA, hml, hnl, hrt, hrm, hlk⟩ := C
  intro al H ls locs hR hE hls hL hst hS
  exact lv_dup hx hb d (xm_cat1_r al x) (kk al H ls locs hR hE hls hL (xm_oks_c (xm_oks_h hst) hst) hS)
theorem x_pop_r {K : xm_K} {cells slots pc : Nat} {L : List (Nat × xm_V)} {st : List xm_V} {S : xm_S} {cc : ByteArray} {own : String} {nl : Nat} {rt : Option FieldType} {rm : Room} {x : Option Nat} (C : xm_Cx K cc own nl rt rm) (d : decode cc pc = .ok (.pop, 1)) (kk : xm_W K cells slots (pc + 1) L (st) S) : xm_W K cells slots (pc) L (xm_r x :: st) S := by
  obtain ⟨D, E, base, al0, S0, p, l, e, R, s, m, args, below, meth, c, nL, q, x0⟩ := K
  obtain ⟨hx, hb, hown, hts, hA, hml, hnl, hrt, hrm, hlk⟩ := C
  intro al H ls locs hR hE hls hL hst hS
  exact lv_pop hx hb d (xm_cat1_r al x) (kk al H ls locs hR hE hls hL (xm_oks_t hst) hS)
theorem x_dup2_ir {K : xm_K} {cells slots pc : Nat} {L : List (Nat × xm_V)} {st : List xm_V} {S : xm_S} {cc : ByteArray} {own : String} {nl : Nat} {rt : Option FieldType} {rm : Room} {x : Int32} {y : Option Nat} (C : xm_Cx K cc own nl rt rm) (d : decode cc pc = .ok (.dup2, 1)) (kk : xm_W K cells slots (pc + 1) L (xm_i x :: xm_r y :: xm_i x :: xm_r y :: st) S) : xm_W K cells slots (pc) L (xm_i x :: xm_r y :: st) S := by
  obtain ⟨D, E, base, al0, S0, p, l, e, R, s, m, args, below, meth, c, nL, q, x0⟩ := K
  obtain ⟨hx, hb, hown, hts, hA, hml, hnl, hrt, hrm, hlk⟩ := C
  intro al H ls locs hR hE hls hL hst hS
  exact lv_dup2_11 hx hb d (xm_cat1_i al x) (xm_cat1_r al y) (kk al H ls locs hR hE hls hL (xm_oks_i (xm_oks_c (xm_oks_h (xm_oks_t hst)) hst)) hS)
theorem x_icmp_eq {K : xm_K} {cells slots pc : Nat} {L : List (Nat × xm_V)} {st : List xm_V} {S : xm_S} {cc : ByteArray} {own : String} {nl : Nat} {rt : Option FieldType} {rm : Room} {x y : Int32} {off : Int} {tgt : Nat} (C : xm_Cx K cc own nl rt rm) (d : decode cc pc = .ok (.if_icmp .eq off, 3)) (ht : (pc : Int) + off = (tgt : Int)) (kt : x = y → xm_W K cells slots (tgt) L (st) S) (kf : ¬ x = y → xm_W K cells slots (pc + 3) L (st) S) : xm_W K cells slots (pc) L (xm_i y :: xm_i x :: st) S := by
  obtain ⟨D, E, base, al0, S0, p, l, e, R, s, m, args, below, meth, c, nL, q, x0⟩ := K
  obtain ⟨hx, hb, hown, hts, hA, hml, hnl, hrt, hrm, hlk⟩ := C
  intro al H ls locs hR hE hls hL hst hS
  exact lv_icmp_eq hx hb d ht (fun z => kt z al H ls locs hR hE hls hL (xm_oks_t (xm_oks_t hst)) hS) (fun z => kf z al H ls locs hR hE hls hL (xm_oks_t (xm_oks_t hst)) hS)
theorem x_if_eq {K : xm_K} {cells slots pc : Nat} {L : List (Nat × xm_V)} {st : List xm_V} {S : xm_S} {cc : ByteArray} {own : String} {nl : Nat} {rt : Option FieldType} {rm : Room} {x : Int32} {off : Int} {tgt : Nat} (C : xm_Cx K cc own nl rt rm) (d : decode cc pc = .ok (.ifCond .eq off, 3)) (ht : (pc : Int) + off = (tgt : Int)) (kt : x = 0 → xm_W K cells slots (tgt) L (st) S) (kf : ¬ x = 0 → xm_W K cells slots (pc + 3) L (st) S) : xm_W K cells slots (pc) L (xm_i x :: st) S := by
  obtain ⟨D, E, base, al0, S0, p, l, e, R, s, m, args, below, meth, c, nL, q, x0⟩ := K
  obtain ⟨hx, hb, hown, hts, hA, hml, hnl, hrt, hrm, hlk⟩ := C
  intro al H ls locs hR hE hls hL hst hS
  exact lv_if_eq hx hb d ht (fun z => kt z al H ls locs hR hE hls hL (xm_oks_t hst) hS) (fun z => kf z al H ls locs hR hE hls hL (xm_oks_t hst) hS)
theorem x_icmp_ne {K : xm_K} {cells slots pc : Nat} {L : List (Nat × xm_V)} {st : List xm_V} {S : xm_S} {cc : ByteArray} {own : String} {nl : Nat} {rt : Option FieldType} {rm : Room} {x y : Int32} {off : Int} {tgt : Nat} (C : xm_Cx K cc own nl rt rm) (d : decode cc pc = .ok (.if_icmp .ne off, 3)) (ht : (pc : Int) + off = (tgt : Int)) (kt : ¬ x = y → xm_W K cells slots (tgt) L (st) S) (kf : x = y → xm_W K cells slots (pc + 3) L (st) S) : xm_W K cells slots (pc) L (xm_i y :: xm_i x :: st) S := by
  obtain ⟨D, E, base, al0, S0, p, l, e, R, s, m, args, below, meth, c, nL, q, x0⟩ := K
  obtain ⟨hx, hb, hown, hts, hA, hml, hnl, hrt, hrm, hlk⟩ := C
  intro al H ls locs hR hE hls hL hst hS
  exact lv_icmp_ne hx hb d ht (fun z => kt z al H ls locs hR hE hls hL (xm_oks_t (xm_oks_t hst)) hS) (fun z => kf z al H ls locs hR hE hls hL (xm_oks_t (xm_oks_t hst)) hS)
theorem x_if_ne {K : xm_K} {cells slots pc : Nat} {L : List (Nat × xm_V)} {st : List xm_V} {S : xm_S} {cc : ByteArray} {own : String} {nl : Nat} {rt : Option FieldType} {rm : Room} {x : Int32} {off : Int} {tgt : Nat} (C : xm_Cx K cc own nl rt rm) (d : decode cc pc = .ok (.ifCond .ne off, 3)) (ht : (pc : Int) + off = (tgt : Int)) (kt : ¬ x = 0 → xm_W K cells slots (tgt) L (st) S) (kf : x = 0 → xm_W K cells slots (pc + 3) L (st) S) : xm_W K cells slots (pc) L (xm_i x :: st) S := by
  obtain ⟨D, E, base, al0, S0, p, l, e, R, s, m, args, below, meth, c, nL, q, x0⟩ := K
  obtain ⟨hx, hb, hown, hts, hA, hml, hnl, hrt, hrm, hlk⟩ := C
  intro al H ls locs hR hE hls hL hst hS
  exact lv_if_ne hx hb d ht (fun z => kt z al H ls locs hR hE hls hL (xm_oks_t hst) hS) (fun z => kf z al H ls locs hR hE hls hL (xm_oks_t hst) hS)
theorem x_icmp_lt {K : xm_K} {cells slots pc : Nat} {L : List (Nat × xm_V)} {st : List xm_V} {S : xm_S} {cc : ByteArray} {own : String} {nl : Nat} {rt : Option FieldType} {rm : Room} {x y : Int32} {off : Int} {tgt : Nat} (C : xm_Cx K cc own nl rt rm) (d : decode cc pc = .ok (.if_icmp .lt off, 3)) (ht : (pc : Int) + off = (tgt : Int)) (kt : x < y → xm_W K cells slots (tgt) L (st) S) (kf : ¬ x < y → xm_W K cells slots (pc + 3) L (st) S) : xm_W K cells slots (pc) L (xm_i y :: xm_i x :: st) S := by
  obtain ⟨D, E, base, al0, S0, p, l, e, R, s, m, args, below, meth, c, nL, q, x0⟩ := K
  obtain ⟨hx, hb, hown, hts, hA, hml, hnl, hrt, hrm, hlk⟩ := C
  intro al H ls locs hR hE hls hL hst hS
  exact lv_icmp_lt hx hb d ht (fun z => kt z al H ls locs hR hE hls hL (xm_oks_t (xm_oks_t hst)) hS) (fun z => kf z al H ls locs hR hE hls hL (xm_oks_t (xm_oks_t hst)) hS)
theorem x_if_lt {K : xm_K} {cells slots pc : Nat} {L : List (Nat × xm_V)} {st : List xm_V} {S : xm_S} {cc : ByteArray} {own : String} {nl : Nat} {rt : Option FieldType} {rm : Room} {x : Int32} {off : Int} {tgt : Nat} (C : xm_Cx K cc own nl rt rm) (d : decode cc pc = .ok (.ifCond .lt off, 3)) (ht : (pc : Int) + off = (tgt : Int)) (kt : x < 0 → xm_W K cells slots (tgt) L (st) S) (kf : ¬ x < 0 → xm_W K cells slots (pc + 3) L (st) S) : xm_W K cells slots (pc) L (xm_i x :: st) S := by
  obtain ⟨D, E, base, al0, S0, p, l, e, R, s, m, args, below, meth, c, nL, q, x0⟩ := K
  obtain ⟨hx, hb, hown, hts, hA, hml, hnl, hrt, hrm, hlk⟩ := C
  intro al H ls locs hR hE hls hL hst hS
  exact lv_if_lt hx hb d ht (fun z => kt z al H ls locs hR hE hls hL (xm_oks_t hst) hS) (fun z => kf z al H ls locs hR hE hls hL (xm_oks_t hst) hS)
theorem x_icmp_ge {K : xm_K} {cells slots pc : Nat} {L : List (Nat × xm_V)} {st : List xm_V} {S : xm_S} {cc : ByteArray} {own : String} {nl : Nat} {rt : Option FieldType} {rm : Room} {x y : Int32} {off : Int} {tgt : Nat} (C : xm_Cx K cc own nl rt rm) (d : decode cc pc = .ok (.if_icmp .ge off, 3)) (ht : (pc : Int) + off = (tgt : Int)) (kt : y ≤ x → xm_W K cells slots (tgt) L (st) S) (kf : ¬ y ≤ x → xm_W K cells slots (pc + 3) L (st) S) : xm_W K cells slots (pc) L (xm_i y :: xm_i x :: st) S := by
  obtain ⟨D, E, base, al0, S0, p, l, e, R, s, m, args, below, meth, c, nL, q, x0⟩ := K
  obtain ⟨hx, hb, hown, hts, hA, hml, hnl, hrt, hrm, hlk⟩ := C
  intro al H ls locs hR hE hls hL hst hS
  exact lv_icmp_ge hx hb d ht (fun z => kt z al H ls locs hR hE hls hL (xm_oks_t (xm_oks_t hst)) hS) (fun z => kf z al H ls locs hR hE hls hL (xm_oks_t (xm_oks_t hst)) hS)
theorem x_if_ge {K : xm_K} {cells slots pc : Nat} {L : List (Nat × xm_V)} {st : List xm_V} {S : xm_S} {cc : ByteArray} {own : String} {nl : Nat} {rt : Option FieldType} {rm : Room} {x : Int32} {off : Int} {tgt : Nat} (C : xm_Cx K cc own nl rt rm) (d : decode cc pc = .ok (.ifCond .ge off, 3)) (ht : (pc : Int) + off = (tgt : Int)) (kt : 0 ≤ x → xm_W K cells slots (tgt) L (st) S) (kf : ¬ 0 ≤ x → xm_W K cells slots (pc + 3) L (st) S) : xm_W K cells slots (pc) L (xm_i x :: st) S := by
  obtain ⟨D, E, base, al0, S0, p, l, e, R, s, m, args, below, meth, c, nL, q, x0⟩ := K
  obtain ⟨hx, hb, hown, hts, hA, hml, hnl, hrt, hrm, hlk⟩ := C
  intro al H ls locs hR hE hls hL hst hS
  exact lv_if_ge hx hb d ht (fun z => kt z al H ls locs hR hE hls hL (xm_oks_t hst) hS) (fun z => kf z al H ls locs hR hE hls hL (xm_oks_t hst) hS)
theorem x_icmp_gt {K : xm_K} {cells slots pc : Nat} {L : List (Nat × xm_V)} {st : List xm_V} {S : xm_S} {cc : ByteArray} {own : String} {nl : Nat} {rt : Option FieldType} {rm : Room} {x y : Int32} {off : Int} {tgt : Nat} (C : xm_Cx K cc own nl rt rm) (d : decode cc pc = .ok (.if_icmp .gt off, 3)) (ht : (pc : Int) + off = (tgt : Int)) (kt : y < x → xm_W K cells slots (tgt) L (st) S) (kf : ¬ y < x → xm_W K cells slots (pc + 3) L (st) S) : xm_W K cells slots (pc) L (xm_i y :: xm_i x :: st) S := by
  obtain ⟨D, E, base, al0, S0, p, l, e, R, s, m, args, below, meth, c, nL, q, x0⟩ := K
  obtain ⟨hx, hb, hown, hts, hA, hml, hnl, hrt, hrm, hlk⟩ := C
  intro al H ls locs hR hE hls hL hst hS
  exact lv_icmp_gt hx hb d ht (fun z => kt z al H ls locs hR hE hls hL (xm_oks_t (xm_oks_t hst)) hS) (fun z => kf z al H ls locs hR hE hls hL (xm_oks_t (xm_oks_t hst)) hS)
theorem x_if_gt {K : xm_K} {cells slots pc : Nat} {L : List (Nat × xm_V)} {st : List xm_V} {S : xm_S} {cc : ByteArray} {own : String} {nl : Nat} {rt : Option FieldType} {rm : Room} {x : Int32} {off : Int} {tgt : Nat} (C : xm_Cx K cc own nl rt rm) (d : decode cc pc = .ok (.ifCond .gt off, 3)) (ht : (pc : Int) + off = (tgt : Int)) (kt : 0 < x → xm_W K cells slots (tgt) L (st) S) (kf : ¬ 0 < x → xm_W K cells slots (pc + 3) L (st) S) : xm_W K cells slots (pc) L (xm_i x :: st) S := by
  obtain ⟨D, E, base, al0, S0, p, l, e, R, s, m, args, below, meth, c, nL, q, x0⟩ := K
  obtain ⟨hx, hb, hown, hts, hA, hml, hnl, hrt, hrm, hlk⟩ := C
  intro al H ls locs hR hE hls hL hst hS
  exact lv_if_gt hx hb d ht (fun z => kt z al H ls locs hR hE hls hL (xm_oks_t hst) hS) (fun z => kf z al H ls locs hR hE hls hL (xm_oks_t hst) hS)
theorem x_icmp_le {K : xm_K} {cells slots pc : Nat} {L : List (Nat × xm_V)} {st : List xm_V} {S : xm_S} {cc : ByteArray} {own : String} {nl : Nat} {rt : Option FieldType} {rm : Room} {x y : Int32} {off : Int} {tgt : Nat} (C : xm_Cx K cc own nl rt rm) (d : decode cc pc = .ok (.if_icmp .le off, 3)) (ht : (pc : Int) + off = (tgt : Int)) (kt : x ≤ y → xm_W K cells slots (tgt) L (st) S) (kf : ¬ x ≤ y → xm_W K cells slots (pc + 3) L (st) S) : xm_W K cells slots (pc) L (xm_i y :: xm_i x :: st) S := by
  obtain ⟨D, E, base, al0, S0, p, l, e, R, s, m, args, below, meth, c, nL, q, x0⟩ := K
  obtain ⟨hx, hb, hown, hts, hA, hml, hnl, hrt, hrm, hlk⟩ := C
  intro al H ls locs hR hE hls hL hst hS
  exact lv_icmp_le hx hb d ht (fun z => kt z al H ls locs hR hE hls hL (xm_oks_t (xm_oks_t hst)) hS) (fun z => kf z al H ls locs hR hE hls hL (xm_oks_t (xm_oks_t hst)) hS)
theorem x_if_le {K : xm_K} {cells slots pc : Nat} {L : List (Nat × xm_V)} {st : List xm_V} {S : xm_S} {cc : ByteArray} {own : String} {nl : Nat} {rt : Option FieldType} {rm : Room} {x : Int32} {off : Int} {tgt : Nat} (C : xm_Cx K cc own nl rt rm) (d : decode cc pc = .ok (.ifCond .le off, 3)) (ht : (pc : Int) + off = (tgt : Int)) (kt : x ≤ 0 → xm_W K cells slots (tgt) L (st) S) (kf : ¬ x ≤ 0 → xm_W K cells slots (pc + 3) L (st) S) : xm_W K cells slots (pc) L (xm_i x :: st) S := by
  obtain ⟨D, E, base, al0, S0, p, l, e, R, s, m, args, below, meth, c, nL, q, x0⟩ := K
  obtain ⟨hx, hb, hown, hts, hA, hml, hnl, hrt, hrm, hlk⟩ := C
  intro al H ls locs hR hE hls hL hst hS
  exact lv_if_le hx hb d ht (fun z => kt z al H ls locs hR hE hls hL (xm_oks_t hst) hS) (fun z => kf z al H ls locs hR hE hls hL (xm_oks_t hst) hS)
theorem x_goto {K : xm_K} {cells slots pc : Nat} {L : List (Nat × xm_V)} {st : List xm_V} {S : xm_S} {cc : ByteArray} {own : String} {nl : Nat} {rt : Option FieldType} {rm : Room} {off : Int} {tgt : Nat} (C : xm_Cx K cc own nl rt rm) (d : decode cc pc = .ok (.goto off, 3)) (ht : (pc : Int) + off = (tgt : Int)) (kk : xm_W K cells slots (tgt) L (st) S) : xm_W K cells slots (pc) L (st) S := by
  obtain ⟨D, E, base, al0, S0, p, l, e, R, s, m, args, below, meth, c, nL, q, x0⟩ := K
  obtain ⟨hx, hb, hown, hts, hA, hml, hnl, hrt, hrm, hlk⟩ := C
  intro al H ls locs hR hE hls hL hst hS
  exact lv_goto hx hb d ht (kk al H ls locs hR hE hls hL hst hS)
theorem x_ifnonnull {K : xm_K} {cells slots pc : Nat} {L : List (Nat × xm_V)} {st : List xm_V} {S : xm_S} {cc : ByteArray} {own : String} {nl : Nat} {rt : Option FieldType} {rm : Room} {r : Option Nat} {off : Int} {tgt : Nat} (C : xm_Cx K cc own nl rt rm) (d : decode cc pc = .ok (.ifnonnull off, 3)) (ht : (pc : Int) + off = (tgt : Int)) (kt : ¬ r = none → xm_W K cells slots (tgt) L (st) S) (kf : r = none → xm_W K cells slots (pc + 3) L (st) S) : xm_W K cells slots (pc) L (xm_r r :: st) S := by
  obtain ⟨D, E, base, al0, S0, p, l, e, R, s, m, args, below, meth, c, nL, q, x0⟩ := K
  obtain ⟨hx, hb, hown, hts, hA, hml, hnl, hrt, hrm, hlk⟩ := C
  intro al H ls locs hR hE hls hL hst hS
  cases r with
  | none => exact lv_ifnonnullN hx hb d (kf rfl al H ls locs hR hE hls hL (xm_oks_t hst) hS)
  | some n => exact lv_ifnonnull hx hb d ht (kt (fun z => by cases z) al H ls locs hR hE hls hL (xm_oks_t hst) hS)
theorem xm_fv_cong {al al' : Nat → Nat} {S S' : xm_S} {n ci k : Nat} (hi : S'.2.1 n k = S.2.1 n k) (hr : xm_v al' (xm_r (S'.2.2.1 n k)) = xm_v al (xm_r (S.2.2.1 n k))) : xm_fv al' S' n ci k = xm_fv al S n ci k := by
  unfold xm_fv st_i st_r
  rw [hi, hr]
theorem xm_ev_cong {al al' : Nat → Nat} {S S' : xm_S} {n kd k : Nat} (hi : S'.2.1 n k = S.2.1 n k) (hr : xm_v al' (xm_r (S'.2.2.1 n k)) = xm_v al (xm_r (S.2.2.1 n k))) (hl : S'.2.2.2 n k = S.2.2.2 n k) : xm_ev al' S' n kd k = xm_ev al S n kd k := by
  unfold xm_ev st_i st_r st_l
  rw [hi, hr, hl]
theorem xm_C.cong {D : va_G} {E : Nat → ClassId} {al al' : Nat → Nat} {S S' : xm_S} {H H' : Heap} {n : Nat} {sh : Nat × Nat} (h : xm_C D E al S H n sh) (ha : al' n = al n) (hq : H'[al n]? = H[al n]?) (hi : ∀ j, S'.2.1 n j = S.2.1 n j) (hr : ∀ j, xm_v al' (xm_r (S'.2.2.1 n j)) = xm_v al (xm_r (S.2.2.1 n j))) (hl : ∀ j, S'.2.2.2 n j = S.2.2.2 n j) : xm_C D E al' S' H' n sh := by
  refine ⟨fun hk => ?_, fun hk => ?_⟩
  · obtain ⟨r, h1, h2⟩ := h.1 hk
    refine ⟨r, h1, ?_⟩
    rw [ha]
    exact (h2.kept hq).to (fun k _ => (xm_fv_cong (hi k) (hr k)).symm)
  · obtain ⟨h1, h2⟩ := h.2 hk
    refine ⟨h1, ?_⟩
    rw [ha, hq, h2]
    congr 2
    funext j
    exact (xm_ev_cong (hi j) (hr j) (hl j)).symm
theorem xm_R.lt {D : va_G} {E : Nat → ClassId} {base : Nat} {al : Nat → Nat} {S : xm_S} {H : Heap} (hR : xm_R D E base al S H) {n : Nat} (hn : S.1 n ≠ none) : al n < H.size := by
  cases hs : S.1 n with
  | none => exact absurd hs hn
  | some sh =>
    obtain ⟨⟨h1, h2⟩, -⟩ := hR.1 n sh hs
    by_cases hk : sh.1 < 100
    · obtain ⟨r, -, cell, g, -⟩ := h1 hk
      exact (Array.getElem?_eq_some_iff.mp g).1
    · exact (Array.getElem?_eq_some_iff.mp (h2 (Nat.le_of_not_lt hk)).2).1
theorem xm_R.put {D : va_G} {E : Nat → ClassId} {base : Nat} {al : Nat → Nat} {S S' : xm_S} {H H' : Heap} {n : Nat} (hR : xm_R D E base al S H) (hn : S.1 n ≠ none) (h1 : S'.1 = S.1) (hC : ∀ sh, S.1 n = some sh → xm_C D E al S' H' n sh) (ho : ∀ q : Nat, q ≠ al n → H'[q]? = H[q]?)
    (hs : ∀ m, m ≠ n → ∀ j, S'.2.1 m j = S.2.1 m j ∧ S'.2.2.1 m j = S.2.2.1 m j ∧ S'.2.2.2 m j = S.2.2.2 m j) (hcl : ∀ k m, S'.2.2.1 n k = some m → S.1 m ≠ none) : xm_R D E base al S' H' := by
  obtain ⟨g1, g2, g3⟩ := hR
  refine ⟨fun m sh hm => ?_, fun a b ha hb => g2 a b (h1 ▸ ha) (h1 ▸ hb), fun m k j hm hj => ?_⟩
  · rw [h1] at hm
    by_cases e : m = n
    · subst e
      exact ⟨hC sh hm, (g1 m sh hm).2⟩
    · refine ⟨(g1 m sh hm).1.cong rfl (ho _ (fun z => e (g2 m n (by rw [hm]; exact fun z => by cases z) hn z))) (fun j => (hs m e j).1) (fun j => by rw [(hs m e j).2.1]) (fun j => (hs m e j).2.2), (g1 m sh hm).2⟩
  · rw [h1] at hm ⊢
    by_cases e : m = n
    · subst e
      exact hcl k j hj
    · rw [(hs m e k).2.1] at hj
      exact g3 m k j hm hj
theorem xm_v_cong {S : xm_S} {al al' : Nat → Nat} (h : ∀ n, S.1 n ≠ none → al' n = al n) {v : xm_V} (hv : xm_ok S v) : xm_v al' v = xm_v al v := by
  rcases v with x | x | x | x
  · rfl
  · rfl
  · cases x with
    | none => rfl
    | some n => show Value.ref (al' n) = Value.ref (al n); rw [h n (hv n rfl)]
  · rfl
theorem xm_st_cong {S : xm_S} {al al' : Nat → Nat} (h : ∀ n, S.1 n ≠ none → al' n = al n) {st : List xm_V} (hv : xm_oks S st) : st.map (xm_v al') = st.map (xm_v al) := List.map_congr_left fun v hm => xm_v_cong h (hv v hm)
theorem xm_lv_cong {S : xm_S} {al al' : Nat → Nat} (h : ∀ n, S.1 n ≠ none → al' n = al n) {L : List (Nat × xm_V)} (hv : xm_okl S L) : xm_lv al' L = xm_lv al L := List.map_congr_left fun q hm => by rw [xm_v_cong h (hv q hm)]
theorem xm_ok.mono {S S' : xm_S} (h : ∀ n, S.1 n ≠ none → S'.1 n ≠ none) {v : xm_V} (hv : xm_ok S v) : xm_ok S' v := fun n e => h n (hv n e)
/-- a new name -/
theorem xm_R.new {D : va_G} {E : Nat → ClassId} {base : Nat} {al : Nat → Nat} {S : xm_S} {H H' : Heap} {n : Nat} {sh : Nat × Nat} (hR : xm_R D E base al S H) (hn : S.1 n = none) (hb : base ≤ H.size) (ho : ∀ q : Nat, q < H.size → H'[q]? = H[q]?) (hC : xm_C D E (fun m => if m = n then H.size else al m) (st_nw S n sh) H' n sh) :
    xm_R D E base (fun m => if m = n then H.size else al m) (st_nw S n sh) H' := by
  have hlt : ∀ m, S.1 m ≠ none → al m < H.size := fun m hm => hR.lt hm
  obtain ⟨g1, g2, g3⟩ := hR
  have hne : ∀ m, S.1 m ≠ none → m ≠ n := fun m hm e => hm (e ▸ hn)
  have ht : ∀ m, m ≠ n → (st_nw S n sh).1 m = S.1 m := fun m e => by show (if m = n then _ else _) = _; rw [if_neg e]
  have htn : (st_nw S n sh).1 n = some sh := by show (if n = n then _ else _) = _; rw [if_pos rfl]
  refine ⟨fun m s9 hm => ?_, fun a b ha hb => ?_, fun m k j hm hj => ?_⟩
  · by_cases e : m = n
    · subst e
      rw [htn] at hm
      cases hm
      exact ⟨hC, by show base ≤ (if m = m then _ else _); rw [if_pos rfl]; exact hb⟩
    · rw [ht m e] at hm
      have hm' : S.1 m ≠ none := by rw [hm]; exact fun z => by cases z
      have hr : ∀ j, (st_nw S n sh).2.2.1 m j = S.2.2.1 m j := fun j => by show (if m = n then _ else _) = _; rw [if_neg e]
      refine ⟨(g1 m s9 hm).1.cong (by show (if m = n then _ else _) = _; rw [if_neg e]) (ho _ (hlt m hm')) (fun j => by show (if m = n then _ else _) = _; rw [if_neg e]) (fun j => ?_) (fun j => by show (if m = n then _ else _) = _; rw [if_neg e]), by show base ≤ (if m = n then _ else _); rw [if_neg e]; exact (g1 m s9 hm).2⟩
      rw [hr j]
      cases hj : S.2.2.1 m j with
      | none => rfl
      | some k => show Value.ref (if k = n then _ else _) = Value.ref _; rw [if_neg (hne k (g3 m j k hm' hj))]
  · by_cases ea : a = n <;> by_cases eb : b = n
    · rw [ea, eb]; exact fun _ => rfl
    · rw [ht b eb] at hb
      subst ea
      intro z
      simp only [if_pos, if_neg eb] at z
      have := hlt b hb
      omega
    · rw [ht a ea] at ha
      subst eb
      intro z
      simp only [if_pos, if_neg ea] at z
      have := hlt a ha
      omega
    · rw [ht a ea] at ha
      rw [ht b eb] at hb
      intro z
      simp only [if_neg ea, if_neg eb] at z
      exact g2 a b ha hb z
  · by_cases e : m = n
    · subst e
      have : (st_nw S m sh).2.2.1 m k = none := by show (if m = m then _ else _) = _; rw [if_pos rfl]
      rw [this] at hj
      cases hj
    · rw [ht m e] at hm
      have hr : (st_nw S n sh).2.2.1 m k = S.2.2.1 m k := by show (if m = n then _ else _) = _; rw [if_neg e]
      rw [hr] at hj
      have hj' := g3 m k j hm hj
      rw [ht j (hne j hj')]
      exact hj'
theorem xm_E.new {al0 al : Nat → Nat} {S0 S : xm_S} {n z : Nat} {sh : Nat × Nat} (hE : xm_E al0 S0 al S) (hn : S.1 n = none) : xm_E al0 S0 (fun m => if m = n then z else al m) (st_nw S n sh) := by
  intro m hm
  obtain ⟨h1, h2⟩ := hE m hm
  have e : m ≠ n := fun e => hm (by rw [← h2, e]; exact hn)
  exact ⟨by show (if m = n then _ else _) = _; rw [if_neg e]; exact h1, by show (if m = n then _ else _) = _; rw [if_neg e]; exact h2⟩
/-- a field of a class of ours, as an instruction of 'own' names it -/
def xm_Fd (own : String) (index ci k : Nat) (C : String) (T : u_T) (N : Nat) : Prop := ci < 100 ∧ vwCl[ci]? = some (C, T, N) ∧ k < N ∧ Cond.fieldLink own index (T k).1 (T k).2.1 (T k).2.2.1 ∈ xm_G ∧ ∀ w ∈ u_ws C T N, w ∈ xm_G
/-- what a class of ours is: its field types, its names apart -/
def xm_Cl (ci : Nat) (C : String) (T : u_T) (N : Nat) (ty : Nat → FieldType) : Prop := ci < 100 ∧ vwCl[ci]? = some (C, T, N) ∧ (∀ w ∈ u_ws C T N, w ∈ xm_G) ∧ (∀ k, k < N → parseFieldDescriptor (T k).2.2.1 = some (ty k)) ∧ (∀ a, a < N → ∀ b, b < N → a ≠ b → (T a).2.1 ≠ (T b).2.1) ∧ Cond.instantiable C N ∈ xm_G ∧ Cond.initialized C ∈ xm_G ∧ ∀ k, k < N → (xm_fr ci k = true ∧ defaultValue (ty k) = .null) ∨ (xm_fr ci k = false ∧ defaultValue (ty k) = .int 0)
theorem xm_cell {D : va_G} {E : Nat → ClassId} {base : Nat} {al : Nat → Nat} {S : xm_S} {H : Heap} (hR : xm_R D E base al S H) {n ci : Nat} {r : vw_C} (ht : st_t S n = some (ci, 0)) (h100 : ci < 100) (hc : vwCl[ci]? = some r) : t_OB (al n) (D.1 ci) r.2.2 (D.2 ci) H (xm_fv al S n ci) := by
  obtain ⟨r', h1, h2⟩ := (hR.1 n _ ht).1.1 h100
  cases h1.symm.trans hc
  exact h2
theorem xm_arr {D : va_G} {E : Nat → ClassId} {base : Nat} {al : Nat → Nat} {S : xm_S} {H : Heap} (hR : xm_R D E base al S H) {n kd len : Nat} (ht : st_t S n = some (kd, len)) (h100 : 100 ≤ kd) : kd ∈ xm_ks ∧ H[al n]? = some (arrV (E kd) len (xm_ev al S n kd)) := (hR.1 n _ ht).1.2 h100
theorem x_getf_i {K : xm_K} {cells slots pc : Nat} {L : List (Nat × xm_V)} {st : List xm_V} {S : xm_S} {cc : ByteArray} {own : String} {nl : Nat} {rt : Option FieldType} {rm : Room} {index ci k n N : Nat} {C9 : String} {T : u_T} {r : Option Nat} (C : xm_Cx K cc own nl rt rm) (hr : r = some n) (ht : st_t S n = some (ci, 0)) (F : xm_Fd own index ci k C9 T N) (hf : xm_fr ci k = false) (d : decode cc pc = .ok (.getfield index, 3)) (kk : xm_W K cells slots (pc + 3) L (xm_i (st_i S n k) :: st) S) : xm_W K cells slots (pc) L (xm_r r :: st) S := by
  obtain ⟨D, E, base, al0, S0, p, l, e, R, s, m, args, below, meth, c, nL, q, x0⟩ := K
  obtain ⟨hx, hb, hown, hts, hA, hml, hnl, hrt, hrm, hlk⟩ := C
  intro al H ls locs hR hE hls hL hst hS
  subst hr
  obtain ⟨h100, hc, hk, hlink, hin⟩ := F
  obtain ⟨cell, q1, q2, q3, q4⟩ := xm_cell hR ht h100 hc
  obtain ⟨hSl, hfc, kC, hkC, hkind⟩ := hA.1.1 ci _ hc
  obtain ⟨cf, kf, fi, f, hi, hsl⟩ := hSl k hk
  have hin2 : ∀ w ∈ u_ws C9 T N, w ∈ xm_G := hin
  have hstat := (u_facts hfc hkC (u_lays hts hin2 hk) hi).1
  refine W.getf hx hb hown (hts _ hlink) hi hstat q1 (by rw [q3]; exact fun h => by cases h) (v := xm_v al (xm_i (st_i S n k))) ?_ rfl rfl d (kk al H ls locs hR hE hls hL (xm_oks_i (xm_oks_t hst)) hS)
  rw [hsl, q4 k hk]
  unfold xm_fv
  rw [hf]
  rfl
theorem x_getf_r {K : xm_K} {cells slots pc : Nat} {L : List (Nat × xm_V)} {st : List xm_V} {S : xm_S} {cc : ByteArray} {own : String} {nl : Nat} {rt : Option FieldType} {rm : Room} {index ci k n N : Nat} {C9 : String} {T : u_T} {r : Option Nat} (C : xm_Cx K cc own nl rt rm) (hr : r = some n) (ht : st_t S n = some (ci, 0)) (F : xm_Fd own index ci k C9 T N) (hf : xm_fr ci k = true) (d : decode cc pc = .ok (.getfield index, 3)) (kk : xm_W K cells slots (pc + 3) L (xm_r (st_r S n k) :: st) S) : xm_W K cells slots (pc) L (xm_r r :: st) S := by
  obtain ⟨D, E, base, al0, S0, p, l, e, R, s, m, args, below, meth, c, nL, q, x0⟩ := K
  obtain ⟨hx, hb, hown, hts, hA, hml, hnl, hrt, hrm, hlk⟩ := C
  intro al H ls locs hR hE hls hL hst hS
  subst hr
  obtain ⟨h100, hc, hk, hlink, hin⟩ := F
  obtain ⟨cell, q1, q2, q3, q4⟩ := xm_cell hR ht h100 hc
  obtain ⟨hSl, hfc, kC, hkC, hkind⟩ := hA.1.1 ci _ hc
  obtain ⟨cf, kf, fi, f, hi, hsl⟩ := hSl k hk
  have hin2 : ∀ w ∈ u_ws C9 T N, w ∈ xm_G := hin
  have hstat := (u_facts hfc hkC (u_lays hts hin2 hk) hi).1
  refine W.getf hx hb hown (hts _ hlink) hi hstat q1 (by rw [q3]; exact fun h => by cases h) (v := xm_v al (xm_r (st_r S n k))) ?_ rfl rfl d (kk al H ls locs hR hE hls hL (xm_oks_c (fun m e => hR.2.2 n k m (by rw [show S.1 n = some (ci, 0) from ht]; exact fun z => by cases z) (show st_r S n k = some m from xm_r_inj e)) (xm_oks_t hst)) hS)
  rw [hsl, q4 k hk]
  unfold xm_fv
  rw [hf]
  rfl
theorem x_putf_i {K : xm_K} {cells slots pc : Nat} {L : List (Nat × xm_V)} {st : List xm_V} {S : xm_S} {cc : ByteArray} {own : String} {nl : Nat} {rt : Option FieldType} {rm : Room} {index ci k n N : Nat} {C9 : String} {T : u_T} {r : Option Nat} {ty0 : Nat → FieldType} {x : Int32} (C : xm_Cx K cc own nl rt rm) (hr : r = some n) (ht : st_t S n = some (ci, 0)) (F : xm_Fd own index ci k C9 T N) (Cl : xm_Cl ci C9 T N ty0) (hf : xm_fr ci k = false) (hfin : (T k).2.2.2 = false) (hn : narrow (ty0 k) (.int x) = .int x ∧ fits (ty0 k) (.int x) = true) (d : decode cc pc = .ok (.putfield index, 3)) (kk : xm_W K cells slots (pc + 3) L (st) (st_pi S n k x)) : xm_W K cells slots (pc) L (xm_i x :: xm_r r :: st) S := by
  obtain ⟨D, E, base, al0, S0, p, l, e, R, s, m, args, below, meth, c, nL, q, x0⟩ := K
  obtain ⟨hx, hb, hown, hts, hA, hml, hnl, hrt, hrm, hlk⟩ := C
  intro al H ls locs hR hE hls hL hst hS
  subst hr
  obtain ⟨h100, hc, hk, hlink, hin⟩ := F
  obtain ⟨cell, q1, q2, q3, q4⟩ := xm_cell hR ht h100 hc
  obtain ⟨hSl, hfc, kC, hkC, hkind⟩ := hA.1.1 ci _ hc
  obtain ⟨cf, kf, fi, f, hi, hsl⟩ := hSl k hk
  have hin2 : ∀ w ∈ u_ws C9 T N, w ∈ xm_G := hin
  have hstat := (u_facts hfc hkC (u_lays hts hin2 hk) hi).1
  obtain ⟨-, -, -, hty, hnm, -, -, -⟩ := Cl
  have hap := va_apart (own := own) hts hin2 ty0 hty hnm hA.1 hc
  have hnn : S.1 n ≠ none := by rw [show S.1 n = some (ci, 0) from ht]; exact fun z => by cases z
  have hN := hn.1
  have hF := hn.2
  have hlay := hts _ (hin2 _ (u_in_lay hk))
  unfold u_lay at hlay
  rw [if_neg (by rw [hfin]; decide)] at hlay
  have h6 := u_store hfc hkC hkind hlay hi (hty k hk) hN hF
  refine W.putK hx hb (f := f) ⟨hown, hts _ hlink, ⟨_, _, _, hi⟩, hstat⟩ (by rw [q2]; exact h6) q1 q3 (by rw [hsl]; exact k2_hasslot (q4 k hk)) rfl rfl d fun H' e1 e2 e3 => ?_
  rw [hsl] at e1 ⊢
  have hR' : xm_R D E base al (st_pi S n k x) H' := by
    refine hR.put hnn rfl (fun sh hsh => ?_) e3 (fun m9 hm j => ?_) (fun j m9 hj => ?_)
    · cases (show S.1 n = some (ci, 0) from ht).symm.trans hsh
      refine ⟨fun _ => ⟨_, hc, t_OB.to (V := updV (xm_fv al S n ci) k (xm_v al (xm_i x))) ⟨_, e1, q2, q3, t_set q4 hap hk _⟩ (fun j _ => ?_)⟩, fun h => absurd h (by show ¬ 100 ≤ ci; omega)⟩
      by_cases hj : j = k
      · subst hj
        rw [show updV (xm_fv al S n ci) j (xm_v al (xm_i x)) j = xm_v al (xm_i x) by simp [updV]]
        unfold xm_fv
        rw [hf, st_i_pi_s]
        rfl
      · rw [show updV (xm_fv al S n ci) k (xm_v al (xm_i x)) j = xm_fv al S n ci j by simp [updV, hj]]
        unfold xm_fv
        rw [st_r_pi, st_i_pi_n _ _ _ _ _ _ (fun z => hj z.2)]
    · refine ⟨if_neg (fun z => hm z.1), rfl, rfl⟩
    · exact hR.2.2 n j m9 hnn hj
  exact kk al H' ls _ hR' hE hls hL (xm_oks_t (xm_oks_t hst)) (hS.put e2 e3 (hR.1 n _ ht).2)
theorem x_putfF_i {K : xm_K} {cells slots pc : Nat} {L : List (Nat × xm_V)} {st : List xm_V} {S : xm_S} {cc : ByteArray} {own : String} {nl : Nat} {rt : Option FieldType} {rm : Room} {index ci k n N : Nat} {C9 : String} {T : u_T} {r : Option Nat} {ty0 : Nat → FieldType} {x : Int32} (C : xm_Cx K cc own nl rt rm) (hr : r = some n) (ht : st_t S n = some (ci, 0)) (F : xm_Fd own index ci k C9 T N) (Cl : xm_Cl ci C9 T N ty0) (hf : xm_fr ci k = false) (hfin : (T k).2.2.2 = true) (hini : xm_init K) (hdecl : (T k).1 = own) (hn : narrow (ty0 k) (.int x) = .int x ∧ fits (ty0 k) (.int x) = true) (d : decode cc pc = .ok (.putfield index, 3)) (kk : xm_W K cells slots (pc + 3) L (st) (st_pi S n k x)) : xm_W K cells slots (pc) L (xm_i x :: xm_r r :: st) S := by
  obtain ⟨D, E, base, al0, S0, p, l, e, R, s, m, args, below, meth, c, nL, q, x0⟩ := K
  obtain ⟨hx, hb, hown, hts, hA, hml, hnl, hrt, hrm, hlk⟩ := C
  intro al H ls locs hR hE hls hL hst hS
  subst hr
  obtain ⟨h100, hc, hk, hlink, hin⟩ := F
  obtain ⟨cell, q1, q2, q3, q4⟩ := xm_cell hR ht h100 hc
  obtain ⟨hSl, hfc, kC, hkC, hkind⟩ := hA.1.1 ci _ hc
  obtain ⟨cf, kf, fi, f, hi, hsl⟩ := hSl k hk
  have hin2 : ∀ w ∈ u_ws C9 T N, w ∈ xm_G := hin
  have hstat := (u_facts hfc hkC (u_lays hts hin2 hk) hi).1
  obtain ⟨-, -, -, hty, hnm, -, -, -⟩ := Cl
  have hap := va_apart (own := own) hts hin2 ty0 hty hnm hA.1 hc
  have hnn : S.1 n ≠ none := by rw [show S.1 n = some (ci, 0) from ht]; exact fun z => by cases z
  have hN := hn.1
  have hF := hn.2
  have hlay := hts _ (hin2 _ (u_in_lay hk))
  unfold u_lay at hlay
  rw [if_pos hfin] at hlay
  have hcf : m.cls = cf := by
    obtain ⟨_, _, c', _, _, _, -, -, hf', -, -, -, hown2, -⟩ := Cond.laysFinal_spec hlay
    have e1 : c' = cf := by have := hi.symm.trans hf'; simp at this; exact this.1.symm
    rw [hdecl] at hown2
    rw [← e1]; exact Option.some.inj (hown.symm.trans hown2)
  have h6 := u_fits hfc hkC hkind (Or.inr hlay) hi (hty k hk) hN hF
  refine W.putFinK hx hb hown (hts _ hlink) hi hstat hcf hini (by rw [q2]; exact h6) q1 q3 (by rw [hsl]; exact k2_hasslot (q4 k hk)) rfl rfl d fun H' e1 e2 e3 => ?_
  rw [hsl] at e1 ⊢
  have hR' : xm_R D E base al (st_pi S n k x) H' := by
    refine hR.put hnn rfl (fun sh hsh => ?_) e3 (fun m9 hm j => ?_) (fun j m9 hj => ?_)
    · cases (show S.1 n = some (ci, 0) from ht).symm.trans hsh
      refine ⟨fun _ => ⟨_, hc, t_OB.to (V := updV (xm_fv al S n ci) k (xm_v al (xm_i x))) ⟨_, e1, q2, q3, t_set q4 hap hk _⟩ (fun j _ => ?_)⟩, fun h => absurd h (by show ¬ 100 ≤ ci; omega)⟩
      by_cases hj : j = k
      · subst hj
        rw [show updV (xm_fv al S n ci) j (xm_v al (xm_i x)) j = xm_v al (xm_i x) by simp [updV]]
        unfold xm_fv
        rw [hf, st_i_pi_s]
        rfl
      · rw [show updV (xm_fv al S n ci) k (xm_v al (xm_i x)) j = xm_fv al S n ci j by simp [updV, hj]]
        unfold xm_fv
        rw [st_r_pi, st_i_pi_n _ _ _ _ _ _ (fun z => hj z.2)]
    · refine ⟨if_neg (fun z => hm z.1), rfl, rfl⟩
    · exact hR.2.2 n j m9 hnn hj
  exact kk al H' ls _ hR' hE hls hL (xm_oks_t (xm_oks_t hst)) (hS.put e2 e3 (hR.1 n _ ht).2)
theorem x_putf_r {K : xm_K} {cells slots pc : Nat} {L : List (Nat × xm_V)} {st : List xm_V} {S : xm_S} {cc : ByteArray} {own : String} {nl : Nat} {rt : Option FieldType} {rm : Room} {index ci k n N : Nat} {C9 : String} {T : u_T} {r : Option Nat} {ty0 : Nat → FieldType} {x : Option Nat} (C : xm_Cx K cc own nl rt rm) (hr : r = some n) (ht : st_t S n = some (ci, 0)) (F : xm_Fd own index ci k C9 T N) (Cl : xm_Cl ci C9 T N ty0) (hf : xm_fr ci k = true) (hfin : (T k).2.2.2 = false) (hn : ∀ v : Value, (v = .null ∨ ∃ a, v = .ref a) → narrow (ty0 k) v = v ∧ fits (ty0 k) v = true) (d : decode cc pc = .ok (.putfield index, 3)) (kk : xm_W K cells slots (pc + 3) L (st) (st_pr S n k x)) : xm_W K cells slots (pc) L (xm_r x :: xm_r r :: st) S := by
  obtain ⟨D, E, base, al0, S0, p, l, e, R, s, m, args, below, meth, c, nL, q, x0⟩ := K
  obtain ⟨hx, hb, hown, hts, hA, hml, hnl, hrt, hrm, hlk⟩ := C
  intro al H ls locs hR hE hls hL hst hS
  subst hr
  obtain ⟨h100, hc, hk, hlink, hin⟩ := F
  obtain ⟨cell, q1, q2, q3, q4⟩ := xm_cell hR ht h100 hc
  obtain ⟨hSl, hfc, kC, hkC, hkind⟩ := hA.1.1 ci _ hc
  obtain ⟨cf, kf, fi, f, hi, hsl⟩ := hSl k hk
  have hin2 : ∀ w ∈ u_ws C9 T N, w ∈ xm_G := hin
  have hstat := (u_facts hfc hkC (u_lays hts hin2 hk) hi).1
  obtain ⟨-, -, -, hty, hnm, -, -, -⟩ := Cl
  have hap := va_apart (own := own) hts hin2 ty0 hty hnm hA.1 hc
  have hnn : S.1 n ≠ none := by rw [show S.1 n = some (ci, 0) from ht]; exact fun z => by cases z
  have hv9 : xm_v al (xm_r x) = .null ∨ ∃ a, xm_v al (xm_r x) = .ref a := by cases x with | none => exact Or.inl rfl | some z => exact Or.inr ⟨_, rfl⟩
  have hN := (hn _ hv9).1
  have hF := (hn _ hv9).2
  have hlay := hts _ (hin2 _ (u_in_lay hk))
  unfold u_lay at hlay
  rw [if_neg (by rw [hfin]; decide)] at hlay
  have h6 := u_store hfc hkC hkind hlay hi (hty k hk) hN hF
  refine W.putK hx hb (f := f) ⟨hown, hts _ hlink, ⟨_, _, _, hi⟩, hstat⟩ (by rw [q2]; exact h6) q1 q3 (by rw [hsl]; exact k2_hasslot (q4 k hk)) rfl rfl d fun H' e1 e2 e3 => ?_
  rw [hsl] at e1 ⊢
  have hR' : xm_R D E base al (st_pr S n k x) H' := by
    refine hR.put hnn rfl (fun sh hsh => ?_) e3 (fun m9 hm j => ?_) (fun j m9 hj => ?_)
    · cases (show S.1 n = some (ci, 0) from ht).symm.trans hsh
      refine ⟨fun _ => ⟨_, hc, t_OB.to (V := updV (xm_fv al S n ci) k (xm_v al (xm_r x))) ⟨_, e1, q2, q3, t_set q4 hap hk _⟩ (fun j _ => ?_)⟩, fun h => absurd h (by show ¬ 100 ≤ ci; omega)⟩
      by_cases hj : j = k
      · subst hj
        rw [show updV (xm_fv al S n ci) j (xm_v al (xm_r x)) j = xm_v al (xm_r x) by simp [updV]]
        unfold xm_fv
        rw [hf, st_r_pr_s]
        rfl
      · rw [show updV (xm_fv al S n ci) k (xm_v al (xm_r x)) j = xm_fv al S n ci j by simp [updV, hj]]
        unfold xm_fv
        rw [st_r_pr_n _ _ _ _ _ _ (fun z => hj z.2), st_i_pr]
    · refine ⟨rfl, if_neg (fun z => hm z.1), rfl⟩
    · by_cases e : j = k
      · subst e
        have hx9 : st_r (st_pr S n j x) n j = some m9 := hj
        rw [st_r_pr_s] at hx9
        exact xm_oks_h hst m9 (by rw [hx9])
      · have hx9 : st_r (st_pr S n k x) n j = some m9 := hj
        rw [st_r_pr_n _ _ _ _ _ _ (fun z => e z.2)] at hx9
        exact hR.2.2 n j m9 hnn hx9
  exact kk al H' ls _ hR' hE hls hL (xm_oks_t (xm_oks_t hst)) (hS.put e2 e3 (hR.1 n _ ht).2)
theorem x_putfF_r {K : xm_K} {cells slots pc : Nat} {L : List (Nat × xm_V)} {st : List xm_V} {S : xm_S} {cc : ByteArray} {own : String} {nl : Nat} {rt : Option FieldType} {rm : Room} {index ci k n N : Nat} {C9 : String} {T : u_T} {r : Option Nat} {ty0 : Nat → FieldType} {x : Option Nat} (C : xm_Cx K cc own nl rt rm) (hr : r = some n) (ht : st_t S n = some (ci, 0)) (F : xm_Fd own index ci k C9 T N) (Cl : xm_Cl ci C9 T N ty0) (hf : xm_fr ci k = true) (hfin : (T k).2.2.2 = true) (hini : xm_init K) (hdecl : (T k).1 = own) (hn : ∀ v : Value, (v = .null ∨ ∃ a, v = .ref a) → narrow (ty0 k) v = v ∧ fits (ty0 k) v = true) (d : decode cc pc = .ok (.putfield index, 3)) (kk : xm_W K cells slots (pc + 3) L (st) (st_pr S n k x)) : xm_W K cells slots (pc) L (xm_r x :: xm_r r :: st) S := by
  obtain ⟨D, E, base, al0, S0, p, l, e, R, s, m, args, below, meth, c, nL, q, x0⟩ := K
  obtain ⟨hx, hb, hown, hts, hA, hml, hnl, hrt, hrm, hlk⟩ := C
  intro al H ls locs hR hE hls hL hst hS
  subst hr
  obtain ⟨h100, hc, hk, hlink, hin⟩ := F
  obtain ⟨cell, q1, q2, q3, q4⟩ := xm_cell hR ht h100 hc
  obtain ⟨hSl, hfc, kC, hkC, hkind⟩ := hA.1.1 ci _ hc
  obtain ⟨cf, kf, fi, f, hi, hsl⟩ := hSl k hk
  have hin2 : ∀ w ∈ u_ws C9 T N, w ∈ xm_G := hin
  have hstat := (u_facts hfc hkC (u_lays hts hin2 hk) hi).1
  obtain ⟨-, -, -, hty, hnm, -, -, -⟩ := Cl
  have hap := va_apart (own := own) hts hin2 ty0 hty hnm hA.1 hc
  have hnn : S.1 n ≠ none := by rw [show S.1 n = some (ci, 0) from ht]; exact fun z => by cases z
  have hv9 : xm_v al (xm_r x) = .null ∨ ∃ a, xm_v al (xm_r x) = .ref a := by cases x with | none => exact Or.inl rfl | some z => exact Or.inr ⟨_, rfl⟩
  have hN := (hn _ hv9).1
  have hF := (hn _ hv9).2
  have hlay := hts _ (hin2 _ (u_in_lay hk))
  unfold u_lay at hlay
  rw [if_pos hfin] at hlay
  have hcf : m.cls = cf := by
    obtain ⟨_, _, c', _, _, _, -, -, hf', -, -, -, hown2, -⟩ := Cond.laysFinal_spec hlay
    have e1 : c' = cf := by have := hi.symm.trans hf'; simp at this; exact this.1.symm
    rw [hdecl] at hown2
    rw [← e1]; exact Option.some.inj (hown.symm.trans hown2)
  have h6 := u_fits hfc hkC hkind (Or.inr hlay) hi (hty k hk) hN hF
  refine W.putFinK hx hb hown (hts _ hlink) hi hstat hcf hini (by rw [q2]; exact h6) q1 q3 (by rw [hsl]; exact k2_hasslot (q4 k hk)) rfl rfl d fun H' e1 e2 e3 => ?_
  rw [hsl] at e1 ⊢
  have hR' : xm_R D E base al (st_pr S n k x) H' := by
    refine hR.put hnn rfl (fun sh hsh => ?_) e3 (fun m9 hm j => ?_) (fun j m9 hj => ?_)
    · cases (show S.1 n = some (ci, 0) from ht).symm.trans hsh
      refine ⟨fun _ => ⟨_, hc, t_OB.to (V := updV (xm_fv al S n ci) k (xm_v al (xm_r x))) ⟨_, e1, q2, q3, t_set q4 hap hk _⟩ (fun j _ => ?_)⟩, fun h => absurd h (by show ¬ 100 ≤ ci; omega)⟩
      by_cases hj : j = k
      · subst hj
        rw [show updV (xm_fv al S n ci) j (xm_v al (xm_r x)) j = xm_v al (xm_r x) by simp [updV]]
        unfold xm_fv
        rw [hf, st_r_pr_s]
        rfl
      · rw [show updV (xm_fv al S n ci) k (xm_v al (xm_r x)) j = xm_fv al S n ci j by simp [updV, hj]]
        unfold xm_fv
        rw [st_r_pr_n _ _ _ _ _ _ (fun z => hj z.2), st_i_pr]
    · refine ⟨rfl, if_neg (fun z => hm z.1), rfl⟩
    · by_cases e : j = k
      · subst e
        have hx9 : st_r (st_pr S n j x) n j = some m9 := hj
        rw [st_r_pr_s] at hx9
        exact xm_oks_h hst m9 (by rw [hx9])
      · have hx9 : st_r (st_pr S n k x) n j = some m9 := hj
        rw [st_r_pr_n _ _ _ _ _ _ (fun z => e z.2)] at hx9
        exact hR.2.2 n j m9 hnn hx9
  exact kk al H' ls _ hR' hE hls hL (xm_oks_t (xm_oks_t hst)) (hS.put e2 e3 (hR.1 n _ ht).2)
