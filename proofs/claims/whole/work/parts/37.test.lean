-- the class's tests and ranges as objects
def xG (A : Nat → Nat → Bool) (N : Nat) (S S' : xm_S) : Prop := (∀ n, n < N → st_t S' n = st_t S n) ∧ (∀ n k, n < N → st_r S' n k = st_r S n k) ∧ (∀ n k, n < N → st_l S' n k = st_l S n k) ∧ ∀ n k, n < N → A n k = false → st_i S' n k = st_i S n k
def fA0 (_ _ : Nat) : Bool := false
theorem xG_rfl (A : Nat → Nat → Bool) (N : Nat) (S : xm_S) : xG A N S S := ⟨fun _ _ => rfl, fun _ _ _ => rfl, fun _ _ _ => rfl, fun _ _ _ _ => rfl⟩
theorem xG_tr {A : Nat → Nat → Bool} {N N' : Nat} {S S1 S2 : xm_S} (h : xG A N S S1) (h2 : xG A N' S1 S2) (e : N ≤ N' := by omega) : xG A N S S2 := ⟨fun n l => (h2.1 n (Nat.lt_of_lt_of_le l e)).trans (h.1 n l), fun n k l => (h2.2.1 n k (Nat.lt_of_lt_of_le l e)).trans (h.2.1 n k l), fun n k l => (h2.2.2.1 n k (Nat.lt_of_lt_of_le l e)).trans (h.2.2.1 n k l), fun n k l f => (h2.2.2.2 n k (Nat.lt_of_lt_of_le l e) f).trans (h.2.2.2 n k l f)⟩
theorem xG_mo {A B : Nat → Nat → Bool} {N : Nat} {S S' : xm_S} (h : xG A N S S') (e : ∀ n k, B n k = false → A n k = false) : xG B N S S' := ⟨h.1, h.2.1, h.2.2.1, fun n k l f => h.2.2.2 n k l (e n k f)⟩
theorem xG_0 {A : Nat → Nat → Bool} {N : Nat} {S S' : xm_S} (h : xG fA0 N S S') : xG A N S S' := xG_mo h fun _ _ _ => rfl
theorem xG_F {A : Nat → Nat → Bool} {N : Nat} {S S' : xm_S} (h : xf_F A S S') : xG A N S S' := ⟨fun n _ => h.1 n, fun n k _ => h.2.1 n k, fun n k _ => h.2.2.1 n k, fun n k _ f => h.2.2.2 n k f⟩
theorem xG_pi {A : Nat → Nat → Bool} {N : Nat} {S S1 : xm_S} {n k : Nat} {v : Int32} (h : xG A N S S1) (e : n < N → A n k = true) : xG A N S (st_pi S1 n k v) := xG_tr h ⟨fun _ _ => rfl, fun _ _ _ => rfl, fun _ _ _ => rfl, fun m j l f => st_i_pi_n _ _ _ _ _ _ fun hh => by rw [hh.1, hh.2, e (hh.1 ▸ l)] at f; cases f⟩ (Nat.le_refl _)
theorem xG_pr {A : Nat → Nat → Bool} {N : Nat} {S S1 : xm_S} {n k : Nat} {v : Option Nat} (h : xG A N S S1) (e : N ≤ n) : xG A N S (st_pr S1 n k v) := xG_tr h ⟨fun _ _ => rfl, fun m j l => st_r_pr_n _ _ _ _ _ _ fun hh => by omega, fun _ _ _ => rfl, fun _ _ _ _ => rfl⟩ (Nat.le_refl _)
theorem xG_nw {A : Nat → Nat → Bool} {N : Nat} {S S1 : xm_S} {n : Nat} {sh : Nat × Nat} (h : xG A N S S1) (e : N ≤ n) : xG A N S (st_nw S1 n sh) := xG_tr h ⟨fun m l => by rw [st_t_nw, if_neg (by omega)], fun m j l => by rw [st_r_nw, if_neg (by omega)], fun m j l => by rw [st_l_nw, if_neg (by omega)], fun m j l _ => by rw [st_i_nw, if_neg (by omega)]⟩ (Nat.le_refl _)
def frs (N : Nat) (S : xm_S) : Prop := ∀ n, N ≤ n → st_t S n = none
def frx (sc : Nat) (x : Option tt) : Nat := match x with
  | none => 0
  | some t => if t.1 = 2 ∨ t.1 = 4 then 0 else if t.1 = 1 then rkT sc t + 1 else rkT sc t
def bex (sc : Nat) (x : Option tt) : Nat := match x with
  | none => 1048576
  | some t => if t.1 = 1 ∨ t.1 = 3 then 1048576 else if t.1 = 2 then rkT sc t else if t.1 = 5 ∨ t.1 = 6 then rkf sc t.2.1 (nxt t.1 t.2.2.1 t.2.2.2.1 t.2.2.2.2.1 t.2.2.2.2.2.2).1 (nxt t.1 t.2.2.1 t.2.2.2.1 t.2.2.2.2.1 t.2.2.2.2.2.2).2.1 (nxt t.1 t.2.2.1 t.2.2.2.1 t.2.2.2.2.1 t.2.2.2.2.2.2).2.2 0 else rkT sc t + 1
def dgX (x : Option tt) : Nat := match x with
  | none => 10
  | some t => dgT t
def TO (S : xm_S) (o : Nat) (x : xit) : Prop := st_t S o = some (9, 0) ∧ st_r S o 2 = some (o + 1) ∧ st_r S o 3 = some (o + 2) ∧ st_t S (o + 1) = some (100, 3) ∧ st_t S (o + 2) = some (100, 3) ∧ st_i S o 0 = nI (dgX x.2) ∧ st_i S o 1 = bI x.1 ∧ ∀ sc, sc < 3 → st_i S (o + 1) sc = nI (frx sc x.2) ∧ st_i S (o + 2) sc = nI (bex sc x.2)
theorem TO_G {A : Nat → Nat → Bool} {S S' : xm_S} {o N : Nat} {x : xit} (h : TO S o x) (G : xG A N S S') (hA : ∀ n k, o ≤ n → A n k = false) (ho : o + 3 ≤ N) : TO S' o x := by
  obtain ⟨h1, h2, h3, h4, h5, h6, h7, h8⟩ := h
  refine ⟨(G.1 _ (by omega)).trans h1, (G.2.1 _ _ (by omega)).trans h2, (G.2.1 _ _ (by omega)).trans h3, (G.1 _ (by omega)).trans h4, (G.1 _ (by omega)).trans h5, (G.2.2.2 _ _ (by omega) (hA _ _ (by omega))).trans h6, (G.2.2.2 _ _ (by omega) (hA _ _ (by omega))).trans h7, fun sc hs => ⟨(G.2.2.2 _ _ (by omega) (hA _ _ (by omega))).trans (h8 sc hs).1, (G.2.2.2 _ _ (by omega) (hA _ _ (by omega))).trans (h8 sc hs).2⟩⟩
theorem nxt_b (sg M m p many : Nat) (h : M ≤ 9 ∧ m ≤ 9 ∧ p ≤ 9) : (nxt sg M m p many).1 ≤ 10 ∧ (nxt sg M m p many).2.1 ≤ 10 ∧ (nxt sg M m p many).2.2 ≤ 10 := by
  unfold nxt
  split
  · exact ⟨by show M + 1 ≤ 10; omega, Nat.zero_le _, Nat.zero_le _⟩
  · split
    · exact ⟨by show M ≤ 10; omega, by show m + 1 ≤ 10; omega, Nat.zero_le _⟩
    · exact ⟨by show M ≤ 10; omega, by show m ≤ 10; omega, by show p + 1 ≤ 10; omega⟩
def iF (kd r : Nat) : Nat := if kd = 0 ∨ kd = 3 ∨ kd = 5 then 0 else if kd = 2 then r + 1 else r
def iB (kd r q : Nat) : Nat := if kd = 0 ∨ kd = 2 ∨ kd = 4 then 1048576 else if kd = 3 then r else if kd = 6 ∨ kd = 7 then q else r + 1
/-- the loop of the Test's constructor -/
theorem cq_ini {o kd : Nat} {op : Bool} {t : tt} {S : xm_S} {g : xm_S → Prop} (hk : kd ≤ 7) (ok : tOK t) (h67 : kd = 6 ∨ kd = 7 → t.1 + 1 = kd) (ht : st_t S o = some (9, 0)) (hf : ∀ n, o < n → st_t S n = none)
    (h : ∀ S', xG fA0 o S S' → frs (o + 3) S' → st_t S' o = some (9, 0) → st_r S' o 2 = some (o + 1) → st_r S' o 3 = some (o + 2) → st_t S' (o + 1) = some (100, 3) → st_t S' (o + 2) = some (100, 3) → st_i S' o 0 = nI (dgT t) → st_i S' o 1 = bI op → (∀ sc, sc < 3 → st_i S' (o + 1) sc = nI (iF kd (rkT sc t)) ∧ st_i S' (o + 2) sc = nI (iB kd (rkT sc t) (rkf sc t.2.1 (nxt t.1 t.2.2.1 t.2.2.2.1 t.2.2.2.2.1 t.2.2.2.2.2.2).1 (nxt t.1 t.2.2.1 t.2.2.2.1 t.2.2.2.2.1 t.2.2.2.2.2.2).2.1 (nxt t.1 t.2.2.1 t.2.2.2.1 t.2.2.2.2.1 t.2.2.2.2.2.2).2.2 0))) → g S') : wp_X9_init o (nI kd) (nI (dgT t)) (bI (decide (1 < t.2.2.2.2.2.2))) (bI op) S g := by
  have ok' := ok
  obtain ⟨o1, o2, o3, o4, o5, o6, o7, o8⟩ := ok'
  unfold wp_X9_init
  refine ⟨o + 1, hf _ (by omega), fun S35 e35 => ?_⟩
  refine ⟨by rw [e35, st_t_nw, if_neg (by omega)]; exact ht, fun S38 e38 => ⟨o + 2, by rw [e38, st_t_pr, e35, st_t_nw, if_neg (by omega)]; exact hf _ (by omega), fun S42 e42 S44 e44 S46 e46 => ⟨bI_01 _, fun S49 e49 => ?_⟩⟩⟩
  have G : xG fA0 o S S49 := by
    subst e49 e46 e44 e42 e38 e35
    exact xG_pi (xG_pi (xG_pr (xG_nw (xG_pr (xG_nw (xG_rfl _ _ _) (by omega)) (by omega)) (by omega)) (by omega)) (fun l => absurd l (by omega))) (fun l => absurd l (by omega))
  have tt0 : ∀ n, st_t S49 n = if n = o + 2 then some (100, 3) else if n = o + 1 then some (100, 3) else st_t S n := fun n => by
    subst e49 e46 e44 e42 e38 e35
    rw [st_t_pi, st_t_pi, st_t_pr, st_t_nw, st_t_pr, st_t_nw]
  have t0 : st_t S49 o = some (9, 0) := by rw [tt0, if_neg (by omega), if_neg (by omega)]; exact ht
  have t1 : st_t S49 (o + 1) = some (100, 3) := by rw [tt0, if_neg (by omega), if_pos rfl]
  have t2 : st_t S49 (o + 2) = some (100, 3) := by rw [tt0, if_pos rfl]
  have fr3 : frs (o + 3) S49 := fun n hn => by rw [tt0, if_neg (by omega), if_neg (by omega)]; exact hf n (by omega)
  have r2 : st_r S49 o 2 = some (o + 1) := by
    subst e49 e46 e44 e42 e38 e35
    rw [st_r_pi, st_r_pi, st_r_pr_n _ _ _ _ _ _ (by omega), st_r_nw, if_neg (by omega), st_r_pr_s]
  have r3 : st_r S49 o 3 = some (o + 2) := by
    subst e49 e46 e44 e42 e38 e35
    rw [st_r_pi, st_r_pi, st_r_pr_s]
  have i0 : st_i S49 o 0 = nI (dgT t) := by
    subst e49 e46
    rw [st_i_pi_n _ _ _ _ _ _ (by omega), st_i_pi_s]
  have i1 : st_i S49 o 1 = bI op := by subst e49; exact st_i_pi_s _ _ _ _
  clear e49 e46 e44 e42 e38 e35 tt0
  unfold wp_X9_init_32
  intro Z hZ
  have hb := nxt_b t.1 t.2.2.1 t.2.2.2.1 t.2.2.2.2.1 t.2.2.2.2.2.2 ⟨o3, o4, o5⟩
  have H : ∀ d k S1, k + d = 3 → xf_F (fun n _ => n == o + 1 || n == o + 2) S49 S1 → (∀ sc, sc < k → st_i S1 (o + 1) sc = nI (iF kd (rkT sc t)) ∧ st_i S1 (o + 2) sc = nI (iB kd (rkT sc t) (rkf sc t.2.1 (nxt t.1 t.2.2.1 t.2.2.2.1 t.2.2.2.2.1 t.2.2.2.2.2.2).1 (nxt t.1 t.2.2.1 t.2.2.2.1 t.2.2.2.2.1 t.2.2.2.2.2.2).2.1 (nxt t.1 t.2.2.1 t.2.2.2.1 t.2.2.2.2.1 t.2.2.2.2.2.2).2.2 0))) → Z (nI kd) (nI (dgT t)) (bI (decide (1 < t.2.2.2.2.2.2))) (nI k) S1 := by
    intro d
    induction d with
    | zero =>
      intro k S1 hkd F c
      have hk3 : k = 3 := by omega
      subst hk3
      refine hZ _ _ _ _ _ ?_
      unfold wp_X9_init_32B
      refine ⟨fun _ => ?_, fun e => absurd (nI_lt (show 2 < 3 by decide) (by decide)) e⟩
      have hA : ∀ n k, n < o + 1 → (fun n _ => n == o + 1 || n == o + 2 : Nat → Nat → Bool) n k = false := fun n k hn => by
        show (n == o + 1 || n == o + 2) = false
        rw [beq_eq_false_iff_ne.mpr (by omega), beq_eq_false_iff_ne.mpr (by omega)]; rfl
      refine h S1 ⟨fun n l => (F.1 n).trans (G.1 n l), fun n k l => (F.2.1 n k).trans (G.2.1 n k l), fun n k l => (F.2.2.1 n k).trans (G.2.2.1 n k l), fun n k l f => (F.2.2.2 n k (hA n k (by omega))).trans (G.2.2.2 n k l f)⟩ (fun n hn => (F.1 n).trans (fr3 n hn)) ((F.1 _).trans t0) ((F.2.1 _ _).trans r2) ((F.2.1 _ _).trans r3) ((F.1 _).trans t1) ((F.1 _).trans t2) ((F.2.2.2 o 0 (hA o 0 (by omega))).trans i0) ((F.2.2.2 o 1 (hA o 1 (by omega))).trans i1) c
    | succ d ih =>
      intro k S1 hkd F c
      have hk3 : k < 3 := by omega
      refine hZ _ _ _ _ _ ?_
      unfold wp_X9_init_32B
      refine ⟨fun e => absurd e (nI_nlt (show k ≤ 2 by omega) (by decide)), fun _ => ?_⟩
      refine cq_rank (by omega) (by omega) (by omega) (by omega) (by omega) (by omega) ?_
      have hrl : rkT k t < 1048576 := rkf_lt (by omega) (by omega) (by omega) (by omega) (by omega)
      rw [show rkf k t.2.1 t.2.2.1 t.2.2.2.1 t.2.2.2.2.1 t.2.2.2.2.2.1 = rkT k t from rfl]
      have E : ∀ c : Nat, c < 100 → (nI kd = nI c ↔ kd = c) := fun c hc => nI_eq (by omega) (by omega)
      have E0 : nI kd = 0 ↔ kd = 0 := nI_z (by omega)
      -- the tail: what is written
      have T2 : ∀ S2 B, (B = iB kd (rkT k t) 0 ∨ kd = 6 ∨ kd = 7) → xf_F (fun n _ => n == o + 1 || n == o + 2) S49 S2 → (∀ sc, sc < k → st_i S2 (o + 1) sc = nI (iF kd (rkT sc t)) ∧ st_i S2 (o + 2) sc = nI (iB kd (rkT sc t) (rkf sc t.2.1 (nxt t.1 t.2.2.1 t.2.2.2.1 t.2.2.2.2.1 t.2.2.2.2.2.2).1 (nxt t.1 t.2.2.1 t.2.2.2.1 t.2.2.2.2.1 t.2.2.2.2.2.2).2.1 (nxt t.1 t.2.2.1 t.2.2.2.1 t.2.2.2.2.1 t.2.2.2.2.2.2).2.2 0))) → st_i S2 (o + 1) k = nI (iF kd (rkT k t)) → wp_X9_init_148 o (nI kd) (nI (dgT t)) (bI (decide (1 < t.2.2.2.2.2.2))) (nI k) (nI B) (nI k) (some (o + 2)) S2 g Z := by
        intro S2 B hB F2 c2 cF
        unfold wp_X9_init_148
        refine ⟨_, rfl, _, (F2.1 _).trans t2, vp_in_nI hk3 (by decide), fun S20 e20 => ?_⟩
        rw [nI_clamp (by omega)] at e20
        have F3 : xf_F (fun n _ => n == o + 1 || n == o + 2) S49 S20 := by subst e20; exact xf_pi F2 (by show (o + 2 == o + 1 || o + 2 == o + 2) = true; simp)
        have X179 : ∀ S3 B', B' = iB kd (rkT k t) (rkf k t.2.1 (nxt t.1 t.2.2.1 t.2.2.2.1 t.2.2.2.2.1 t.2.2.2.2.2.2).1 (nxt t.1 t.2.2.1 t.2.2.2.1 t.2.2.2.2.1 t.2.2.2.2.2.2).2.1 (nxt t.1 t.2.2.1 t.2.2.2.1 t.2.2.2.2.1 t.2.2.2.2.2.2).2.2 0) → xf_F (fun n _ => n == o + 1 || n == o + 2) S49 S3 → (∀ j, j ≠ k → st_i S3 (o + 2) j = st_i S2 (o + 2) j) → (∀ j, st_i S3 (o + 1) j = st_i S2 (o + 1) j) → st_i S3 (o + 2) k = nI B' → wp_X9_init_179 o (nI kd) (nI (dgT t)) (bI (decide (1 < t.2.2.2.2.2.2))) (nI k) S3 g Z := by
          intro S3 B' hB' F4 d1 d2 d3
          unfold wp_X9_init_179
          intro y ey
          rw [ey, nI_1]
          refine ih (k + 1) S3 (by omega) F4 fun sc hsc => ?_
          by_cases hsk : sc = k
          · subst hsk
            exact ⟨(d2 _).trans cF, by rw [d3, hB']⟩
          · exact ⟨(d2 _).trans (c2 sc (by omega)).1, (d1 _ hsk).trans (c2 sc (by omega)).2⟩
        have X161 : kd = 6 ∨ kd = 7 → wp_X9_init_161 o (nI kd) (nI (dgT t)) (bI (decide (1 < t.2.2.2.2.2.2))) (nI k) S20 g Z := by
          intro h6
          have e1 := h67 h6
          unfold wp_X9_init_161
          refine ⟨(F3.1 _).trans t0, ?_⟩
          rw [← e1]
          refine cq_next ok (by omega) (cq_rank (by omega) (by omega) hb.1 hb.2.1 hb.2.2 (by decide) ⟨_, (F3.2.1 _ _).trans r3, _, (F3.1 _).trans t2, vp_in_nI hk3 (by decide), fun S13 e13 => ?_⟩)
          rw [nI_clamp (by omega)] at e13
          rw [e1]
          refine X179 S13 _ (by unfold iB; rw [if_neg (by omega), if_neg (by omega), if_pos h6]) (by subst e13; exact xf_pi F3 (by show (o + 2 == o + 1 || o + 2 == o + 2) = true; simp)) (fun j hj => ?_) (fun j => ?_) ?_
          · rw [e13, st_i_pi_n _ _ _ _ _ _ fun hh => hj hh.2, e20]; exact st_i_pi_n _ _ _ _ _ _ fun hh => hj hh.2
          · rw [e13, st_i_pi_n _ _ _ _ _ _ fun hh => by omega, e20]; exact st_i_pi_n _ _ _ _ _ _ fun hh => by omega
          · rw [e13]; exact st_i_pi_s _ _ _ _
        rw [E 6 (by decide), E 7 (by decide)]
        refine ⟨fun a => X161 (.inl a), fun a => ⟨fun b => ?_, fun b => X161 (.inr b)⟩⟩
        have hB : B = iB kd (rkT k t) 0 := by rcases hB with hB | hB | hB; exact hB; exact absurd hB a; exact absurd hB b
        refine X179 S20 B (by rw [hB]; unfold iB; rw [if_neg (show ¬ (kd = 6 ∨ kd = 7) by omega), if_neg (show ¬ (kd = 6 ∨ kd = 7) by omega)]) F3 (fun j hj => ?_) (fun j => ?_) ?_
        · rw [e20]; exact st_i_pi_n _ _ _ _ _ _ fun hh => hj hh.2
        · rw [e20]; exact st_i_pi_n _ _ _ _ _ _ fun hh => by omega
        · rw [e20]; exact st_i_pi_s _ _ _ _
      have T1 : ∀ b8, b8 = decide (kd = 0 ∨ kd = 2 ∨ kd = 4) → wp_X9_init_117 o (nI kd) (nI (dgT t)) (bI (decide (1 < t.2.2.2.2.2.2))) (nI k) (nI (rkT k t)) (bI b8) (nI (iF kd (rkT k t))) (nI k) (some (o + 1)) S1 g Z := by
        intro b8 e8
        unfold wp_X9_init_117
        refine ⟨_, rfl, _, (F.1 _).trans t1, vp_in_nI hk3 (by decide), fun S27 e27 => ?_⟩
        rw [nI_clamp (by omega)] at e27
        have F3 : xf_F (fun n _ => n == o + 1 || n == o + 2) S49 S27 := by subst e27; exact xf_pi F (by show (o + 1 == o + 1 || o + 1 == o + 2) = true; simp)
        have c3 : ∀ sc, sc < k → st_i S27 (o + 1) sc = nI (iF kd (rkT sc t)) ∧ st_i S27 (o + 2) sc = nI (iB kd (rkT sc t) (rkf sc t.2.1 (nxt t.1 t.2.2.1 t.2.2.2.1 t.2.2.2.2.1 t.2.2.2.2.2.2).1 (nxt t.1 t.2.2.1 t.2.2.2.1 t.2.2.2.2.1 t.2.2.2.2.2.2).2.1 (nxt t.1 t.2.2.1 t.2.2.2.1 t.2.2.2.2.1 t.2.2.2.2.2.2).2.2 0)) := fun sc hsc => by
          rw [e27, st_i_pi_n _ _ _ _ _ _ fun hh => by omega, st_i_pi_n _ _ _ _ _ _ fun hh => by omega]; exact c sc hsc
        have cF : st_i S27 (o + 1) k = nI (iF kd (rkT k t)) := by rw [e27]; exact st_i_pi_s _ _ _ _
        have hr3 : st_r S27 o 3 = some (o + 2) := (F3.2.1 _ _).trans r3
        refine ⟨(F3.1 _).trans t0, ?_⟩
        rw [hr3, E 3 (by decide), nI_1]
        refine bI_c (fun e => ?_) (fun e => ⟨fun a => ?_, fun a => ?_⟩)
        · rw [e8] at e
          have e := of_decide_eq_true e
          exact T2 S27 1048576 (.inl (by unfold iB; rw [if_pos e])) F3 c3 cF
        · rw [e8] at e
          have e := of_decide_eq_false e
          refine T2 S27 _ ?_ F3 c3 cF
          by_cases h6 : kd = 6 ∨ kd = 7
          · exact .inr h6
          · exact .inl (by unfold iB; rw [if_neg e, if_neg a, if_neg h6])
        · rw [e8] at e
          have e := of_decide_eq_false e
          exact T2 S27 _ (.inl (by unfold iB; rw [if_neg e, if_pos a])) F3 c3 cF
      have T0 : ∀ b7 b8, b7 = decide (kd = 0 ∨ kd = 3 ∨ kd = 5) → b8 = decide (kd = 0 ∨ kd = 2 ∨ kd = 4) → wp_X9_init_86 o (nI kd) (nI (dgT t)) (bI (decide (1 < t.2.2.2.2.2.2))) (nI k) (nI (rkT k t)) (bI b7) (bI b8) S1 g Z := by
        intro b7 b8 e7 e8
        have T1 := T1 b8 e8
        unfold wp_X9_init_86
        have hr2 : st_r S1 o 2 = some (o + 1) := (F.2.1 _ _).trans r2
        refine ⟨(F.1 _).trans t0, ?_⟩
        rw [hr2, E 2 (by decide), nI_1]
        refine bI_c (fun e => ?_) (fun e => ⟨fun a => ?_, fun a => ?_⟩)
        · rw [e7] at e
          rw [show iF kd (rkT k t) = 0 by unfold iF; rw [if_pos (of_decide_eq_true e)]] at T1
          exact T1
        · rw [e7] at e
          rw [show iF kd (rkT k t) = rkT k t by unfold iF; rw [if_neg (of_decide_eq_false e), if_neg a]] at T1
          exact T1
        · rw [e7] at e
          rw [show iF kd (rkT k t) = rkT k t + 1 by unfold iF; rw [if_neg (of_decide_eq_false e), if_pos a]] at T1
          exact T1
      have TB : ∀ b7, b7 = decide (kd = 0 ∨ kd = 3 ∨ kd = 5) → wp_X9_init_65 o (nI kd) (nI (dgT t)) (bI (decide (1 < t.2.2.2.2.2.2))) (nI k) (nI (rkT k t)) (bI b7) S1 g Z := by
        intro b7 e7
        unfold wp_X9_init_65 wp_X9_init_81
        rw [E0, E 2 (by decide), E 4 (by decide)]
        exact ⟨fun a => T0 b7 true e7 (decide_eq_true (by omega)).symm, fun a => ⟨fun b => T0 b7 true e7 (decide_eq_true (by omega)).symm, fun b => ⟨fun c => T0 b7 false e7 (decide_eq_false (by omega)).symm, fun c => T0 b7 true e7 (decide_eq_true (by omega)).symm⟩⟩⟩
      unfold wp_X9_init_60
      rw [E0, E 3 (by decide), E 5 (by decide)]
      exact ⟨fun a => TB true (decide_eq_true (by omega)).symm, fun a => ⟨fun b => TB true (decide_eq_true (by omega)).symm, fun b => ⟨fun c => TB false (decide_eq_false (by omega)).symm, fun c => TB true (decide_eq_true (by omega)).symm⟩⟩⟩
  exact H 3 0 S49 rfl (xf_rfl _ _) (fun sc hsc => absurd hsc (Nat.not_lt_zero sc))
theorem cq_init {o : Nat} {op : Bool} {t : tt} {S : xm_S} {g : xm_S → Prop} (ok : tOK t) (ht : st_t S o = some (9, 0)) (hf : ∀ n, o < n → st_t S n = none) (h : ∀ S', xG fA0 o S S' → frs (o + 3) S' → TO S' o (op, some t) → g S') : wp_X9_init o (nI (t.1 + 1)) (nI (dgT t)) (bI (decide (1 < t.2.2.2.2.2.2))) (bI op) S g := by
  have o1 := ok.1
  refine cq_ini (by omega) ok (fun _ => rfl) ht hf fun S' G f a1 a2 a3 a4 a5 a6 a7 a8 => h S' G f ⟨a1, a2, a3, a4, a5, a6, a7, fun sc hsc => ?_⟩
  have := a8 sc hsc
  rw [this.1, this.2]
  refine ⟨congrArg nI ?_, congrArg nI ?_⟩
  · show _ = (if t.1 = 2 ∨ t.1 = 4 then 0 else if t.1 = 1 then rkT sc t + 1 else rkT sc t)
    unfold iF
    repeat' split
    all_goals first | rfl | omega
  · show _ = (if t.1 = 1 ∨ t.1 = 3 then 1048576 else if t.1 = 2 then rkT sc t else if t.1 = 5 ∨ t.1 = 6 then rkf sc t.2.1 (nxt t.1 t.2.2.1 t.2.2.2.1 t.2.2.2.2.1 t.2.2.2.2.2.2).1 (nxt t.1 t.2.2.1 t.2.2.2.1 t.2.2.2.2.1 t.2.2.2.2.2.2).2.1 (nxt t.1 t.2.2.1 t.2.2.2.1 t.2.2.2.2.1 t.2.2.2.2.2.2).2.2 0 else rkT sc t + 1)
    generalize rkf sc t.2.1 (nxt t.1 t.2.2.1 t.2.2.2.1 t.2.2.2.2.1 t.2.2.2.2.2.2).1 (nxt t.1 t.2.2.1 t.2.2.2.1 t.2.2.2.2.1 t.2.2.2.2.2.2).2.1 (nxt t.1 t.2.2.1 t.2.2.2.1 t.2.2.2.2.1 t.2.2.2.2.2.2).2.2 0 = q
    unfold iB
    repeat' split
    all_goals first | rfl | omega
theorem cq_initS {o : Nat} {S : xm_S} {g : xm_S → Prop} (ht : st_t S o = some (9, 0)) (hf : ∀ n, o < n → st_t S n = none) (h : ∀ S', xG fA0 o S S' → frs (o + 3) S' → TO S' o (true, none) → g S') : wp_X9_init o (0 : Int32) (nI 10) (0 : Int32) (1 : Int32) S g := by
  refine cq_ini (kd := 0) (t := (0, 0, 0, 0, 0, 0, 1)) (op := true) (by decide) (by unfold tOK; decide) (fun e => absurd e (by decide)) ht hf fun S' G f a1 a2 a3 a4 a5 a6 a7 a8 => h S' G f ⟨a1, a2, a3, a4, a5, a6, a7, fun sc hsc => a8 sc hsc⟩
theorem acc_iff {sc n : Nat} {x : Option tt} (hs : sc ≤ 2) (hn : n < 100000) (ok : ∀ t, x = some t → tOK t) : (frx sc x ≤ rkN sc n ∧ rkN sc n < bex sc x) ↔ xt sc n x = true := by
  have hr : rkN sc n < 1048576 := rkf_lt (by omega) (by omega) (by omega) (by omega) (by omega)
  cases x with
  | none => exact ⟨fun _ => rfl, fun _ => ⟨Nat.zero_le _, hr⟩⟩
  | some t =>
    have ok := ok t rfl
    obtain ⟨o1, o2, o3, o4, o5, o6, o7, o8⟩ := ok
    have hb := nxt_b t.1 t.2.2.1 t.2.2.2.1 t.2.2.2.2.1 t.2.2.2.2.2.2 ⟨o3, o4, o5⟩
    have A := rk_ky (sc := sc) (e := n / 10000) (M := n / 1000 % 10) (m := n / 100 % 10) (p := n / 10 % 10) (v := n % 10) (e' := t.2.1) (M' := t.2.2.1) (m' := t.2.2.2.1) (p' := t.2.2.2.2.1) (v' := t.2.2.2.2.2.1) hs ⟨by omega, by omega, by omega, by omega, by omega⟩ ⟨by omega, by omega, by omega, by omega, by omega⟩
    have B := rk_ky (sc := sc) (e := n / 10000) (M := n / 1000 % 10) (m := n / 100 % 10) (p := n / 10 % 10) (v := n % 10) (e' := t.2.1) (v' := 0) hs ⟨by omega, by omega, by omega, by omega, by omega⟩ ⟨by omega, hb.1, hb.2.1, hb.2.2, by omega⟩
    have A1 : (rkN sc n < rkT sc t ↔ kyN sc n < kyT sc t) := A.1
    have A2 : (rkN sc n = rkT sc t ↔ kyN sc n = kyT sc t) := A.2
    have B1 := B.1
    rw [show rkf sc (n / 10000) (n / 1000 % 10) (n / 100 % 10) (n / 10 % 10) (n % 10) = rkN sc n from rfl, show ky sc (n / 10000) (n / 1000 % 10) (n / 100 % 10) (n / 10 % 10) (n % 10) = kyN sc n from rfl] at B1
    show ((if t.1 = 2 ∨ t.1 = 4 then 0 else if t.1 = 1 then rkT sc t + 1 else rkT sc t) ≤ rkN sc n ∧ rkN sc n < (if t.1 = 1 ∨ t.1 = 3 then 1048576 else if t.1 = 2 then rkT sc t else if t.1 = 5 ∨ t.1 = 6 then rkf sc t.2.1 (nxt t.1 t.2.2.1 t.2.2.2.1 t.2.2.2.2.1 t.2.2.2.2.2.2).1 (nxt t.1 t.2.2.1 t.2.2.2.1 t.2.2.2.2.1 t.2.2.2.2.2.2).2.1 (nxt t.1 t.2.2.1 t.2.2.2.1 t.2.2.2.2.1 t.2.2.2.2.2.2).2.2 0 else rkT sc t + 1)) ↔ tsv sc n t = true
    unfold tsv
    generalize rkf sc t.2.1 (nxt t.1 t.2.2.1 t.2.2.2.1 t.2.2.2.2.1 t.2.2.2.2.2.2).1 (nxt t.1 t.2.2.1 t.2.2.2.1 t.2.2.2.2.1 t.2.2.2.2.2.2).2.1 (nxt t.1 t.2.2.1 t.2.2.2.1 t.2.2.2.2.1 t.2.2.2.2.2.2).2.2 0 = q at *
    generalize ky sc t.2.1 (nxt t.1 t.2.2.1 t.2.2.2.1 t.2.2.2.2.1 t.2.2.2.2.2.2).1 (nxt t.1 t.2.2.1 t.2.2.2.1 t.2.2.2.2.1 t.2.2.2.2.2.2).2.1 (nxt t.1 t.2.2.1 t.2.2.2.1 t.2.2.2.2.1 t.2.2.2.2.2.2).2.2 0 = w at *
    generalize rkN sc n = a at *
    generalize rkT sc t = b at *
    generalize kyN sc n = c at *
    generalize kyT sc t = d at *
    have cs : t.1 = 0 ∨ t.1 = 1 ∨ t.1 = 2 ∨ t.1 = 3 ∨ t.1 = 4 ∨ t.1 = 5 ∨ t.1 = 6 := by omega
    clear o1 o2 o3 o4 o5 o6 o7 o8 hb A B
    rcases cs with h | h | h | h | h | h | h <;> rw [h] <;> simp only [decide_eq_true_iff] <;> simp <;> omega
