-- the law's loop
def E12 (n _k : Nat) : Bool := n == 1200
theorem E12_f {n k : Nat} (h : n ≠ 1200) : E12 n k = false := beq_eq_false_iff_ne.mpr h
theorem CR_1200 {S : xm_S} {V : VV} {N : Nat} {ty : Nat × Nat} (C : CR S V N) (I : Iv V) (hn : st_t S 1200 = none) : CR (st_nw S 1200 ty) V N := by
  have K : KX E12 E12 N S (st_nw S 1200 ty) := KX_nw (KX_rfl _ _ _ _) hn (fun _ => rfl) (fun _ => rfl)
  obtain ⟨hN, hf, c1, c2, c3, c4, c5, c6, c7, c8, c9, c10, c11, c12, c13⟩ := C
  refine ⟨hN, fun n hn => by rw [st_t_nw, if_neg (by omega)]; exact hf n hn, gS_X c1 K hN (fun k => E12_f (by omega)), gX_X c2 c1 K hN (fun k => E12_f (by omega)) (fun _ _ => rfl), gO_X c3 K hN (fun k hk => E12_f (by omega)), gT_X c4 K hN (E12_f (by omega)) (E12_f (by omega)) (fun k => E12_f (by omega)) (eT_r _ _), gP_X c5 K hN (fun n k hn => E12_f (by omega)) (fun n k g1 g2 => E12_f (by omega)) (fun _ _ => ⟨rfl, rfl⟩), gV_X I c6 K hN (Nat.le_refl _) (fun n k hn => E12_f (by omega)) (fun n k hn => E12_f (by omega)), gW_X c7 K hN (Nat.le_refl _) (fun n k hn => E12_f (by omega)) (fun n k hn => E12_f (by omega)) rfl (fun _ _ => ⟨eT_r _ _, rfl, rfl⟩), gA_X c8 K hN (Nat.le_refl _) (fun n k hn => E12_f (by omega)) (fun n k hn => E12_f (by omega)) rfl (fun _ _ => ⟨eT_r _ _, rfl, rfl⟩), gL_X c9 c1 K hN (fun n k hn => E12_f (by omega)) (fun n k hn => E12_f (by omega)) (fun _ _ _ => rfl), gM_X c10 K hN (fun n k hn => E12_f (by omega)) (fun _ _ _ _ => rfl), gI1_X c11 K hN (fun n k hn => E12_f (by omega)), gI2_X c12 c11 c1 K hN (fun n k hn => E12_f (by omega)) (fun _ _ _ => rfl), gI3_X c13 c11 K hN (fun k => E12_f (by omega)) (fun n k hn => E12_f (by omega)) I.2.2.2.2.2.2.2.2.2.1.2 (fun _ _ _ => rfl)⟩
theorem i_cond {len i : Nat} (hl : len < 2 ^ 30) (hi : 7 * i < 2 ^ 30) : nI len - nI 7 < nI (7 * i) ↔ len < 7 * i + 7 := by
  rw [fa_lt, pk_sub_toInt hl (by decide), nI_toInt (by omega)]
  omega
theorem i_sel (x : Int32) : ∃ k, k < 64 ∧ x &&& nI 63 = nI k := by
  have e : x = nI x.toBitVec.toNat := by
    apply Int32.toBitVec_inj.1
    show x.toBitVec = BitVec.ofNat 32 x.toBitVec.toNat
    simp
  have h := fa_mask x.toBitVec.toNat 6
  rw [← e] at h
  exact ⟨_, Nat.mod_lt _ (by decide), h⟩
theorem bd_c {i kc : Nat} (h : kc ≤ 451 + 1000 * i) (hx : i < 512) : kc + 1000 ≤ 601024 ∧ kc + 1000 ≤ 451 + 1000 * (i + 1) := by omega
theorem bd_s {i ks : Nat} (h : ks ≤ 11423 + 10000 * i) (hx : i < 512) : ks + 10000 ≤ 7293034 ∧ ks + 10000 ≤ 11423 + 10000 * (i + 1) := by omega
set_option maxRecDepth 20000 in
set_option maxHeartbeats 4000000 in
theorem i_loop {b len : Nat} {xs : Nat → Int32} {g : Int32 → xm_S → Prop} (hL : len ≤ 3584) (hg : ∀ S, g 1 S) {S : xm_S} {V : VV} {N kc ks : Nat} (R : RR S V V N) (I : Iv V) (hm : vn V 54 0 ≤ 0) (hk : kc ≤ 451) (hs : ks ≤ 11423) : wp_L_law_23 b len xs (some 1) (some 1000) (some 1200) (0 : Int32) S kc ks g := by
  unfold wp_L_law_23
  intro Z hZ
  have H : ∀ d i S V N kc ks, i + d = 513 → RR S V V N → Iv V → vn V 54 0 ≤ i → kc ≤ 451 + 1000 * i → ks ≤ 11423 + 10000 * i → Z (some 1) (some 1000) (some 1200) (nI (7 * i)) S kc ks := by
    intro d
    induction d with
    | zero =>
      intro i S V N kc ks hi R I hm hk hs
      have c := (i_cond (len := len) (i := i) (by omega) (by omega)).mpr (by omega)
      refine hZ _ _ _ _ _ _ _ ?_
      unfold wp_L_law_23B
      exact ⟨fun _ => ⟨by omega, by omega, hg S⟩, fun n => absurd c n⟩
    | succ d ih =>
      intro i S V N kc ks hi R I hm hk hs
      refine hZ _ _ _ _ _ _ _ ?_
      unfold wp_L_law_23B
      refine ⟨fun _ => ⟨by omega, by omega, hg S⟩, fun n => ?_⟩
      have hlen : 7 * i + 7 ≤ len := Nat.le_of_not_lt fun q => n ((i_cond (by omega) (by omega)).mpr q)
      have hx : i < 512 := by omega
      have v0 : vp_in (nI (7 * i)) len := vp_in_nI (by omega) (by omega)
      have v1 : vp_in (nI (7 * i) + (1 : Int32)) len := by rw [nI_1]; exact vp_in_nI (by omega) (by omega)
      have v2 : vp_in (nI (7 * i) + nI 2) len := by rw [nI_add]; exact vp_in_nI (by omega) (by omega)
      have v3 : vp_in (nI (7 * i) + nI 3) len := by rw [nI_add]; exact vp_in_nI (by omega) (by omega)
      have v4 : vp_in (nI (7 * i) + nI 4) len := by rw [nI_add]; exact vp_in_nI (by omega) (by omega)
      have v5 : vp_in (nI (7 * i) + nI 5) len := by rw [nI_add]; exact vp_in_nI (by omega) (by omega)
      have v6 : vp_in (nI (7 * i) + nI 6) len := by rw [nI_add]; exact vp_in_nI (by omega) (by omega)
      obtain ⟨n1, eb⟩ := bd_c hk hx
      obtain ⟨n2, es⟩ := bd_s hs hx
      have n3 : ∀ S' V' N' kc' ks', RR S' V' V' N' → Iv V' → vn V' 54 0 ≤ i + 1 → kc' ≤ kc + 1000 → ks' ≤ ks + 10000 → wp_L_law_2965 b len xs (some 1) (some 1000) (some 1200) (nI (7 * i)) S' kc' ks' g Z := by
        intro S' V' N' kc' ks' R' I' m' h1 h2
        unfold wp_L_law_2965
        intro y ey
        rw [ey, nI_add, show 7 * i + 7 = 7 * (i + 1) by omega]
        exact ih (i + 1) S' V' N' kc' ks' (by omega) R' I' m' (Nat.le_trans h1 eb) (Nat.le_trans h2 es)
      have nx : NX i b len xs (nI (7 * i)) kc ks g Z := ⟨n1, n2, n3⟩
      obtain ⟨k, hk64, ek⟩ := i_sel (xs (nI (7 * i)).toNatClampNeg)
      have hk0 : 0 ≤ (xs (nI (7 * i)).toNatClampNeg &&& nI 63).toInt := by
        rw [ek, nI_toInt (by omega)]
        omega
      clear ih hZ n
      exact ⟨v0, hk0, fun _ => lc_type R I hm nx v1 v2 v3, fun _ => lc_wipe R I hm nx, fun _ => lc_fault R I hm nx, fun _ => lc_scheme R I hm nx v1 v2, fun _ => lc_version R I hm nx v1 v2 v3 v4 v5, fun _ => lc_need R I hm nx v1 v2 v3 v4 v5 v6, fun _ => lc_conflict R I hm nx v1 v2 v3, fun _ => lc_provide R I hm nx v1 v2 v3 v4, fun _ => lc_yank R I hm nx v1 v2 v3, fun _ => lc_compare R I hm nx v1 v2 v3, fun _ => lc_within R I hm nx v1, fun _ => lc_wish R I hm nx v1 v2, fun _ => lc_unwish R I hm nx, fun _ => lc_policy R I hm nx v1, fun _ => lc_solve R I hm nx v1 v2, fun _ => lc_proposed R I hm nx v1 v2, fun _ => lc_closures R I hm nx v1, fun _ => lc_story R I hm nx v1, fun _ => lc_lock R I hm nx v1, fun _ => lc_locked R I hm nx v1 v2, fun _ => lc_holds R I hm nx v1, fun _ => lc_advise R I hm nx v1 v2, fun _ => lc_advised R I hm nx v1 v2, fun _ => lc_pass R I hm nx v1, fun _ => lc_role R I hm nx v1 v2 v3, fun _ => lc_index R I hm nx v1 v2 v3, fun _ => lc_mirror R I hm nx v1 v2 v3 v4, fun _ => lc_shut R I hm nx v1 v2, fun _ => lc_fetch R I hm nx v1 v2, fun _ => lc_lies R I hm nx v1, fun _ => lc_file R I hm nx v1 v2 v3 v4 v5, fun _ => lc_divert R I hm nx v1 v2 v3, fun _ => lc_install R I hm hx nx v1 v2, fun _ => lc_steps R I hm nx, fun _ => lc_edit R I hm nx v1 v2, fun _ => lc_path R I hm nx v1 v2, fun _ => lc_installed R I hm nx v1, fun _ => lc_aside R I hm nx, fun _ => lc_run R I hm nx v1 v2, fun _ => lc_rollback R I hm nx v1, fun _ => lc_collect R I hm nx, fun _ => lc_generation R I hm nx, fun _ => lc_generations R I hm nx, fun _ => nx.2.2 S V N kc ks R I (by omega) (by omega) (by omega)⟩
  exact H 513 0 S V N kc ks rfl R I hm hk hs
def S00 : xm_S := (fun _ => none, fun _ _ => 0, fun _ _ => none, fun _ _ => 0)
set_option maxHeartbeats 4000000 in
theorem i_law {b len : Nat} {xs : Nat → Int32} (hL : len ≤ 3584) : wp_L_law b len xs S00 (fun r _ => r = 1) := by
  unfold wp_L_law
  refine ⟨by omega, by omega, 1, rfl, fun S1 e1 => ⟨by omega, by omega, i_X11 (by rw [e1]; rfl) (fun m hm => by rw [e1, st_t_nw, if_neg hm]; rfl) fun S2 C2 f2 => ⟨by omega, by omega, 1000, f2 1000 (by decide), fun S3 e3 => ⟨by omega, by omega, i_X12 (by rw [e3, st_t_nw, if_pos rfl]) (fun k => by rw [e3, st_i_nw, if_pos rfl]) (fun f hf => by rw [e3, st_t_nw, if_neg (by omega)]; exact f2 _ (by omega)) fun S4 K4 M4 => ?_⟩⟩⟩⟩
  have K3 : KC S2 S3 := fun n hn => ⟨by rw [e3, st_t_nw, if_neg (by omega)], fun k => by rw [e3, st_r_nw, if_neg (by omega)], fun k => by rw [e3, st_l_nw, if_neg (by omega)], fun k => by rw [e3, st_i_nw, if_neg (by omega)]⟩
  have K := KC_tr K3 K4
  have C4 : CR S4 V0 2000 := CR_K C2 Iv_0 K
  have n4 : st_t S4 1200 = none := (K 1200 (by omega)).1.trans (f2 1200 (by decide))
  refine ⟨by omega, by omega, 1200, n4, fun S5 e5 => i_loop hL (fun _ => rfl) (V := V0) (N := 2000) ⟨?_, ?_, ?_⟩ Iv_0 (Nat.le_of_eq (vn_z rfl)) (by omega) (by omega)⟩
  · rw [e5]; exact CR_1200 C4 Iv_0 n4
  · exact MR_K M4 fun n a b => by
      rw [e5]
      exact ⟨by rw [st_t_nw, if_neg (by omega)], fun k => by rw [st_r_nw, if_neg (by omega)], fun k => by rw [st_l_nw, if_neg (by omega)], fun k => by rw [st_i_nw, if_neg (by omega)]⟩
  · rw [e5, st_t_nw, if_pos rfl]
