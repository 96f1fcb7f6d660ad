def rm_X7_init : Room := { frames := 1, cells := 5, slots := 49, locals := 20 }
theorem dX7_init_0 : decode cX7_init 0 = .ok (.aload_n 0, 1) := by decide +kernel
theorem dX7_init_1 : decode cX7_init 1 = .ok (.invokespecial 3, 3) := by decide +kernel
theorem dX7_init_4 : decode cX7_init 4 = .ok (.aload_n 0, 1) := by decide +kernel
theorem dX7_init_5 : decode cX7_init 5 = .ok (.aconst_null, 1) := by decide +kernel
theorem dX7_init_6 : decode cX7_init 6 = .ok (.putfield 9, 3) := by decide +kernel
theorem dX7_init_9 : decode cX7_init 9 = .ok (.aload_n 0, 1) := by decide +kernel
theorem dX7_init_10 : decode cX7_init 10 = .ok (.aconst_null, 1) := by decide +kernel
theorem dX7_init_11 : decode cX7_init 11 = .ok (.putfield 15, 3) := by decide +kernel
theorem dX7_init_14 : decode cX7_init 14 = .ok (.aload_n 0, 1) := by decide +kernel
theorem dX7_init_15 : decode cX7_init 15 = .ok (.iconst 0, 1) := by decide +kernel
theorem dX7_init_16 : decode cX7_init 16 = .ok (.putfield 19, 3) := by decide +kernel
theorem dX7_init_19 : decode cX7_init 19 = .ok (.aload_n 0, 1) := by decide +kernel
theorem dX7_init_20 : decode cX7_init 20 = .ok (.iconst 0, 1) := by decide +kernel
theorem dX7_init_21 : decode cX7_init 21 = .ok (.putfield 23, 3) := by decide +kernel
theorem dX7_init_24 : decode cX7_init 24 = .ok (.aload_n 0, 1) := by decide +kernel
theorem dX7_init_25 : decode cX7_init 25 = .ok (.bipush 24, 2) := by decide +kernel
theorem dX7_init_27 : decode cX7_init 27 = .ok (.newarray .int, 2) := by decide +kernel
theorem dX7_init_29 : decode cX7_init 29 = .ok (.putfield 26, 3) := by decide +kernel
theorem dX7_init_32 : decode cX7_init 32 = .ok (.aload_n 0, 1) := by decide +kernel
theorem dX7_init_33 : decode cX7_init 33 = .ok (.bipush 6, 2) := by decide +kernel
theorem dX7_init_35 : decode cX7_init 35 = .ok (.newarray .int, 2) := by decide +kernel
theorem dX7_init_37 : decode cX7_init 37 = .ok (.putfield 30, 3) := by decide +kernel
theorem dX7_init_40 : decode cX7_init 40 = .ok (.aload_n 0, 1) := by decide +kernel
theorem dX7_init_41 : decode cX7_init 41 = .ok (.iconst 0, 1) := by decide +kernel
theorem dX7_init_42 : decode cX7_init 42 = .ok (.putfield 33, 3) := by decide +kernel
theorem dX7_init_45 : decode cX7_init 45 = .ok (.aload_n 0, 1) := by decide +kernel
theorem dX7_init_46 : decode cX7_init 46 = .ok (.iconst 0, 1) := by decide +kernel
theorem dX7_init_47 : decode cX7_init 47 = .ok (.putfield 36, 3) := by decide +kernel
theorem dX7_init_50 : decode cX7_init 50 = .ok (.aload_n 0, 1) := by decide +kernel
theorem dX7_init_51 : decode cX7_init 51 = .ok (.iconst 0, 1) := by decide +kernel
theorem dX7_init_52 : decode cX7_init 52 = .ok (.putfield 39, 3) := by decide +kernel
theorem dX7_init_55 : decode cX7_init 55 = .ok (.aload_n 0, 1) := by decide +kernel
theorem dX7_init_56 : decode cX7_init 56 = .ok (.bipush 7, 2) := by decide +kernel
theorem dX7_init_58 : decode cX7_init 58 = .ok (.newarray .int, 2) := by decide +kernel
theorem dX7_init_60 : decode cX7_init 60 = .ok (.putfield 42, 3) := by decide +kernel
theorem dX7_init_63 : decode cX7_init 63 = .ok (.aload_n 0, 1) := by decide +kernel
theorem dX7_init_64 : decode cX7_init 64 = .ok (.bipush 6, 2) := by decide +kernel
theorem dX7_init_66 : decode cX7_init 66 = .ok (.newarray .int, 2) := by decide +kernel
theorem dX7_init_68 : decode cX7_init 68 = .ok (.putfield 45, 3) := by decide +kernel
theorem dX7_init_71 : decode cX7_init 71 = .ok (.aload_n 0, 1) := by decide +kernel
theorem dX7_init_72 : decode cX7_init 72 = .ok (.iconst 0, 1) := by decide +kernel
theorem dX7_init_73 : decode cX7_init 73 = .ok (.putfield 48, 3) := by decide +kernel
theorem dX7_init_76 : decode cX7_init 76 = .ok (.aload_n 0, 1) := by decide +kernel
theorem dX7_init_77 : decode cX7_init 77 = .ok (.iconst 0, 1) := by decide +kernel
theorem dX7_init_78 : decode cX7_init 78 = .ok (.putfield 51, 3) := by decide +kernel
theorem dX7_init_81 : decode cX7_init 81 = .ok (.aload_n 0, 1) := by decide +kernel
theorem dX7_init_82 : decode cX7_init 82 = .ok (.iconst 0, 1) := by decide +kernel
theorem dX7_init_83 : decode cX7_init 83 = .ok (.putfield 54, 3) := by decide +kernel
theorem dX7_init_86 : decode cX7_init 86 = .ok (.aload_n 0, 1) := by decide +kernel
theorem dX7_init_87 : decode cX7_init 87 = .ok (.iconst 0, 1) := by decide +kernel
theorem dX7_init_88 : decode cX7_init 88 = .ok (.putfield 57, 3) := by decide +kernel
theorem dX7_init_91 : decode cX7_init 91 = .ok (.aload_n 0, 1) := by decide +kernel
theorem dX7_init_92 : decode cX7_init 92 = .ok (.bipush 6, 2) := by decide +kernel
theorem dX7_init_94 : decode cX7_init 94 = .ok (.newarray .int, 2) := by decide +kernel
theorem dX7_init_96 : decode cX7_init 96 = .ok (.putfield 60, 3) := by decide +kernel
theorem dX7_init_99 : decode cX7_init 99 = .ok (.aload_n 0, 1) := by decide +kernel
theorem dX7_init_100 : decode cX7_init 100 = .ok (.iconst 0, 1) := by decide +kernel
theorem dX7_init_101 : decode cX7_init 101 = .ok (.putfield 63, 3) := by decide +kernel
theorem dX7_init_104 : decode cX7_init 104 = .ok (.aload_n 0, 1) := by decide +kernel
theorem dX7_init_105 : decode cX7_init 105 = .ok (.iconst 0, 1) := by decide +kernel
theorem dX7_init_106 : decode cX7_init 106 = .ok (.putfield 66, 3) := by decide +kernel
theorem dX7_init_109 : decode cX7_init 109 = .ok (.return_, 1) := by decide +kernel
def wp_X7_init (h : Nat)  (S : xm_S) (g : xm_S → Prop) : Prop :=
  st_t S h = some (7, 0) ∧ ∀ S2, S2 = st_pr S h 0 none → ∀ S4, S4 = st_pr S2 h 1 none → ∀ S6, S6 = st_pi S4 h 2 (0 : Int32) → ∀ S8, S8 = st_pi S6 h 3 (0 : Int32) → ∃ n10, st_t S8 n10 = none ∧ ∀ S12, S12 = st_nw S8 n10 (100, 24) → ∀ S14, S14 = st_pr S12 h 4 (some n10) → ∃ n16, st_t S14 n16 = none ∧ ∀ S18, S18 = st_nw S14 n16 (100, 6) → ∀ S20, S20 = st_pr S18 h 5 (some n16) → ∀ S22, S22 = st_pi S20 h 6 (0 : Int32) → ∀ S24, S24 = st_pi S22 h 7 (0 : Int32) → ∀ S26, S26 = st_pi S24 h 8 (0 : Int32) → ∃ n28, st_t S26 n28 = none ∧ ∀ S30, S30 = st_nw S26 n28 (100, 7) → ∀ S32, S32 = st_pr S30 h 9 (some n28) → ∃ n34, st_t S32 n34 = none ∧ ∀ S36, S36 = st_nw S32 n34 (100, 6) → ∀ S38, S38 = st_pr S36 h 10 (some n34) → ∀ S40, S40 = st_pi S38 h 11 (0 : Int32) → ∀ S42, S42 = st_pi S40 h 12 (0 : Int32) → ∀ S44, S44 = st_pi S42 h 13 (0 : Int32) → ∀ S46, S46 = st_pi S44 h 14 (0 : Int32) → ∃ n48, st_t S46 n48 = none ∧ ∀ S50, S50 = st_nw S46 n48 (100, 6) → ∀ S52, S52 = st_pr S50 h 15 (some n48) → ∀ S54, S54 = st_pi S52 h 16 (0 : Int32) → ∀ S56, S56 = st_pi S54 h 17 (0 : Int32) → g S56
set_option maxRecDepth 100000 in
set_option maxHeartbeats 4000000 in
theorem kp_X7_init {K : xm_K} (h : Nat)  (S : xm_S) {g : xm_S → Prop} (C : xm_Cx K cX7_init RX7 1 none rm_X7_init) (N : xm_Nx K) (hini : xm_init K) (hg : ∀ S, g S → xm_q K none S)  (h1 : wp_X7_init h  S g) : xm_W K 0 0 0 [(0, xm_r (some h))] [] S := by
  unfold wp_X7_init at h1
  refine x_aload_n C 0 dX7_init_0 rfl rfl ?_
  refine x_objInit (n := h) C rfl gw_217 (Nat.le_of_ble_eq_true rfl) (Nat.le_of_ble_eq_true rfl) (Nat.le_of_ble_eq_true rfl) dX7_init_1 gw_1 gw_2 ?_
  refine x_aload_n C 0 dX7_init_4 rfl rfl ?_
  refine x_null C dX7_init_5 ?_
  obtain ⟨ht1, h1⟩ := h1
  refine x_putf_r (n := h) C rfl ht1 fd_58 xc_7 (by decide) rfl (xm_nr rfl) dX7_init_6 ?_
  refine x_topS (fun S2 e3 => ?_)
  have h1 := h1 S2 e3
  refine x_aload_n C 0 dX7_init_9 rfl rfl ?_
  refine x_null C dX7_init_10 ?_
  refine x_putf_r (n := h) C rfl (tk_p e3 ht1) fd_63 xc_7 (by decide) rfl (xm_nr rfl) dX7_init_11 ?_
  refine x_topS (fun S4 e5 => ?_)
  have h1 := h1 S4 e5
  refine x_aload_n C 0 dX7_init_14 rfl rfl ?_
  refine x_iconst (v := (0 : Int32)) C dX7_init_15 (by decide) ?_
  refine x_putf_i (n := h) C rfl (tk_p e5 (tk_p e3 ht1)) fd_61 xc_7 (by decide) rfl ⟨rfl, rfl⟩ dX7_init_16 ?_
  refine x_topS (fun S6 e7 => ?_)
  have h1 := h1 S6 e7
  refine x_aload_n C 0 dX7_init_19 rfl rfl ?_
  refine x_iconst (v := (0 : Int32)) C dX7_init_20 (by decide) ?_
  refine x_putf_i (n := h) C rfl (tk_p e7 (tk_p e5 (tk_p e3 ht1))) fd_54 xc_7 (by decide) rfl ⟨rfl, rfl⟩ dX7_init_21 ?_
  refine x_topS (fun S8 e9 => ?_)
  have h1 := h1 S8 e9
  refine x_aload_n C 0 dX7_init_24 rfl rfl ?_
  refine x_bipush (v := (nI 24)) C dX7_init_25 (by decide) ?_
  obtain ⟨n10, hn11, h1⟩ := h1
  refine x_newa_i (n := n10) (len := 24) C gw_11 (by decide) (by decide) hn11 (Nat.le_of_ble_eq_true rfl) (Nat.le_of_ble_eq_true rfl) dX7_init_27 ?_
  refine x_topS (fun S12 e13 => ?_)
  have h1 := h1 S12 e13
  refine x_putfF_r (n := h) C rfl (tk_n e13 hn11 (tk_p e9 (tk_p e7 (tk_p e5 (tk_p e3 ht1))))) fd_72 xc_7 (by decide) rfl hini rfl (xm_nr rfl) dX7_init_29 ?_
  refine x_topS (fun S14 e15 => ?_)
  have h1 := h1 S14 e15
  refine x_aload_n C 0 dX7_init_32 rfl rfl ?_
  refine x_bipush (v := (nI 6)) C dX7_init_33 (by decide) ?_
  obtain ⟨n16, hn17, h1⟩ := h1
  refine x_newa_i (n := n16) (len := 6) C gw_11 (by decide) (by decide) hn17 (Nat.le_of_ble_eq_true rfl) (Nat.le_of_ble_eq_true rfl) dX7_init_35 ?_
  refine x_topS (fun S18 e19 => ?_)
  have h1 := h1 S18 e19
  refine x_putfF_r (n := h) C rfl (tk_n e19 hn17 (tk_p e15 (tk_n e13 hn11 (tk_p e9 (tk_p e7 (tk_p e5 (tk_p e3 ht1))))))) fd_71 xc_7 (by decide) rfl hini rfl (xm_nr rfl) dX7_init_37 ?_
  refine x_topS (fun S20 e21 => ?_)
  have h1 := h1 S20 e21
  refine x_aload_n C 0 dX7_init_40 rfl rfl ?_
  refine x_iconst (v := (0 : Int32)) C dX7_init_41 (by decide) ?_
  refine x_putf_i (n := h) C rfl (tk_p e21 (tk_n e19 hn17 (tk_p e15 (tk_n e13 hn11 (tk_p e9 (tk_p e7 (tk_p e5 (tk_p e3 ht1)))))))) fd_74 xc_7 (by decide) rfl ⟨rfl, rfl⟩ dX7_init_42 ?_
  refine x_topS (fun S22 e23 => ?_)
  have h1 := h1 S22 e23
  refine x_aload_n C 0 dX7_init_45 rfl rfl ?_
  refine x_iconst (v := (0 : Int32)) C dX7_init_46 (by decide) ?_
  refine x_putf_i (n := h) C rfl (tk_p e23 (tk_p e21 (tk_n e19 hn17 (tk_p e15 (tk_n e13 hn11 (tk_p e9 (tk_p e7 (tk_p e5 (tk_p e3 ht1))))))))) fd_62 xc_7 (by decide) rfl ⟨rfl, rfl⟩ dX7_init_47 ?_
  refine x_topS (fun S24 e25 => ?_)
  have h1 := h1 S24 e25
  refine x_aload_n C 0 dX7_init_50 rfl rfl ?_
  refine x_iconst (v := (0 : Int32)) C dX7_init_51 (by decide) ?_
  refine x_putf_i (n := h) C rfl (tk_p e25 (tk_p e23 (tk_p e21 (tk_n e19 hn17 (tk_p e15 (tk_n e13 hn11 (tk_p e9 (tk_p e7 (tk_p e5 (tk_p e3 ht1)))))))))) fd_66 xc_7 (by decide) rfl ⟨rfl, rfl⟩ dX7_init_52 ?_
  refine x_topS (fun S26 e27 => ?_)
  have h1 := h1 S26 e27
  refine x_aload_n C 0 dX7_init_55 rfl rfl ?_
  refine x_bipush (v := (nI 7)) C dX7_init_56 (by decide) ?_
  obtain ⟨n28, hn29, h1⟩ := h1
  refine x_newa_i (n := n28) (len := 7) C gw_11 (by decide) (by decide) hn29 (Nat.le_of_ble_eq_true rfl) (Nat.le_of_ble_eq_true rfl) dX7_init_58 ?_
  refine x_topS (fun S30 e31 => ?_)
  have h1 := h1 S30 e31
  refine x_putfF_r (n := h) C rfl (tk_n e31 hn29 (tk_p e27 (tk_p e25 (tk_p e23 (tk_p e21 (tk_n e19 hn17 (tk_p e15 (tk_n e13 hn11 (tk_p e9 (tk_p e7 (tk_p e5 (tk_p e3 ht1)))))))))))) fd_73 xc_7 (by decide) rfl hini rfl (xm_nr rfl) dX7_init_60 ?_
  refine x_topS (fun S32 e33 => ?_)
  have h1 := h1 S32 e33
  refine x_aload_n C 0 dX7_init_63 rfl rfl ?_
  refine x_bipush (v := (nI 6)) C dX7_init_64 (by decide) ?_
  obtain ⟨n34, hn35, h1⟩ := h1
  refine x_newa_i (n := n34) (len := 6) C gw_11 (by decide) (by decide) hn35 (Nat.le_of_ble_eq_true rfl) (Nat.le_of_ble_eq_true rfl) dX7_init_66 ?_
  refine x_topS (fun S36 e37 => ?_)
  have h1 := h1 S36 e37
  refine x_putfF_r (n := h) C rfl (tk_n e37 hn35 (tk_p e33 (tk_n e31 hn29 (tk_p e27 (tk_p e25 (tk_p e23 (tk_p e21 (tk_n e19 hn17 (tk_p e15 (tk_n e13 hn11 (tk_p e9 (tk_p e7 (tk_p e5 (tk_p e3 ht1)))))))))))))) fd_60 xc_7 (by decide) rfl hini rfl (xm_nr rfl) dX7_init_68 ?_
  refine x_topS (fun S38 e39 => ?_)
  have h1 := h1 S38 e39
  refine x_aload_n C 0 dX7_init_71 rfl rfl ?_
  refine x_iconst (v := (0 : Int32)) C dX7_init_72 (by decide) ?_
  refine x_putf_i (n := h) C rfl (tk_p e39 (tk_n e37 hn35 (tk_p e33 (tk_n e31 hn29 (tk_p e27 (tk_p e25 (tk_p e23 (tk_p e21 (tk_n e19 hn17 (tk_p e15 (tk_n e13 hn11 (tk_p e9 (tk_p e7 (tk_p e5 (tk_p e3 ht1))))))))))))))) fd_70 xc_7 (by decide) rfl ⟨rfl, rfl⟩ dX7_init_73 ?_
  refine x_topS (fun S40 e41 => ?_)
  have h1 := h1 S40 e41
  refine x_aload_n C 0 dX7_init_76 rfl rfl ?_
  refine x_iconst (v := (0 : Int32)) C dX7_init_77 (by decide) ?_
  refine x_putf_i (n := h) C rfl (tk_p e41 (tk_p e39 (tk_n e37 hn35 (tk_p e33 (tk_n e31 hn29 (tk_p e27 (tk_p e25 (tk_p e23 (tk_p e21 (tk_n e19 hn17 (tk_p e15 (tk_n e13 hn11 (tk_p e9 (tk_p e7 (tk_p e5 (tk_p e3 ht1)))))))))))))))) fd_49 xc_7 (by decide) rfl ⟨rfl, rfl⟩ dX7_init_78 ?_
  refine x_topS (fun S42 e43 => ?_)
  have h1 := h1 S42 e43
  refine x_aload_n C 0 dX7_init_81 rfl rfl ?_
  refine x_iconst (v := (0 : Int32)) C dX7_init_82 (by decide) ?_
  refine x_putf_i (n := h) C rfl (tk_p e43 (tk_p e41 (tk_p e39 (tk_n e37 hn35 (tk_p e33 (tk_n e31 hn29 (tk_p e27 (tk_p e25 (tk_p e23 (tk_p e21 (tk_n e19 hn17 (tk_p e15 (tk_n e13 hn11 (tk_p e9 (tk_p e7 (tk_p e5 (tk_p e3 ht1))))))))))))))))) fd_50 xc_7 (by decide) rfl ⟨rfl, rfl⟩ dX7_init_83 ?_
  refine x_topS (fun S44 e45 => ?_)
  have h1 := h1 S44 e45
  refine x_aload_n C 0 dX7_init_86 rfl rfl ?_
  refine x_iconst (v := (0 : Int32)) C dX7_init_87 (by decide) ?_
  refine x_putf_i (n := h) C rfl (tk_p e45 (tk_p e43 (tk_p e41 (tk_p e39 (tk_n e37 hn35 (tk_p e33 (tk_n e31 hn29 (tk_p e27 (tk_p e25 (tk_p e23 (tk_p e21 (tk_n e19 hn17 (tk_p e15 (tk_n e13 hn11 (tk_p e9 (tk_p e7 (tk_p e5 (tk_p e3 ht1)))))))))))))))))) fd_65 xc_7 (by decide) rfl ⟨rfl, rfl⟩ dX7_init_88 ?_
  refine x_topS (fun S46 e47 => ?_)
  have h1 := h1 S46 e47
  refine x_aload_n C 0 dX7_init_91 rfl rfl ?_
  refine x_bipush (v := (nI 6)) C dX7_init_92 (by decide) ?_
  obtain ⟨n48, hn49, h1⟩ := h1
  refine x_newa_i (n := n48) (len := 6) C gw_11 (by decide) (by decide) hn49 (Nat.le_of_ble_eq_true rfl) (Nat.le_of_ble_eq_true rfl) dX7_init_94 ?_
  refine x_topS (fun S50 e51 => ?_)
  have h1 := h1 S50 e51
  refine x_putfF_r (n := h) C rfl (tk_n e51 hn49 (tk_p e47 (tk_p e45 (tk_p e43 (tk_p e41 (tk_p e39 (tk_n e37 hn35 (tk_p e33 (tk_n e31 hn29 (tk_p e27 (tk_p e25 (tk_p e23 (tk_p e21 (tk_n e19 hn17 (tk_p e15 (tk_n e13 hn11 (tk_p e9 (tk_p e7 (tk_p e5 (tk_p e3 ht1)))))))))))))))))))) fd_69 xc_7 (by decide) rfl hini rfl (xm_nr rfl) dX7_init_96 ?_
  refine x_topS (fun S52 e53 => ?_)
  have h1 := h1 S52 e53
  refine x_aload_n C 0 dX7_init_99 rfl rfl ?_
  refine x_iconst (v := (0 : Int32)) C dX7_init_100 (by decide) ?_
  refine x_putf_i (n := h) C rfl (tk_p e53 (tk_n e51 hn49 (tk_p e47 (tk_p e45 (tk_p e43 (tk_p e41 (tk_p e39 (tk_n e37 hn35 (tk_p e33 (tk_n e31 hn29 (tk_p e27 (tk_p e25 (tk_p e23 (tk_p e21 (tk_n e19 hn17 (tk_p e15 (tk_n e13 hn11 (tk_p e9 (tk_p e7 (tk_p e5 (tk_p e3 ht1))))))))))))))))))))) fd_67 xc_7 (by decide) rfl ⟨rfl, rfl⟩ dX7_init_101 ?_
  refine x_topS (fun S54 e55 => ?_)
  have h1 := h1 S54 e55
  refine x_aload_n C 0 dX7_init_104 rfl rfl ?_
  refine x_iconst (v := (0 : Int32)) C dX7_init_105 (by decide) ?_
  refine x_putf_i (n := h) C rfl (tk_p e55 (tk_p e53 (tk_n e51 hn49 (tk_p e47 (tk_p e45 (tk_p e43 (tk_p e41 (tk_p e39 (tk_n e37 hn35 (tk_p e33 (tk_n e31 hn29 (tk_p e27 (tk_p e25 (tk_p e23 (tk_p e21 (tk_n e19 hn17 (tk_p e15 (tk_n e13 hn11 (tk_p e9 (tk_p e7 (tk_p e5 (tk_p e3 ht1)))))))))))))))))))))) fd_68 xc_7 (by decide) rfl ⟨rfl, rfl⟩ dX7_init_106 ?_
  refine x_topS (fun S56 e57 => ?_)
  have h1 := h1 S56 e57
  exact x_vret C (Nat.le_of_ble_eq_true rfl) (Nat.le_of_ble_eq_true rfl) rfl dX7_init_109 (hg _ h1)
theorem kp_X7_init_met {h : Nat}  {S : xm_S} {g : xm_S → Prop}  (h1 : wp_X7_init h  S g) : xm_Met yX7_init cX7_init 1 none rm_X7_init [xm_r (some h)] S (xm_qv g) xm_nox :=
  xm_ofW RX7 (by decide +kernel) rfl (Nat.le_of_ble_eq_true rfl) (fun K C N hq hx hi => kp_X7_init h  S C N (hi rfl) (fun S h => by rw [hq]; exact ⟨rfl, h⟩)  h1)
def rm_X7_isClosure : Room := { frames := 4, cells := 0, slots := 0, locals := 96 }
theorem dX7_isClosure_0 : decode cX7_isClosure 0 = .ok (.aload_n 0, 1) := by decide +kernel
theorem dX7_isClosure_1 : decode cX7_isClosure 1 = .ok (.iload_n 1, 1) := by decide +kernel
theorem dX7_isClosure_2 : decode cX7_isClosure 2 = .ok (.putfield 36, 3) := by decide +kernel
theorem dX7_isClosure_5 : decode cX7_isClosure 5 = .ok (.aload_n 0, 1) := by decide +kernel
theorem dX7_isClosure_6 : decode cX7_isClosure 6 = .ok (.iconst 0, 1) := by decide +kernel
theorem dX7_isClosure_7 : decode cX7_isClosure 7 = .ok (.putfield 48, 3) := by decide +kernel
theorem dX7_isClosure_10 : decode cX7_isClosure 10 = .ok (.iconst 1, 1) := by decide +kernel
theorem dX7_isClosure_11 : decode cX7_isClosure 11 = .ok (.istore_n 3, 1) := by decide +kernel
theorem dX7_isClosure_12 : decode cX7_isClosure 12 = .ok (.iconst 0, 1) := by decide +kernel
theorem dX7_isClosure_13 : decode cX7_isClosure 13 = .ok (.istore 4, 2) := by decide +kernel
theorem dX7_isClosure_15 : decode cX7_isClosure 15 = .ok (.iload 4, 2) := by decide +kernel
theorem dX7_isClosure_17 : decode cX7_isClosure 17 = .ok (.bipush 6, 2) := by decide +kernel
theorem dX7_isClosure_19 : decode cX7_isClosure 19 = .ok (.if_icmp .ge 87, 3) := by decide +kernel
theorem dX7_isClosure_22 : decode cX7_isClosure 22 = .ok (.aload_n 0, 1) := by decide +kernel
theorem dX7_isClosure_23 : decode cX7_isClosure 23 = .ok (.getfield 45, 3) := by decide +kernel
theorem dX7_isClosure_26 : decode cX7_isClosure 26 = .ok (.iload 4, 2) := by decide +kernel
theorem dX7_isClosure_28 : decode cX7_isClosure 28 = .ok (.aload_n 2, 1) := by decide +kernel
theorem dX7_isClosure_29 : decode cX7_isClosure 29 = .ok (.iload 4, 2) := by decide +kernel
theorem dX7_isClosure_31 : decode cX7_isClosure 31 = .ok (.iaload, 1) := by decide +kernel
theorem dX7_isClosure_32 : decode cX7_isClosure 32 = .ok (.iastore, 1) := by decide +kernel
theorem dX7_isClosure_33 : decode cX7_isClosure 33 = .ok (.aload_n 0, 1) := by decide +kernel
theorem dX7_isClosure_34 : decode cX7_isClosure 34 = .ok (.getfield 45, 3) := by decide +kernel
theorem dX7_isClosure_37 : decode cX7_isClosure 37 = .ok (.iload 4, 2) := by decide +kernel
theorem dX7_isClosure_39 : decode cX7_isClosure 39 = .ok (.iaload, 1) := by decide +kernel
theorem dX7_isClosure_40 : decode cX7_isClosure 40 = .ok (.iconst (-1), 1) := by decide +kernel
theorem dX7_isClosure_41 : decode cX7_isClosure 41 = .ok (.if_icmp .eq 59, 3) := by decide +kernel
theorem dX7_isClosure_44 : decode cX7_isClosure 44 = .ok (.iload_n 3, 1) := by decide +kernel
theorem dX7_isClosure_45 : decode cX7_isClosure 45 = .ok (.ifCond .eq 32, 3) := by decide +kernel
theorem dX7_isClosure_48 : decode cX7_isClosure 48 = .ok (.aload_n 0, 1) := by decide +kernel
theorem dX7_isClosure_49 : decode cX7_isClosure 49 = .ok (.getfield 26, 3) := by decide +kernel
theorem dX7_isClosure_52 : decode cX7_isClosure 52 = .ok (.iload 4, 2) := by decide +kernel
theorem dX7_isClosure_54 : decode cX7_isClosure 54 = .ok (.iconst 4, 1) := by decide +kernel
theorem dX7_isClosure_55 : decode cX7_isClosure 55 = .ok (.imul, 1) := by decide +kernel
theorem dX7_isClosure_56 : decode cX7_isClosure 56 = .ok (.aload_n 0, 1) := by decide +kernel
theorem dX7_isClosure_57 : decode cX7_isClosure 57 = .ok (.getfield 45, 3) := by decide +kernel
theorem dX7_isClosure_60 : decode cX7_isClosure 60 = .ok (.iload 4, 2) := by decide +kernel
theorem dX7_isClosure_62 : decode cX7_isClosure 62 = .ok (.iaload, 1) := by decide +kernel
theorem dX7_isClosure_63 : decode cX7_isClosure 63 = .ok (.iadd, 1) := by decide +kernel
theorem dX7_isClosure_64 : decode cX7_isClosure 64 = .ok (.iaload, 1) := by decide +kernel
theorem dX7_isClosure_65 : decode cX7_isClosure 65 = .ok (.aload_n 0, 1) := by decide +kernel
theorem dX7_isClosure_66 : decode cX7_isClosure 66 = .ok (.getfield 48, 3) := by decide +kernel
theorem dX7_isClosure_69 : decode cX7_isClosure 69 = .ok (.iand, 1) := by decide +kernel
theorem dX7_isClosure_70 : decode cX7_isClosure 70 = .ok (.ifCond .ne 7, 3) := by decide +kernel
theorem dX7_isClosure_73 : decode cX7_isClosure 73 = .ok (.iconst 1, 1) := by decide +kernel
theorem dX7_isClosure_74 : decode cX7_isClosure 74 = .ok (.goto 4, 3) := by decide +kernel
theorem dX7_isClosure_77 : decode cX7_isClosure 77 = .ok (.iconst 0, 1) := by decide +kernel
theorem dX7_isClosure_78 : decode cX7_isClosure 78 = .ok (.istore_n 3, 1) := by decide +kernel
theorem dX7_isClosure_79 : decode cX7_isClosure 79 = .ok (.aload_n 0, 1) := by decide +kernel
theorem dX7_isClosure_80 : decode cX7_isClosure 80 = .ok (.dup, 1) := by decide +kernel
theorem dX7_isClosure_81 : decode cX7_isClosure 81 = .ok (.getfield 48, 3) := by decide +kernel
theorem dX7_isClosure_84 : decode cX7_isClosure 84 = .ok (.iload 4, 2) := by decide +kernel
theorem dX7_isClosure_86 : decode cX7_isClosure 86 = .ok (.aload_n 0, 1) := by decide +kernel
theorem dX7_isClosure_87 : decode cX7_isClosure 87 = .ok (.getfield 45, 3) := by decide +kernel
theorem dX7_isClosure_90 : decode cX7_isClosure 90 = .ok (.iload 4, 2) := by decide +kernel
theorem dX7_isClosure_92 : decode cX7_isClosure 92 = .ok (.iaload, 1) := by decide +kernel
theorem dX7_isClosure_93 : decode cX7_isClosure 93 = .ok (.invokestatic 109, 3) := by decide +kernel
theorem dX7_isClosure_96 : decode cX7_isClosure 96 = .ok (.ior, 1) := by decide +kernel
theorem dX7_isClosure_97 : decode cX7_isClosure 97 = .ok (.putfield 48, 3) := by decide +kernel
theorem dX7_isClosure_100 : decode cX7_isClosure 100 = .ok (.iinc 4 1, 3) := by decide +kernel
theorem dX7_isClosure_103 : decode cX7_isClosure 103 = .ok (.goto (-88), 3) := by decide +kernel
theorem dX7_isClosure_106 : decode cX7_isClosure 106 = .ok (.iload_n 3, 1) := by decide +kernel
theorem dX7_isClosure_107 : decode cX7_isClosure 107 = .ok (.ifCond .eq 44, 3) := by decide +kernel
theorem dX7_isClosure_110 : decode cX7_isClosure 110 = .ok (.aload_n 0, 1) := by decide +kernel
theorem dX7_isClosure_111 : decode cX7_isClosure 111 = .ok (.getfield 48, 3) := by decide +kernel
theorem dX7_isClosure_114 : decode cX7_isClosure 114 = .ok (.aload_n 0, 1) := by decide +kernel
theorem dX7_isClosure_115 : decode cX7_isClosure 115 = .ok (.getfield 33, 3) := by decide +kernel
theorem dX7_isClosure_118 : decode cX7_isClosure 118 = .ok (.iconst (-1), 1) := by decide +kernel
theorem dX7_isClosure_119 : decode cX7_isClosure 119 = .ok (.ixor, 1) := by decide +kernel
theorem dX7_isClosure_120 : decode cX7_isClosure 120 = .ok (.iand, 1) := by decide +kernel
theorem dX7_isClosure_121 : decode cX7_isClosure 121 = .ok (.ifCond .ne 30, 3) := by decide +kernel
theorem dX7_isClosure_124 : decode cX7_isClosure 124 = .ok (.aload_n 0, 1) := by decide +kernel
theorem dX7_isClosure_125 : decode cX7_isClosure 125 = .ok (.iconst 0, 1) := by decide +kernel
theorem dX7_isClosure_126 : decode cX7_isClosure 126 = .ok (.aload_n 0, 1) := by decide +kernel
theorem dX7_isClosure_127 : decode cX7_isClosure 127 = .ok (.getfield 48, 3) := by decide +kernel
theorem dX7_isClosure_130 : decode cX7_isClosure 130 = .ok (.invokevirtual 154, 3) := by decide +kernel
theorem dX7_isClosure_133 : decode cX7_isClosure 133 = .ok (.ifCond .eq 18, 3) := by decide +kernel
theorem dX7_isClosure_136 : decode cX7_isClosure 136 = .ok (.aload_n 0, 1) := by decide +kernel
theorem dX7_isClosure_137 : decode cX7_isClosure 137 = .ok (.getfield 51, 3) := by decide +kernel
theorem dX7_isClosure_140 : decode cX7_isClosure 140 = .ok (.aload_n 0, 1) := by decide +kernel
theorem dX7_isClosure_141 : decode cX7_isClosure 141 = .ok (.getfield 48, 3) := by decide +kernel
theorem dX7_isClosure_144 : decode cX7_isClosure 144 = .ok (.if_icmp .ne 7, 3) := by decide +kernel
theorem dX7_isClosure_147 : decode cX7_isClosure 147 = .ok (.iconst 1, 1) := by decide +kernel
theorem dX7_isClosure_148 : decode cX7_isClosure 148 = .ok (.goto 4, 3) := by decide +kernel
theorem dX7_isClosure_151 : decode cX7_isClosure 151 = .ok (.iconst 0, 1) := by decide +kernel
theorem dX7_isClosure_152 : decode cX7_isClosure 152 = .ok (.ireturn, 1) := by decide +kernel
def wp_X7_isClosure_100 (h : Nat) (x2 : Option Nat) (x3 : Int32) (x4 : Int32) (S : xm_S) (g : Int32 → xm_S → Prop) (Z15 : Option Nat → Int32 → Int32 → xm_S → Prop) : Prop :=
  ∀ y1, y1 = (x4 + (1 : Int32)) → Z15 x2 x3 y1 S
set_option maxRecDepth 100000 in
set_option maxHeartbeats 4000000 in
theorem kp_X7_isClosure_100 {K : xm_K} (h : Nat) (x2 : Option Nat) (x3 : Int32) (x4 : Int32) (S : xm_S) {g : Int32 → xm_S → Prop} {Z15 : Option Nat → Int32 → Int32 → xm_S → Prop} (C : xm_Cx K cX7_isClosure RX7 5 (some (FieldType.boolean)) rm_X7_isClosure) (N : xm_Nx K) (hg : ∀ v S, g v S → xm_q K (some (xm_i v)) S) (hZ15 : ∀ x2 x3 x4 S, Z15 x2 x3 x4 S → xm_W K 0 0 15 [(0, xm_r (some h)), (2, xm_r x2), (3, xm_i x3), (4, xm_i x4)] [] S) (h1 : wp_X7_isClosure_100 h x2 x3 x4 S g Z15) : xm_W K 0 0 100 [(0, xm_r (some h)), (2, xm_r x2), (3, xm_i x3), (4, xm_i x4)] [] S := by
  unfold wp_X7_isClosure_100 at h1
  obtain ⟨y1, e2⟩ : ∃ y1, y1 = (x4 + (1 : Int32)) := ⟨_, rfl⟩
  have h1 := h1 y1 e2
  refine x_iinc (v := y1) (L' := [(4, xm_i y1), (0, xm_r (some h)), (2, xm_r x2), (3, xm_i x3)]) C 3 dX7_isClosure_100 rfl (by rw [e2]; rfl) (by decide) rfl ?_
  refine x_goto (tgt := 15) C dX7_isClosure_103 (by decide) ?_
  refine x_keep (L' := [(0, xm_r (some h)), (2, xm_r x2), (3, xm_i x3), (4, xm_i y1)]) C [1, 2, 3, 0] rfl ?_
  exact hZ15 x2 x3 y1 S h1
def wp_X7_isClosure_78 (h : Nat) (x2 : Option Nat) (x4 : Int32) (s0 : Int32) (S : xm_S) (g : Int32 → xm_S → Prop) (Z15 : Option Nat → Int32 → Int32 → xm_S → Prop) : Prop :=
  st_t S h = some (7, 0) ∧ ∃ n4, (st_r S h 10) = some n4 ∧ ∃ z7, st_t S n4 = some (100, z7) ∧ vp_in x4 z7 ∧ wp_X7_bitOf x4 (st_i S n4 (x4).toNatClampNeg) S (fun r10 S9 => st_t S9 h = some (7, 0) ∧ ∀ S12, S12 = st_pi S9 h 11 ((st_i S h 11) ||| r10) → wp_X7_isClosure_100 h x2 s0 x4 S12 g Z15)
set_option maxRecDepth 100000 in
set_option maxHeartbeats 4000000 in
theorem kp_X7_isClosure_78 {K : xm_K} (h : Nat) (x2 : Option Nat) (x4 : Int32) (s0 : Int32) (S : xm_S) {g : Int32 → xm_S → Prop} {Z15 : Option Nat → Int32 → Int32 → xm_S → Prop} (C : xm_Cx K cX7_isClosure RX7 5 (some (FieldType.boolean)) rm_X7_isClosure) (N : xm_Nx K) (hg : ∀ v S, g v S → xm_q K (some (xm_i v)) S) (hZ15 : ∀ x2 x3 x4 S, Z15 x2 x3 x4 S → xm_W K 0 0 15 [(0, xm_r (some h)), (2, xm_r x2), (3, xm_i x3), (4, xm_i x4)] [] S) (h1 : wp_X7_isClosure_78 h x2 x4 s0 S g Z15) : xm_W K 0 0 78 [(0, xm_r (some h)), (2, xm_r x2), (4, xm_i x4)] [xm_i s0] S := by
  unfold wp_X7_isClosure_78 at h1
  refine x_istore_n (L' := [(3, xm_i s0), (0, xm_r (some h)), (2, xm_r x2), (4, xm_i x4)]) C dX7_isClosure_78 rfl (by decide) rfl ?_
  refine x_aload_n C 1 dX7_isClosure_79 rfl rfl ?_
  refine x_dup_r C dX7_isClosure_80 ?_
  obtain ⟨ht3, h1⟩ := h1
  refine x_getf_i (n := h) C rfl ht3 fd_70 (by decide) dX7_isClosure_81 ?_
  refine x_iload C 3 dX7_isClosure_84 rfl ?_
  refine x_aload_n C 1 dX7_isClosure_86 rfl rfl ?_
  refine x_getf_r (n := h) C rfl ht3 fd_60 (by decide) dX7_isClosure_87 ?_
  refine x_iload C 3 dX7_isClosure_90 rfl ?_
  obtain ⟨n4, hr5, h1⟩ := h1
  obtain ⟨z7, ht6, h1⟩ := h1
  obtain ⟨hi8, h1⟩ := h1
  refine x_iald (n := n4) C hr5 ht6 hi8 dX7_isClosure_92 ?_
  refine x_callS (rm' := rm_X7_bitOf) C (kp_X7_bitOf_met h1) lk_20 gw_163 rfl (Nat.le_of_ble_eq_true rfl) ⟨Nat.le_of_ble_eq_true rfl, Nat.le_of_ble_eq_true rfl, (Nat.le_of_ble_eq_true rfl), (Nat.le_of_ble_eq_true rfl)⟩ dX7_isClosure_93 xm_kx (xm_ki (fun r10 S9 h1 => ?_))
  refine x_ior C dX7_isClosure_96 ?_
  obtain ⟨ht11, h1⟩ := h1
  refine x_putf_i (n := h) C rfl ht11 fd_70 xc_7 (by decide) rfl ⟨rfl, rfl⟩ dX7_isClosure_97 ?_
  refine x_topS (fun S12 e13 => ?_)
  have h1 := h1 S12 e13
  refine x_keep (L' := [(0, xm_r (some h)), (2, xm_r x2), (3, xm_i s0), (4, xm_i x4)]) C [1, 2, 0, 3] rfl ?_
  exact kp_X7_isClosure_100 h x2 s0 x4 S12 C N hg hZ15 h1
def wp_X7_isClosure_77 (h : Nat) (x2 : Option Nat) (x4 : Int32) (S : xm_S) (g : Int32 → xm_S → Prop) (Z15 : Option Nat → Int32 → Int32 → xm_S → Prop) : Prop :=
  wp_X7_isClosure_78 h x2 x4 (0 : Int32) S g Z15
set_option maxRecDepth 100000 in
set_option maxHeartbeats 4000000 in
theorem kp_X7_isClosure_77 {K : xm_K} (h : Nat) (x2 : Option Nat) (x4 : Int32) (S : xm_S) {g : Int32 → xm_S → Prop} {Z15 : Option Nat → Int32 → Int32 → xm_S → Prop} (C : xm_Cx K cX7_isClosure RX7 5 (some (FieldType.boolean)) rm_X7_isClosure) (N : xm_Nx K) (hg : ∀ v S, g v S → xm_q K (some (xm_i v)) S) (hZ15 : ∀ x2 x3 x4 S, Z15 x2 x3 x4 S → xm_W K 0 0 15 [(0, xm_r (some h)), (2, xm_r x2), (3, xm_i x3), (4, xm_i x4)] [] S) (h1 : wp_X7_isClosure_77 h x2 x4 S g Z15) : xm_W K 0 0 77 [(0, xm_r (some h)), (2, xm_r x2), (4, xm_i x4)] [] S := by
  unfold wp_X7_isClosure_77 at h1
  refine x_iconst (v := (0 : Int32)) C dX7_isClosure_77 (by decide) ?_
  exact kp_X7_isClosure_78 h x2 x4 (0 : Int32) S C N hg hZ15 h1
def wp_X7_isClosure_152 (h : Nat) (s0 : Int32) (S : xm_S) (g : Int32 → xm_S → Prop) : Prop :=
  (s0 = 0 ∨ s0 = 1) ∧ g s0 S
set_option maxRecDepth 100000 in
set_option maxHeartbeats 4000000 in
theorem kp_X7_isClosure_152 {K : xm_K} (h : Nat) (s0 : Int32) (S : xm_S) {g : Int32 → xm_S → Prop} (C : xm_Cx K cX7_isClosure RX7 5 (some (FieldType.boolean)) rm_X7_isClosure) (N : xm_Nx K) (hg : ∀ v S, g v S → xm_q K (some (xm_i v)) S)  (h1 : wp_X7_isClosure_152 h s0 S g) : xm_W K 0 0 152 [] [xm_i s0] S := by
  unfold wp_X7_isClosure_152 at h1
  exact x_zret C (Nat.le_of_ble_eq_true rfl) (Nat.le_of_ble_eq_true rfl) rfl h1.1 dX7_isClosure_152 (hg _ _ h1.2)
def wp_X7_isClosure_151 (h : Nat)  (S : xm_S) (g : Int32 → xm_S → Prop) : Prop :=
  wp_X7_isClosure_152 h (0 : Int32) S g
set_option maxRecDepth 100000 in
set_option maxHeartbeats 4000000 in
theorem kp_X7_isClosure_151 {K : xm_K} (h : Nat)  (S : xm_S) {g : Int32 → xm_S → Prop} (C : xm_Cx K cX7_isClosure RX7 5 (some (FieldType.boolean)) rm_X7_isClosure) (N : xm_Nx K) (hg : ∀ v S, g v S → xm_q K (some (xm_i v)) S)  (h1 : wp_X7_isClosure_151 h  S g) : xm_W K 0 0 151 [] [] S := by
  unfold wp_X7_isClosure_151 at h1
  refine x_iconst (v := (0 : Int32)) C dX7_isClosure_151 (by decide) ?_
  exact kp_X7_isClosure_152 h (0 : Int32) S C N hg  h1
def wp_X7_isClosure_15B (h : Nat) (x2 : Option Nat) (x3 : Int32) (x4 : Int32) (S : xm_S) (g : Int32 → xm_S → Prop) (Z15 : Option Nat → Int32 → Int32 → xm_S → Prop) : Prop :=
  ((nI 6) ≤ x4 → (x3 = 0 → wp_X7_isClosure_151 h S g) ∧ (¬ x3 = 0 → st_t S h = some (7, 0) ∧ (¬ ((st_i S h 11) &&& ((st_i S h 6) ^^^ (-1 : Int32))) = 0 → wp_X7_isClosure_151 h S g) ∧ (((st_i S h 11) &&& ((st_i S h 6) ^^^ (-1 : Int32))) = 0 → wp_X7_areMet h (0 : Int32) (st_i S h 11) S (fun r16 S15 => (r16 = 0 → wp_X7_isClosure_151 h S15 g) ∧ (¬ r16 = 0 → st_t S15 h = some (7, 0) ∧ (¬ (st_i S15 h 12) = (st_i S15 h 11) → wp_X7_isClosure_151 h S15 g) ∧ ((st_i S15 h 12) = (st_i S15 h 11) → wp_X7_isClosure_152 h (1 : Int32) S15 g)))))) ∧ (¬ (nI 6) ≤ x4 → st_t S h = some (7, 0) ∧ ∃ n19, x2 = some n19 ∧ ∃ z22, st_t S n19 = some (100, z22) ∧ vp_in x4 z22 ∧ ∃ n24, (st_r S h 10) = some n24 ∧ ∃ z27, st_t S n24 = some (100, z27) ∧ vp_in x4 z27 ∧ ∀ S29, S29 = st_pi S n24 (x4).toNatClampNeg (st_i S n19 (x4).toNatClampNeg) → ∃ n31, (st_r S29 h 10) = some n31 ∧ ∃ z34, st_t S29 n31 = some (100, z34) ∧ vp_in x4 z34 ∧ ((st_i S29 n31 (x4).toNatClampNeg) = (-1 : Int32) → wp_X7_isClosure_100 h x2 x3 x4 S29 g Z15) ∧ (¬ (st_i S29 n31 (x4).toNatClampNeg) = (-1 : Int32) → (x3 = 0 → wp_X7_isClosure_77 h x2 x4 S29 g Z15) ∧ (¬ x3 = 0 → ∃ n36, (st_r S29 h 10) = some n36 ∧ ∃ z39, st_t S29 n36 = some (100, z39) ∧ vp_in x4 z39 ∧ ∃ n41, (st_r S29 h 4) = some n41 ∧ ∃ z44, st_t S29 n41 = some (100, z44) ∧ vp_in ((x4 * (nI 4)) + (st_i S29 n36 (x4).toNatClampNeg)) z44 ∧ (¬ ((st_i S29 n41 (((x4 * (nI 4)) + (st_i S29 n36 (x4).toNatClampNeg))).toNatClampNeg) &&& (st_i S29 h 11)) = 0 → wp_X7_isClosure_77 h x2 x4 S29 g Z15) ∧ (((st_i S29 n41 (((x4 * (nI 4)) + (st_i S29 n36 (x4).toNatClampNeg))).toNatClampNeg) &&& (st_i S29 h 11)) = 0 → wp_X7_isClosure_78 h x2 x4 (1 : Int32) S29 g Z15))))
def wp_X7_isClosure_15 (h : Nat) (x2 : Option Nat) (x3 : Int32) (x4 : Int32) (S : xm_S) (g : Int32 → xm_S → Prop) : Prop :=
  ∀ Z15 : Option Nat → Int32 → Int32 → xm_S → Prop, (∀ x2 x3 x4 S, wp_X7_isClosure_15B h x2 x3 x4 S g Z15 → Z15 x2 x3 x4 S) → Z15 x2 x3 x4 S
set_option maxRecDepth 100000 in
set_option maxHeartbeats 4000000 in
theorem kp_X7_isClosure_15B {K : xm_K} (h : Nat) (x2 : Option Nat) (x3 : Int32) (x4 : Int32) (S : xm_S) {g : Int32 → xm_S → Prop} {Z15 : Option Nat → Int32 → Int32 → xm_S → Prop} (C : xm_Cx K cX7_isClosure RX7 5 (some (FieldType.boolean)) rm_X7_isClosure) (N : xm_Nx K) (hg : ∀ v S, g v S → xm_q K (some (xm_i v)) S) (hZ15 : ∀ x2 x3 x4 S, Z15 x2 x3 x4 S → xm_W K 0 0 15 [(0, xm_r (some h)), (2, xm_r x2), (3, xm_i x3), (4, xm_i x4)] [] S) (h1 : wp_X7_isClosure_15B h x2 x3 x4 S g Z15) : xm_W K 0 0 15 [(0, xm_r (some h)), (2, xm_r x2), (3, xm_i x3), (4, xm_i x4)] [] S := by
  unfold wp_X7_isClosure_15B at h1
  refine x_iload C 3 dX7_isClosure_15 rfl ?_
  refine x_bipush (v := (nI 6)) C dX7_isClosure_17 (by decide) ?_
  refine x_icmp_ge (tgt := 106) C dX7_isClosure_19 (by decide) (fun z9 => ?_) (fun z9 => ?_)
  · have h1 := h1.1 z9
    refine x_iload_n C 2 dX7_isClosure_106 rfl rfl ?_
    refine x_if_eq (tgt := 151) C dX7_isClosure_107 (by decide) (fun z9 => ?_) (fun z9 => ?_)
    · have h1 := h1.1 z9
      refine x_keep (L' := []) C [] rfl ?_
      exact kp_X7_isClosure_151 h S C N hg  h1
    · have h1 := h1.2 z9
      refine x_aload_n C 0 dX7_isClosure_110 rfl rfl ?_
      obtain ⟨ht14, h1⟩ := h1
      refine x_getf_i (n := h) C rfl ht14 fd_70 (by decide) dX7_isClosure_111 ?_
      refine x_aload_n C 0 dX7_isClosure_114 rfl rfl ?_
      refine x_getf_i (n := h) C rfl ht14 fd_74 (by decide) dX7_isClosure_115 ?_
      refine x_iconst (v := (-1 : Int32)) C dX7_isClosure_118 (by decide) ?_
      refine x_ixor C dX7_isClosure_119 ?_
      refine x_iand C dX7_isClosure_120 ?_
      refine x_if_ne (tgt := 151) C dX7_isClosure_121 (by decide) (fun z9 => ?_) (fun z9 => ?_)
      · have h1 := h1.1 z9
        refine x_keep (L' := []) C [] rfl ?_
        exact kp_X7_isClosure_151 h S C N hg  h1
      · have h1 := h1.2 z9
        refine x_aload_n C 0 dX7_isClosure_124 rfl rfl ?_
        refine x_iconst (v := (0 : Int32)) C dX7_isClosure_125 (by decide) ?_
        refine x_aload_n C 0 dX7_isClosure_126 rfl rfl ?_
        refine x_getf_i (n := h) C rfl ht14 fd_70 (by decide) dX7_isClosure_127 ?_
        refine x_callV (rm' := rm_X7_areMet) (n := h) C (kp_X7_areMet_met h1) lk_28 gw_208 gw_209 xv_7 rfl rfl ht14 rfl (Nat.le_of_ble_eq_true rfl) ⟨Nat.le_of_ble_eq_true rfl, Nat.le_of_ble_eq_true rfl, (Nat.le_of_ble_eq_true rfl), (Nat.le_of_ble_eq_true rfl)⟩ dX7_isClosure_130 xm_kx (xm_ki (fun r16 S15 h1 => ?_))
        refine x_if_eq (tgt := 151) C dX7_isClosure_133 (by decide) (fun z9 => ?_) (fun z9 => ?_)
        · have h1 := h1.1 z9
          refine x_keep (L' := []) C [] rfl ?_
          exact kp_X7_isClosure_151 h S15 C N hg  h1
        · have h1 := h1.2 z9
          refine x_aload_n C 0 dX7_isClosure_136 rfl rfl ?_
          obtain ⟨ht17, h1⟩ := h1
          refine x_getf_i (n := h) C rfl ht17 fd_49 (by decide) dX7_isClosure_137 ?_
          refine x_aload_n C 0 dX7_isClosure_140 rfl rfl ?_
          refine x_getf_i (n := h) C rfl ht17 fd_70 (by decide) dX7_isClosure_141 ?_
          refine x_icmp_ne (tgt := 151) C dX7_isClosure_144 (by decide) (fun z9 => ?_) (fun z9 => ?_)
          · have h1 := h1.1 z9
            refine x_keep (L' := []) C [] rfl ?_
            exact kp_X7_isClosure_151 h S15 C N hg  h1
          · have h1 := h1.2 z9
            refine x_iconst (v := (1 : Int32)) C dX7_isClosure_147 (by decide) ?_
            refine x_goto (tgt := 152) C dX7_isClosure_148 (by decide) ?_
            refine x_keep (L' := []) C [] rfl ?_
            exact kp_X7_isClosure_152 h (1 : Int32) S15 C N hg  h1
  · have h1 := h1.2 z9
    refine x_aload_n C 0 dX7_isClosure_22 rfl rfl ?_
    obtain ⟨ht18, h1⟩ := h1
    refine x_getf_r (n := h) C rfl ht18 fd_60 (by decide) dX7_isClosure_23 ?_
    refine x_iload C 3 dX7_isClosure_26 rfl ?_
    refine x_aload_n C 1 dX7_isClosure_28 rfl rfl ?_
    refine x_iload C 3 dX7_isClosure_29 rfl ?_
    obtain ⟨n19, hr20, h1⟩ := h1
    obtain ⟨z22, ht21, h1⟩ := h1
    obtain ⟨hi23, h1⟩ := h1
    refine x_iald (n := n19) C hr20 ht21 hi23 dX7_isClosure_31 ?_
    obtain ⟨n24, hr25, h1⟩ := h1
    obtain ⟨z27, ht26, h1⟩ := h1
    obtain ⟨hi28, h1⟩ := h1
    refine x_iast (n := n24) C hr25 ht26 hi28 dX7_isClosure_32 ?_
    refine x_topS (fun S29 e30 => ?_)
    have h1 := h1 S29 e30
    refine x_aload_n C 0 dX7_isClosure_33 rfl rfl ?_
    refine x_getf_r (n := h) C rfl (tk_p e30 ht18) fd_60 (by decide) dX7_isClosure_34 ?_
    refine x_iload C 3 dX7_isClosure_37 rfl ?_
    obtain ⟨n31, hr32, h1⟩ := h1
    obtain ⟨z34, ht33, h1⟩ := h1
    obtain ⟨hi35, h1⟩ := h1
    refine x_iald (n := n31) C hr32 ht33 hi35 dX7_isClosure_39 ?_
    refine x_iconst (v := (-1 : Int32)) C dX7_isClosure_40 (by decide) ?_
    refine x_icmp_eq (tgt := 100) C dX7_isClosure_41 (by decide) (fun z9 => ?_) (fun z9 => ?_)
    · have h1 := h1.1 z9
      exact kp_X7_isClosure_100 h x2 x3 x4 S29 C N hg hZ15 h1
    · have h1 := h1.2 z9
      refine x_iload_n C 2 dX7_isClosure_44 rfl rfl ?_
      refine x_if_eq (tgt := 77) C dX7_isClosure_45 (by decide) (fun z9 => ?_) (fun z9 => ?_)
      · have h1 := h1.1 z9
        refine x_keep (L' := [(0, xm_r (some h)), (2, xm_r x2), (4, xm_i x4)]) C [0, 1, 3] rfl ?_
        exact kp_X7_isClosure_77 h x2 x4 S29 C N hg hZ15 h1
      · have h1 := h1.2 z9
        refine x_aload_n C 0 dX7_isClosure_48 rfl rfl ?_
        refine x_getf_r (n := h) C rfl (tk_p e30 ht18) fd_72 (by decide) dX7_isClosure_49 ?_
        refine x_iload C 3 dX7_isClosure_52 rfl ?_
        refine x_iconst (v := (nI 4)) C dX7_isClosure_54 (by decide) ?_
        refine x_imul C dX7_isClosure_55 ?_
        refine x_aload_n C 0 dX7_isClosure_56 rfl rfl ?_
        refine x_getf_r (n := h) C rfl (tk_p e30 ht18) fd_60 (by decide) dX7_isClosure_57 ?_
        refine x_iload C 3 dX7_isClosure_60 rfl ?_
        obtain ⟨n36, hr37, h1⟩ := h1
        obtain ⟨z39, ht38, h1⟩ := h1
        obtain ⟨hi40, h1⟩ := h1
        refine x_iald (n := n36) C hr37 ht38 hi40 dX7_isClosure_62 ?_
        refine x_iadd C dX7_isClosure_63 ?_
        obtain ⟨n41, hr42, h1⟩ := h1
        obtain ⟨z44, ht43, h1⟩ := h1
        obtain ⟨hi45, h1⟩ := h1
        refine x_iald (n := n41) C hr42 ht43 hi45 dX7_isClosure_64 ?_
        refine x_aload_n C 0 dX7_isClosure_65 rfl rfl ?_
        refine x_getf_i (n := h) C rfl (tk_p e30 ht18) fd_70 (by decide) dX7_isClosure_66 ?_
        refine x_iand C dX7_isClosure_69 ?_
        refine x_if_ne (tgt := 77) C dX7_isClosure_70 (by decide) (fun z9 => ?_) (fun z9 => ?_)
        · have h1 := h1.1 z9
          refine x_keep (L' := [(0, xm_r (some h)), (2, xm_r x2), (4, xm_i x4)]) C [0, 1, 3] rfl ?_
          exact kp_X7_isClosure_77 h x2 x4 S29 C N hg hZ15 h1
        · have h1 := h1.2 z9
          refine x_iconst (v := (1 : Int32)) C dX7_isClosure_73 (by decide) ?_
          refine x_goto (tgt := 78) C dX7_isClosure_74 (by decide) ?_
          refine x_keep (L' := [(0, xm_r (some h)), (2, xm_r x2), (4, xm_i x4)]) C [0, 1, 3] rfl ?_
          exact kp_X7_isClosure_78 h x2 x4 (1 : Int32) S29 C N hg hZ15 h1
theorem kp_X7_isClosure_15 {K : xm_K} (h : Nat) (x2 : Option Nat) (x3 : Int32) (x4 : Int32) (S : xm_S) {g : Int32 → xm_S → Prop} (C : xm_Cx K cX7_isClosure RX7 5 (some (FieldType.boolean)) rm_X7_isClosure) (N : xm_Nx K) (hg : ∀ v S, g v S → xm_q K (some (xm_i v)) S)  (h1 : wp_X7_isClosure_15 h x2 x3 x4 S g) : xm_W K 0 0 15 [(0, xm_r (some h)), (2, xm_r x2), (3, xm_i x3), (4, xm_i x4)] [] S :=
  h1 (fun x2 x3 x4 S => xm_W K 0 0 15 [(0, xm_r (some h)), (2, xm_r x2), (3, xm_i x3), (4, xm_i x4)] [] S) (fun x2 x3 x4 S hb => kp_X7_isClosure_15B h x2 x3 x4 S C N hg (fun x2 x3 x4 S hz => hz) hb)
def wp_X7_isClosure (h : Nat) (x1 : Int32) (x2 : Option Nat) (S : xm_S) (g : Int32 → xm_S → Prop) : Prop :=
  st_t S h = some (7, 0) ∧ ∀ S47, S47 = st_pi S h 7 x1 → ∀ S49, S49 = st_pi S47 h 11 (0 : Int32) → wp_X7_isClosure_15 h x2 (1 : Int32) (0 : Int32) S49 g
set_option maxRecDepth 100000 in
set_option maxHeartbeats 4000000 in
theorem kp_X7_isClosure {K : xm_K} (h : Nat) (x1 : Int32) (x2 : Option Nat) (S : xm_S) {g : Int32 → xm_S → Prop} (C : xm_Cx K cX7_isClosure RX7 5 (some (FieldType.boolean)) rm_X7_isClosure) (N : xm_Nx K) (hg : ∀ v S, g v S → xm_q K (some (xm_i v)) S)  (h1 : wp_X7_isClosure h x1 x2 S g) : xm_W K 0 0 0 [(0, xm_r (some h)), (1, xm_i x1), (2, xm_r x2)] [] S := by
  unfold wp_X7_isClosure at h1
  refine x_aload_n C 0 dX7_isClosure_0 rfl rfl ?_
  refine x_iload_n C 1 dX7_isClosure_1 rfl rfl ?_
  obtain ⟨ht46, h1⟩ := h1
  refine x_putf_i (n := h) C rfl ht46 fd_62 xc_7 (by decide) rfl ⟨rfl, rfl⟩ dX7_isClosure_2 ?_
  refine x_topS (fun S47 e48 => ?_)
  have h1 := h1 S47 e48
  refine x_aload_n C 0 dX7_isClosure_5 rfl rfl ?_
  refine x_iconst (v := (0 : Int32)) C dX7_isClosure_6 (by decide) ?_
  refine x_putf_i (n := h) C rfl (tk_p e48 ht46) fd_70 xc_7 (by decide) rfl ⟨rfl, rfl⟩ dX7_isClosure_7 ?_
  refine x_topS (fun S49 e50 => ?_)
  have h1 := h1 S49 e50
  refine x_iconst (v := (1 : Int32)) C dX7_isClosure_10 (by decide) ?_
  refine x_istore_n (L' := [(3, xm_i (1 : Int32)), (0, xm_r (some h)), (1, xm_i x1), (2, xm_r x2)]) C dX7_isClosure_11 rfl (by decide) rfl ?_
  refine x_iconst (v := (0 : Int32)) C dX7_isClosure_12 (by decide) ?_
  refine x_istore (L' := [(4, xm_i (0 : Int32)), (3, xm_i (1 : Int32)), (0, xm_r (some h)), (1, xm_i x1), (2, xm_r x2)]) C dX7_isClosure_13 (by decide) rfl ?_
  refine x_keep (L' := [(0, xm_r (some h)), (2, xm_r x2), (3, xm_i (1 : Int32)), (4, xm_i (0 : Int32))]) C [2, 4, 1, 0] rfl ?_
  exact kp_X7_isClosure_15 h x2 (1 : Int32) (0 : Int32) S49 C N hg  h1
theorem kp_X7_isClosure_met {h : Nat} {x1 : Int32} {x2 : Option Nat} {S : xm_S} {g : Int32 → xm_S → Prop}  (h1 : wp_X7_isClosure h x1 x2 S g) : xm_Met yX7_isClosure cX7_isClosure 5 (some (FieldType.boolean)) rm_X7_isClosure [xm_r (some h), xm_i x1, xm_r x2] S (xm_qi g) xm_nox :=
  xm_ofW RX7 (by decide +kernel) rfl (Nat.le_of_ble_eq_true rfl) (fun K C N hq hx hi => kp_X7_isClosure h x1 x2 S C N (fun v S h => by rw [hq]; exact ⟨v, rfl, h⟩)  h1)
def rm_X7_leadingTo : Room := { frames := 1, cells := 0, slots := 0, locals := 20 }
theorem dX7_leadingTo_0 : decode cX7_leadingTo 0 = .ok (.iconst 0, 1) := by decide +kernel
theorem dX7_leadingTo_1 : decode cX7_leadingTo 1 = .ok (.istore_n 2, 1) := by decide +kernel
theorem dX7_leadingTo_2 : decode cX7_leadingTo 2 = .ok (.iconst 0, 1) := by decide +kernel
theorem dX7_leadingTo_3 : decode cX7_leadingTo 3 = .ok (.istore_n 3, 1) := by decide +kernel
theorem dX7_leadingTo_4 : decode cX7_leadingTo 4 = .ok (.iload_n 3, 1) := by decide +kernel
theorem dX7_leadingTo_5 : decode cX7_leadingTo 5 = .ok (.aload_n 1, 1) := by decide +kernel
theorem dX7_leadingTo_6 : decode cX7_leadingTo 6 = .ok (.getfield 87, 3) := by decide +kernel
theorem dX7_leadingTo_9 : decode cX7_leadingTo 9 = .ok (.if_icmp .ge 38, 3) := by decide +kernel
theorem dX7_leadingTo_12 : decode cX7_leadingTo 12 = .ok (.aload_n 1, 1) := by decide +kernel
theorem dX7_leadingTo_13 : decode cX7_leadingTo 13 = .ok (.getfield 92, 3) := by decide +kernel
theorem dX7_leadingTo_16 : decode cX7_leadingTo 16 = .ok (.iload_n 3, 1) := by decide +kernel
theorem dX7_leadingTo_17 : decode cX7_leadingTo 17 = .ok (.aaload, 1) := by decide +kernel
theorem dX7_leadingTo_18 : decode cX7_leadingTo 18 = .ok (.getfield 161, 3) := by decide +kernel
theorem dX7_leadingTo_21 : decode cX7_leadingTo 21 = .ok (.aload_n 0, 1) := by decide +kernel
theorem dX7_leadingTo_22 : decode cX7_leadingTo 22 = .ok (.getfield 23, 3) := by decide +kernel
theorem dX7_leadingTo_25 : decode cX7_leadingTo 25 = .ok (.iand, 1) := by decide +kernel
theorem dX7_leadingTo_26 : decode cX7_leadingTo 26 = .ok (.ifCond .eq 15, 3) := by decide +kernel
theorem dX7_leadingTo_29 : decode cX7_leadingTo 29 = .ok (.iload_n 2, 1) := by decide +kernel
theorem dX7_leadingTo_30 : decode cX7_leadingTo 30 = .ok (.aload_n 1, 1) := by decide +kernel
theorem dX7_leadingTo_31 : decode cX7_leadingTo 31 = .ok (.getfield 92, 3) := by decide +kernel
theorem dX7_leadingTo_34 : decode cX7_leadingTo 34 = .ok (.iload_n 3, 1) := by decide +kernel
theorem dX7_leadingTo_35 : decode cX7_leadingTo 35 = .ok (.aaload, 1) := by decide +kernel
theorem dX7_leadingTo_36 : decode cX7_leadingTo 36 = .ok (.getfield 73, 3) := by decide +kernel
theorem dX7_leadingTo_39 : decode cX7_leadingTo 39 = .ok (.ior, 1) := by decide +kernel
theorem dX7_leadingTo_40 : decode cX7_leadingTo 40 = .ok (.istore_n 2, 1) := by decide +kernel
theorem dX7_leadingTo_41 : decode cX7_leadingTo 41 = .ok (.iinc 3 1, 3) := by decide +kernel
theorem dX7_leadingTo_44 : decode cX7_leadingTo 44 = .ok (.goto (-40), 3) := by decide +kernel
theorem dX7_leadingTo_47 : decode cX7_leadingTo 47 = .ok (.iload_n 2, 1) := by decide +kernel
theorem dX7_leadingTo_48 : decode cX7_leadingTo 48 = .ok (.ireturn, 1) := by decide +kernel
def wp_X7_leadingTo_41 (h : Nat) (x1 : Option Nat) (x2 : Int32) (x3 : Int32) (S : xm_S) (g : Int32 → xm_S → Prop) (Z4 : Option Nat → Int32 → Int32 → xm_S → Prop) : Prop :=
  ∀ y1, y1 = (x3 + (1 : Int32)) → Z4 x1 x2 y1 S
set_option maxRecDepth 100000 in
set_option maxHeartbeats 4000000 in
theorem kp_X7_leadingTo_41 {K : xm_K} (h : Nat) (x1 : Option Nat) (x2 : Int32) (x3 : Int32) (S : xm_S) {g : Int32 → xm_S → Prop} {Z4 : Option Nat → Int32 → Int32 → xm_S → Prop} (C : xm_Cx K cX7_leadingTo RX7 4 (some (FieldType.int)) rm_X7_leadingTo) (N : xm_Nx K) (hg : ∀ v S, g v S → xm_q K (some (xm_i v)) S) (hZ4 : ∀ x1 x2 x3 S, Z4 x1 x2 x3 S → xm_W K 0 0 4 [(0, xm_r (some h)), (1, xm_r x1), (2, xm_i x2), (3, xm_i x3)] [] S) (h1 : wp_X7_leadingTo_41 h x1 x2 x3 S g Z4) : xm_W K 0 0 41 [(0, xm_r (some h)), (1, xm_r x1), (2, xm_i x2), (3, xm_i x3)] [] S := by
  unfold wp_X7_leadingTo_41 at h1
  obtain ⟨y1, e2⟩ : ∃ y1, y1 = (x3 + (1 : Int32)) := ⟨_, rfl⟩
  have h1 := h1 y1 e2
  refine x_iinc (v := y1) (L' := [(3, xm_i y1), (0, xm_r (some h)), (1, xm_r x1), (2, xm_i x2)]) C 3 dX7_leadingTo_41 rfl (by rw [e2]; rfl) (by decide) rfl ?_
  refine x_goto (tgt := 4) C dX7_leadingTo_44 (by decide) ?_
  refine x_keep (L' := [(0, xm_r (some h)), (1, xm_r x1), (2, xm_i x2), (3, xm_i y1)]) C [1, 2, 3, 0] rfl ?_
  exact hZ4 x1 x2 y1 S h1
def wp_X7_leadingTo_4B (h : Nat) (x1 : Option Nat) (x2 : Int32) (x3 : Int32) (S : xm_S) (g : Int32 → xm_S → Prop) (Z4 : Option Nat → Int32 → Int32 → xm_S → Prop) : Prop :=
  ∃ n3, x1 = some n3 ∧ st_t S n3 = some (10, 0) ∧ ((st_i S n3 7) ≤ x3 → g x2 S) ∧ (¬ (st_i S n3 7) ≤ x3 → ∃ n6, x1 = some n6 ∧ st_t S n6 = some (10, 0) ∧ ∃ n9, (st_r S n6 6) = some n9 ∧ ∃ z12, st_t S n9 = some (114, z12) ∧ vp_in x3 z12 ∧ ∃ n14, (st_r S n9 (x3).toNatClampNeg) = some n14 ∧ st_t S n14 = some (4, 0) ∧ st_t S h = some (7, 0) ∧ (((st_i S n14 3) &&& (st_i S h 3)) = 0 → wp_X7_leadingTo_41 h x1 x2 x3 S g Z4) ∧ (¬ ((st_i S n14 3) &&& (st_i S h 3)) = 0 → ∃ n18, x1 = some n18 ∧ st_t S n18 = some (10, 0) ∧ ∃ n21, (st_r S n18 6) = some n21 ∧ ∃ z24, st_t S n21 = some (114, z24) ∧ vp_in x3 z24 ∧ ∃ n26, (st_r S n21 (x3).toNatClampNeg) = some n26 ∧ st_t S n26 = some (4, 0) ∧ ∀ y29, y29 = (x2 ||| (st_i S n26 5)) → wp_X7_leadingTo_41 h x1 y29 x3 S g Z4))
def wp_X7_leadingTo_4 (h : Nat) (x1 : Option Nat) (x2 : Int32) (x3 : Int32) (S : xm_S) (g : Int32 → xm_S → Prop) : Prop :=
  ∀ Z4 : Option Nat → Int32 → Int32 → xm_S → Prop, (∀ x1 x2 x3 S, wp_X7_leadingTo_4B h x1 x2 x3 S g Z4 → Z4 x1 x2 x3 S) → Z4 x1 x2 x3 S
set_option maxRecDepth 100000 in
set_option maxHeartbeats 4000000 in
theorem kp_X7_leadingTo_4B {K : xm_K} (h : Nat) (x1 : Option Nat) (x2 : Int32) (x3 : Int32) (S : xm_S) {g : Int32 → xm_S → Prop} {Z4 : Option Nat → Int32 → Int32 → xm_S → Prop} (C : xm_Cx K cX7_leadingTo RX7 4 (some (FieldType.int)) rm_X7_leadingTo) (N : xm_Nx K) (hg : ∀ v S, g v S → xm_q K (some (xm_i v)) S) (hZ4 : ∀ x1 x2 x3 S, Z4 x1 x2 x3 S → xm_W K 0 0 4 [(0, xm_r (some h)), (1, xm_r x1), (2, xm_i x2), (3, xm_i x3)] [] S) (h1 : wp_X7_leadingTo_4B h x1 x2 x3 S g Z4) : xm_W K 0 0 4 [(0, xm_r (some h)), (1, xm_r x1), (2, xm_i x2), (3, xm_i x3)] [] S := by
  unfold wp_X7_leadingTo_4B at h1
  refine x_iload_n C 3 dX7_leadingTo_4 rfl rfl ?_
  refine x_aload_n C 1 dX7_leadingTo_5 rfl rfl ?_
  obtain ⟨n3, hr4, h1⟩ := h1
  obtain ⟨ht5, h1⟩ := h1
  refine x_getf_i (n := n3) C hr4 ht5 fd_55 (by decide) dX7_leadingTo_6 ?_
  refine x_icmp_ge (tgt := 47) C dX7_leadingTo_9 (by decide) (fun z9 => ?_) (fun z9 => ?_)
  · have h1 := h1.1 z9
    refine x_iload_n C 2 dX7_leadingTo_47 rfl rfl ?_
    exact x_iret C (Nat.le_of_ble_eq_true rfl) (Nat.le_of_ble_eq_true rfl) rfl dX7_leadingTo_48 (hg _ _ h1)
  · have h1 := h1.2 z9
    refine x_aload_n C 1 dX7_leadingTo_12 rfl rfl ?_
    obtain ⟨n6, hr7, h1⟩ := h1
    obtain ⟨ht8, h1⟩ := h1
    refine x_getf_r (n := n6) C hr7 ht8 fd_56 (by decide) dX7_leadingTo_13 ?_
    refine x_iload_n C 3 dX7_leadingTo_16 rfl rfl ?_
    obtain ⟨n9, hr10, h1⟩ := h1
    obtain ⟨z12, ht11, h1⟩ := h1
    obtain ⟨hi13, h1⟩ := h1
    refine x_aald (n := n9) C hr10 (by decide) rfl ht11 hi13 dX7_leadingTo_17 ?_
    obtain ⟨n14, hr15, h1⟩ := h1
    obtain ⟨ht16, h1⟩ := h1
    refine x_getf_i (n := n14) C hr15 ht16 fd_53 (by decide) dX7_leadingTo_18 ?_
    refine x_aload_n C 0 dX7_leadingTo_21 rfl rfl ?_
    obtain ⟨ht17, h1⟩ := h1
    refine x_getf_i (n := h) C rfl ht17 fd_54 (by decide) dX7_leadingTo_22 ?_
    refine x_iand C dX7_leadingTo_25 ?_
    refine x_if_eq (tgt := 41) C dX7_leadingTo_26 (by decide) (fun z9 => ?_) (fun z9 => ?_)
    · have h1 := h1.1 z9
      exact kp_X7_leadingTo_41 h x1 x2 x3 S C N hg hZ4 h1
    · have h1 := h1.2 z9
      refine x_iload_n C 2 dX7_leadingTo_29 rfl rfl ?_
      refine x_aload_n C 1 dX7_leadingTo_30 rfl rfl ?_
      obtain ⟨n18, hr19, h1⟩ := h1
      obtain ⟨ht20, h1⟩ := h1
      refine x_getf_r (n := n18) C hr19 ht20 fd_56 (by decide) dX7_leadingTo_31 ?_
      refine x_iload_n C 3 dX7_leadingTo_34 rfl rfl ?_
      obtain ⟨n21, hr22, h1⟩ := h1
      obtain ⟨z24, ht23, h1⟩ := h1
      obtain ⟨hi25, h1⟩ := h1
      refine x_aald (n := n21) C hr22 (by decide) rfl ht23 hi25 dX7_leadingTo_35 ?_
      obtain ⟨n26, hr27, h1⟩ := h1
      obtain ⟨ht28, h1⟩ := h1
      refine x_getf_i (n := n26) C hr27 ht28 fd_48 (by decide) dX7_leadingTo_36 ?_
      refine x_ior C dX7_leadingTo_39 ?_
      refine x_topi (fun y29 e30 => ?_)
      have h1 := h1 y29 e30
      refine x_istore_n (L' := [(2, xm_i y29), (0, xm_r (some h)), (1, xm_r x1), (3, xm_i x3)]) C dX7_leadingTo_40 rfl (by decide) rfl ?_
      refine x_keep (L' := [(0, xm_r (some h)), (1, xm_r x1), (2, xm_i y29), (3, xm_i x3)]) C [1, 2, 0, 3] rfl ?_
      exact kp_X7_leadingTo_41 h x1 y29 x3 S C N hg hZ4 h1
theorem kp_X7_leadingTo_4 {K : xm_K} (h : Nat) (x1 : Option Nat) (x2 : Int32) (x3 : Int32) (S : xm_S) {g : Int32 → xm_S → Prop} (C : xm_Cx K cX7_leadingTo RX7 4 (some (FieldType.int)) rm_X7_leadingTo) (N : xm_Nx K) (hg : ∀ v S, g v S → xm_q K (some (xm_i v)) S)  (h1 : wp_X7_leadingTo_4 h x1 x2 x3 S g) : xm_W K 0 0 4 [(0, xm_r (some h)), (1, xm_r x1), (2, xm_i x2), (3, xm_i x3)] [] S :=
  h1 (fun x1 x2 x3 S => xm_W K 0 0 4 [(0, xm_r (some h)), (1, xm_r x1), (2, xm_i x2), (3, xm_i x3)] [] S) (fun x1 x2 x3 S hb => kp_X7_leadingTo_4B h x1 x2 x3 S C N hg (fun x1 x2 x3 S hz => hz) hb)
def wp_X7_leadingTo (h : Nat) (x1 : Option Nat) (S : xm_S) (g : Int32 → xm_S → Prop) : Prop :=
  wp_X7_leadingTo_4 h x1 (0 : Int32) (0 : Int32) S g
set_option maxRecDepth 100000 in
set_option maxHeartbeats 4000000 in
theorem kp_X7_leadingTo {K : xm_K} (h : Nat) (x1 : Option Nat) (S : xm_S) {g : Int32 → xm_S → Prop} (C : xm_Cx K cX7_leadingTo RX7 4 (some (FieldType.int)) rm_X7_leadingTo) (N : xm_Nx K) (hg : ∀ v S, g v S → xm_q K (some (xm_i v)) S)  (h1 : wp_X7_leadingTo h x1 S g) : xm_W K 0 0 0 [(0, xm_r (some h)), (1, xm_r x1)] [] S := by
  unfold wp_X7_leadingTo at h1
  refine x_iconst (v := (0 : Int32)) C dX7_leadingTo_0 (by decide) ?_
  refine x_istore_n (L' := [(2, xm_i (0 : Int32)), (0, xm_r (some h)), (1, xm_r x1)]) C dX7_leadingTo_1 rfl (by decide) rfl ?_
  refine x_iconst (v := (0 : Int32)) C dX7_leadingTo_2 (by decide) ?_
  refine x_istore_n (L' := [(3, xm_i (0 : Int32)), (2, xm_i (0 : Int32)), (0, xm_r (some h)), (1, xm_r x1)]) C dX7_leadingTo_3 rfl (by decide) rfl ?_
  refine x_keep (L' := [(0, xm_r (some h)), (1, xm_r x1), (2, xm_i (0 : Int32)), (3, xm_i (0 : Int32))]) C [2, 3, 1, 0] rfl ?_
  exact kp_X7_leadingTo_4 h x1 (0 : Int32) (0 : Int32) S C N hg  h1
theorem kp_X7_leadingTo_met {h : Nat} {x1 : Option Nat} {S : xm_S} {g : Int32 → xm_S → Prop}  (h1 : wp_X7_leadingTo h x1 S g) : xm_Met yX7_leadingTo cX7_leadingTo 4 (some (FieldType.int)) rm_X7_leadingTo [xm_r (some h), xm_r x1] S (xm_qi g) xm_nox :=
  xm_ofW RX7 (by decide +kernel) rfl (Nat.le_of_ble_eq_true rfl) (fun K C N hq hx hi => kp_X7_leadingTo h x1 S C N (fun v S h => by rw [hq]; exact ⟨v, rfl, h⟩)  h1)
def rm_X10_provides : Room := { frames := 3, cells := 0, slots := 0, locals := 69 }
theorem dX10_provides_0 : decode cX10_provides 0 = .ok (.iconst 0, 1) := by decide +kernel
theorem dX10_provides_1 : decode cX10_provides 1 = .ok (.istore 4, 2) := by decide +kernel
theorem dX10_provides_3 : decode cX10_provides 3 = .ok (.iload 4, 2) := by decide +kernel
theorem dX10_provides_5 : decode cX10_provides 5 = .ok (.aload_n 0, 1) := by decide +kernel
theorem dX10_provides_6 : decode cX10_provides 6 = .ok (.getfield 41, 3) := by decide +kernel
theorem dX10_provides_9 : decode cX10_provides 9 = .ok (.if_icmp .ge 37, 3) := by decide +kernel
theorem dX10_provides_12 : decode cX10_provides 12 = .ok (.aload_n 0, 1) := by decide +kernel
theorem dX10_provides_13 : decode cX10_provides 13 = .ok (.getfield 34, 3) := by decide +kernel
theorem dX10_provides_16 : decode cX10_provides 16 = .ok (.iload 4, 2) := by decide +kernel
theorem dX10_provides_18 : decode cX10_provides 18 = .ok (.iaload, 1) := by decide +kernel
theorem dX10_provides_19 : decode cX10_provides 19 = .ok (.iload_n 1, 1) := by decide +kernel
theorem dX10_provides_20 : decode cX10_provides 20 = .ok (.if_icmp .ne 20, 3) := by decide +kernel
theorem dX10_provides_23 : decode cX10_provides 23 = .ok (.aload_n 2, 1) := by decide +kernel
theorem dX10_provides_24 : decode cX10_provides 24 = .ok (.aload_n 0, 1) := by decide +kernel
theorem dX10_provides_25 : decode cX10_provides 25 = .ok (.getfield 38, 3) := by decide +kernel
theorem dX10_provides_28 : decode cX10_provides 28 = .ok (.iload 4, 2) := by decide +kernel
theorem dX10_provides_30 : decode cX10_provides 30 = .ok (.iaload, 1) := by decide +kernel
theorem dX10_provides_31 : decode cX10_provides 31 = .ok (.iload_n 3, 1) := by decide +kernel
theorem dX10_provides_32 : decode cX10_provides 32 = .ok (.invokevirtual 78, 3) := by decide +kernel
theorem dX10_provides_35 : decode cX10_provides 35 = .ok (.ifCond .eq 5, 3) := by decide +kernel
theorem dX10_provides_38 : decode cX10_provides 38 = .ok (.iconst 1, 1) := by decide +kernel
theorem dX10_provides_39 : decode cX10_provides 39 = .ok (.ireturn, 1) := by decide +kernel
theorem dX10_provides_40 : decode cX10_provides 40 = .ok (.iinc 4 1, 3) := by decide +kernel
theorem dX10_provides_43 : decode cX10_provides 43 = .ok (.goto (-40), 3) := by decide +kernel
theorem dX10_provides_46 : decode cX10_provides 46 = .ok (.iconst 0, 1) := by decide +kernel
theorem dX10_provides_47 : decode cX10_provides 47 = .ok (.ireturn, 1) := by decide +kernel
def wp_X10_provides_40 (h : Nat) (x1 : Int32) (x2 : Option Nat) (x3 : Int32) (x4 : Int32) (S : xm_S) (g : Int32 → xm_S → Prop) (Z3 : Int32 → Option Nat → Int32 → Int32 → xm_S → Prop) : Prop :=
  ∀ y1, y1 = (x4 + (1 : Int32)) → Z3 x1 x2 x3 y1 S
set_option maxRecDepth 100000 in
set_option maxHeartbeats 4000000 in
theorem kp_X10_provides_40 {K : xm_K} (h : Nat) (x1 : Int32) (x2 : Option Nat) (x3 : Int32) (x4 : Int32) (S : xm_S) {g : Int32 → xm_S → Prop} {Z3 : Int32 → Option Nat → Int32 → Int32 → xm_S → Prop} (C : xm_Cx K cX10_provides RX10 5 (some (FieldType.boolean)) rm_X10_provides) (N : xm_Nx K) (hg : ∀ v S, g v S → xm_q K (some (xm_i v)) S) (hZ3 : ∀ x1 x2 x3 x4 S, Z3 x1 x2 x3 x4 S → xm_W K 0 0 3 [(0, xm_r (some h)), (1, xm_i x1), (2, xm_r x2), (3, xm_i x3), (4, xm_i x4)] [] S) (h1 : wp_X10_provides_40 h x1 x2 x3 x4 S g Z3) : xm_W K 0 0 40 [(0, xm_r (some h)), (1, xm_i x1), (2, xm_r x2), (3, xm_i x3), (4, xm_i x4)] [] S := by
  unfold wp_X10_provides_40 at h1
  obtain ⟨y1, e2⟩ : ∃ y1, y1 = (x4 + (1 : Int32)) := ⟨_, rfl⟩
  have h1 := h1 y1 e2
  refine x_iinc (v := y1) (L' := [(4, xm_i y1), (0, xm_r (some h)), (1, xm_i x1), (2, xm_r x2), (3, xm_i x3)]) C 4 dX10_provides_40 rfl (by rw [e2]; rfl) (by decide) rfl ?_
  refine x_goto (tgt := 3) C dX10_provides_43 (by decide) ?_
  refine x_keep (L' := [(0, xm_r (some h)), (1, xm_i x1), (2, xm_r x2), (3, xm_i x3), (4, xm_i y1)]) C [1, 2, 3, 4, 0] rfl ?_
  exact hZ3 x1 x2 x3 y1 S h1
def wp_X10_provides_3B (h : Nat) (x1 : Int32) (x2 : Option Nat) (x3 : Int32) (x4 : Int32) (S : xm_S) (g : Int32 → xm_S → Prop) (Z3 : Int32 → Option Nat → Int32 → Int32 → xm_S → Prop) : Prop :=
  st_t S h = some (10, 0) ∧ ((st_i S h 12) ≤ x4 → g (0 : Int32) S) ∧ (¬ (st_i S h 12) ≤ x4 → ∃ n4, (st_r S h 10) = some n4 ∧ ∃ z7, st_t S n4 = some (100, z7) ∧ vp_in x4 z7 ∧ (¬ (st_i S n4 (x4).toNatClampNeg) = x1 → wp_X10_provides_40 h x1 x2 x3 x4 S g Z3) ∧ ((st_i S n4 (x4).toNatClampNeg) = x1 → ∃ n9, (st_r S h 11) = some n9 ∧ ∃ z12, st_t S n9 = some (100, z12) ∧ vp_in x4 z12 ∧ ∃ n14, x2 = some n14 ∧ st_t S n14 = some (6, 0) ∧ wp_X6_includes n14 (st_i S n9 (x4).toNatClampNeg) x3 S (fun r18 S17 => (r18 = 0 → wp_X10_provides_40 h x1 x2 x3 x4 S17 g Z3) ∧ (¬ r18 = 0 → g (1 : Int32) S17))))
def wp_X10_provides_3 (h : Nat) (x1 : Int32) (x2 : Option Nat) (x3 : Int32) (x4 : Int32) (S : xm_S) (g : Int32 → xm_S → Prop) : Prop :=
  ∀ Z3 : Int32 → Option Nat → Int32 → Int32 → xm_S → Prop, (∀ x1 x2 x3 x4 S, wp_X10_provides_3B h x1 x2 x3 x4 S g Z3 → Z3 x1 x2 x3 x4 S) → Z3 x1 x2 x3 x4 S
set_option maxRecDepth 100000 in
set_option maxHeartbeats 4000000 in
theorem kp_X10_provides_3B {K : xm_K} (h : Nat) (x1 : Int32) (x2 : Option Nat) (x3 : Int32) (x4 : Int32) (S : xm_S) {g : Int32 → xm_S → Prop} {Z3 : Int32 → Option Nat → Int32 → Int32 → xm_S → Prop} (C : xm_Cx K cX10_provides RX10 5 (some (FieldType.boolean)) rm_X10_provides) (N : xm_Nx K) (hg : ∀ v S, g v S → xm_q K (some (xm_i v)) S) (hZ3 : ∀ x1 x2 x3 x4 S, Z3 x1 x2 x3 x4 S → xm_W K 0 0 3 [(0, xm_r (some h)), (1, xm_i x1), (2, xm_r x2), (3, xm_i x3), (4, xm_i x4)] [] S) (h1 : wp_X10_provides_3B h x1 x2 x3 x4 S g Z3) : xm_W K 0 0 3 [(0, xm_r (some h)), (1, xm_i x1), (2, xm_r x2), (3, xm_i x3), (4, xm_i x4)] [] S := by
  unfold wp_X10_provides_3B at h1
  refine x_iload C 4 dX10_provides_3 rfl ?_
  refine x_aload_n C 0 dX10_provides_5 rfl rfl ?_
  obtain ⟨ht3, h1⟩ := h1
  refine x_getf_i (n := h) C rfl ht3 fd_75 (by decide) dX10_provides_6 ?_
  refine x_icmp_ge (tgt := 46) C dX10_provides_9 (by decide) (fun z9 => ?_) (fun z9 => ?_)
  · have h1 := h1.1 z9
    refine x_iconst (v := (0 : Int32)) C dX10_provides_46 (by decide) ?_
    exact x_zret C (Nat.le_of_ble_eq_true rfl) (Nat.le_of_ble_eq_true rfl) rfl (by decide) dX10_provides_47 (hg _ _ h1)
  · have h1 := h1.2 z9
    refine x_aload_n C 0 dX10_provides_12 rfl rfl ?_
    refine x_getf_r (n := h) C rfl ht3 fd_76 (by decide) dX10_provides_13 ?_
    refine x_iload C 4 dX10_provides_16 rfl ?_
    obtain ⟨n4, hr5, h1⟩ := h1
    obtain ⟨z7, ht6, h1⟩ := h1
    obtain ⟨hi8, h1⟩ := h1
    refine x_iald (n := n4) C hr5 ht6 hi8 dX10_provides_18 ?_
    refine x_iload_n C 1 dX10_provides_19 rfl rfl ?_
    refine x_icmp_ne (tgt := 40) C dX10_provides_20 (by decide) (fun z9 => ?_) (fun z9 => ?_)
    · have h1 := h1.1 z9
      exact kp_X10_provides_40 h x1 x2 x3 x4 S C N hg hZ3 h1
    · have h1 := h1.2 z9
      refine x_aload_n C 2 dX10_provides_23 rfl rfl ?_
      refine x_aload_n C 0 dX10_provides_24 rfl rfl ?_
      refine x_getf_r (n := h) C rfl ht3 fd_77 (by decide) dX10_provides_25 ?_
      refine x_iload C 4 dX10_provides_28 rfl ?_
      obtain ⟨n9, hr10, h1⟩ := h1
      obtain ⟨z12, ht11, h1⟩ := h1
      obtain ⟨hi13, h1⟩ := h1
      refine x_iald (n := n9) C hr10 ht11 hi13 dX10_provides_30 ?_
      refine x_iload_n C 3 dX10_provides_31 rfl rfl ?_
      obtain ⟨n14, hr15, h1⟩ := h1
      obtain ⟨ht16, h1⟩ := h1
      refine x_callV (rm' := rm_X6_includes) (n := n14) C (kp_X6_includes_met h1) lk_31 gw_225 gw_226 xv_6 rfl hr15 ht16 rfl (Nat.le_of_ble_eq_true rfl) ⟨Nat.le_of_ble_eq_true rfl, Nat.le_of_ble_eq_true rfl, (Nat.le_of_ble_eq_true rfl), (Nat.le_of_ble_eq_true rfl)⟩ dX10_provides_32 xm_kx (xm_ki (fun r18 S17 h1 => ?_))
      refine x_if_eq (tgt := 40) C dX10_provides_35 (by decide) (fun z9 => ?_) (fun z9 => ?_)
      · have h1 := h1.1 z9
        exact kp_X10_provides_40 h x1 x2 x3 x4 S17 C N hg hZ3 h1
      · have h1 := h1.2 z9
        refine x_iconst (v := (1 : Int32)) C dX10_provides_38 (by decide) ?_
        exact x_zret C (Nat.le_of_ble_eq_true rfl) (Nat.le_of_ble_eq_true rfl) rfl (by decide) dX10_provides_39 (hg _ _ h1)
theorem kp_X10_provides_3 {K : xm_K} (h : Nat) (x1 : Int32) (x2 : Option Nat) (x3 : Int32) (x4 : Int32) (S : xm_S) {g : Int32 → xm_S → Prop} (C : xm_Cx K cX10_provides RX10 5 (some (FieldType.boolean)) rm_X10_provides) (N : xm_Nx K) (hg : ∀ v S, g v S → xm_q K (some (xm_i v)) S)  (h1 : wp_X10_provides_3 h x1 x2 x3 x4 S g) : xm_W K 0 0 3 [(0, xm_r (some h)), (1, xm_i x1), (2, xm_r x2), (3, xm_i x3), (4, xm_i x4)] [] S :=
  h1 (fun x1 x2 x3 x4 S => xm_W K 0 0 3 [(0, xm_r (some h)), (1, xm_i x1), (2, xm_r x2), (3, xm_i x3), (4, xm_i x4)] [] S) (fun x1 x2 x3 x4 S hb => kp_X10_provides_3B h x1 x2 x3 x4 S C N hg (fun x1 x2 x3 x4 S hz => hz) hb)
def wp_X10_provides (h : Nat) (x1 : Int32) (x2 : Option Nat) (x3 : Int32) (S : xm_S) (g : Int32 → xm_S → Prop) : Prop :=
  wp_X10_provides_3 h x1 x2 x3 (0 : Int32) S g
set_option maxRecDepth 100000 in
set_option maxHeartbeats 4000000 in
theorem kp_X10_provides {K : xm_K} (h : Nat) (x1 : Int32) (x2 : Option Nat) (x3 : Int32) (S : xm_S) {g : Int32 → xm_S → Prop} (C : xm_Cx K cX10_provides RX10 5 (some (FieldType.boolean)) rm_X10_provides) (N : xm_Nx K) (hg : ∀ v S, g v S → xm_q K (some (xm_i v)) S)  (h1 : wp_X10_provides h x1 x2 x3 S g) : xm_W K 0 0 0 [(0, xm_r (some h)), (1, xm_i x1), (2, xm_r x2), (3, xm_i x3)] [] S := by
  unfold wp_X10_provides at h1
  refine x_iconst (v := (0 : Int32)) C dX10_provides_0 (by decide) ?_
  refine x_istore (L' := [(4, xm_i (0 : Int32)), (0, xm_r (some h)), (1, xm_i x1), (2, xm_r x2), (3, xm_i x3)]) C dX10_provides_1 (by decide) rfl ?_
  refine x_keep (L' := [(0, xm_r (some h)), (1, xm_i x1), (2, xm_r x2), (3, xm_i x3), (4, xm_i (0 : Int32))]) C [1, 2, 3, 4, 0] rfl ?_
  exact kp_X10_provides_3 h x1 x2 x3 (0 : Int32) S C N hg  h1
theorem kp_X10_provides_met {h : Nat} {x1 : Int32} {x2 : Option Nat} {x3 : Int32} {S : xm_S} {g : Int32 → xm_S → Prop}  (h1 : wp_X10_provides h x1 x2 x3 S g) : xm_Met yX10_provides cX10_provides 5 (some (FieldType.boolean)) rm_X10_provides [xm_r (some h), xm_i x1, xm_r x2, xm_i x3] S (xm_qi g) xm_nox :=
  xm_ofW RX10 (by decide +kernel) rfl (Nat.le_of_ble_eq_true rfl) (fun K C N hq hx hi => kp_X10_provides h x1 x2 x3 S C N (fun v S h => by rw [hq]; exact ⟨v, rfl, h⟩)  h1)
def rm_X7_meeting : Room := { frames := 4, cells := 0, slots := 0, locals := 93 }
theorem dX7_meeting_0 : decode cX7_meeting 0 = .ok (.aload_n 0, 1) := by decide +kernel
theorem dX7_meeting_1 : decode cX7_meeting 1 = .ok (.getfield 9, 3) := by decide +kernel
theorem dX7_meeting_4 : decode cX7_meeting 4 = .ok (.aload_n 1, 1) := by decide +kernel
theorem dX7_meeting_5 : decode cX7_meeting 5 = .ok (.getfield 113, 3) := by decide +kernel
theorem dX7_meeting_8 : decode cX7_meeting 8 = .ok (.aaload, 1) := by decide +kernel
theorem dX7_meeting_9 : decode cX7_meeting 9 = .ok (.getfield 116, 3) := by decide +kernel
theorem dX7_meeting_12 : decode cX7_meeting 12 = .ok (.istore_n 2, 1) := by decide +kernel
theorem dX7_meeting_13 : decode cX7_meeting 13 = .ok (.iconst 0, 1) := by decide +kernel
theorem dX7_meeting_14 : decode cX7_meeting 14 = .ok (.istore_n 3, 1) := by decide +kernel
theorem dX7_meeting_15 : decode cX7_meeting 15 = .ok (.iconst 0, 1) := by decide +kernel
theorem dX7_meeting_16 : decode cX7_meeting 16 = .ok (.istore 4, 2) := by decide +kernel
theorem dX7_meeting_18 : decode cX7_meeting 18 = .ok (.iload 4, 2) := by decide +kernel
theorem dX7_meeting_20 : decode cX7_meeting 20 = .ok (.bipush 6, 2) := by decide +kernel
theorem dX7_meeting_22 : decode cX7_meeting 22 = .ok (.if_icmp .ge 146, 3) := by decide +kernel
theorem dX7_meeting_25 : decode cX7_meeting 25 = .ok (.iconst 0, 1) := by decide +kernel
theorem dX7_meeting_26 : decode cX7_meeting 26 = .ok (.istore 5, 2) := by decide +kernel
theorem dX7_meeting_28 : decode cX7_meeting 28 = .ok (.iload 5, 2) := by decide +kernel
theorem dX7_meeting_30 : decode cX7_meeting 30 = .ok (.aload_n 0, 1) := by decide +kernel
theorem dX7_meeting_31 : decode cX7_meeting 31 = .ok (.getfield 9, 3) := by decide +kernel
theorem dX7_meeting_34 : decode cX7_meeting 34 = .ok (.iload 4, 2) := by decide +kernel
theorem dX7_meeting_36 : decode cX7_meeting 36 = .ok (.aaload, 1) := by decide +kernel
theorem dX7_meeting_37 : decode cX7_meeting 37 = .ok (.getfield 78, 3) := by decide +kernel
theorem dX7_meeting_40 : decode cX7_meeting 40 = .ok (.if_icmp .ge 122, 3) := by decide +kernel
theorem dX7_meeting_43 : decode cX7_meeting 43 = .ok (.aload_n 0, 1) := by decide +kernel
theorem dX7_meeting_44 : decode cX7_meeting 44 = .ok (.getfield 9, 3) := by decide +kernel
theorem dX7_meeting_47 : decode cX7_meeting 47 = .ok (.iload 4, 2) := by decide +kernel
theorem dX7_meeting_49 : decode cX7_meeting 49 = .ok (.aaload, 1) := by decide +kernel
theorem dX7_meeting_50 : decode cX7_meeting 50 = .ok (.getfield 83, 3) := by decide +kernel
theorem dX7_meeting_53 : decode cX7_meeting 53 = .ok (.iload 5, 2) := by decide +kernel
theorem dX7_meeting_55 : decode cX7_meeting 55 = .ok (.aaload, 1) := by decide +kernel
theorem dX7_meeting_56 : decode cX7_meeting 56 = .ok (.astore 6, 2) := by decide +kernel
theorem dX7_meeting_58 : decode cX7_meeting 58 = .ok (.iload 4, 2) := by decide +kernel
theorem dX7_meeting_60 : decode cX7_meeting 60 = .ok (.aload_n 1, 1) := by decide +kernel
theorem dX7_meeting_61 : decode cX7_meeting 61 = .ok (.getfield 113, 3) := by decide +kernel
theorem dX7_meeting_64 : decode cX7_meeting 64 = .ok (.if_icmp .ne 42, 3) := by decide +kernel
theorem dX7_meeting_67 : decode cX7_meeting 67 = .ok (.aload_n 1, 1) := by decide +kernel
theorem dX7_meeting_68 : decode cX7_meeting 68 = .ok (.getfield 119, 3) := by decide +kernel
theorem dX7_meeting_71 : decode cX7_meeting 71 = .ok (.aload 6, 2) := by decide +kernel
theorem dX7_meeting_73 : decode cX7_meeting 73 = .ok (.getfield 122, 3) := by decide +kernel
theorem dX7_meeting_76 : decode cX7_meeting 76 = .ok (.iconst (-1), 1) := by decide +kernel
theorem dX7_meeting_77 : decode cX7_meeting 77 = .ok (.ixor, 1) := by decide +kernel
theorem dX7_meeting_78 : decode cX7_meeting 78 = .ok (.iand, 1) := by decide +kernel
theorem dX7_meeting_79 : decode cX7_meeting 79 = .ok (.ifCond .ne 23, 3) := by decide +kernel
theorem dX7_meeting_82 : decode cX7_meeting 82 = .ok (.aload_n 1, 1) := by decide +kernel
theorem dX7_meeting_83 : decode cX7_meeting 83 = .ok (.getfield 123, 3) := by decide +kernel
theorem dX7_meeting_86 : decode cX7_meeting 86 = .ok (.aload 6, 2) := by decide +kernel
theorem dX7_meeting_88 : decode cX7_meeting 88 = .ok (.getfield 127, 3) := by decide +kernel
theorem dX7_meeting_91 : decode cX7_meeting 91 = .ok (.iload_n 2, 1) := by decide +kernel
theorem dX7_meeting_92 : decode cX7_meeting 92 = .ok (.invokevirtual 130, 3) := by decide +kernel
theorem dX7_meeting_95 : decode cX7_meeting 95 = .ok (.ifCond .eq 7, 3) := by decide +kernel
theorem dX7_meeting_98 : decode cX7_meeting 98 = .ok (.iconst 1, 1) := by decide +kernel
theorem dX7_meeting_99 : decode cX7_meeting 99 = .ok (.goto 36, 3) := by decide +kernel
theorem dX7_meeting_102 : decode cX7_meeting 102 = .ok (.iconst 0, 1) := by decide +kernel
theorem dX7_meeting_103 : decode cX7_meeting 103 = .ok (.goto 32, 3) := by decide +kernel
theorem dX7_meeting_106 : decode cX7_meeting 106 = .ok (.aload_n 1, 1) := by decide +kernel
theorem dX7_meeting_107 : decode cX7_meeting 107 = .ok (.getfield 119, 3) := by decide +kernel
theorem dX7_meeting_110 : decode cX7_meeting 110 = .ok (.ifCond .ne 24, 3) := by decide +kernel
theorem dX7_meeting_113 : decode cX7_meeting 113 = .ok (.aload 6, 2) := by decide +kernel
theorem dX7_meeting_115 : decode cX7_meeting 115 = .ok (.aload_n 1, 1) := by decide +kernel
theorem dX7_meeting_116 : decode cX7_meeting 116 = .ok (.getfield 113, 3) := by decide +kernel
theorem dX7_meeting_119 : decode cX7_meeting 119 = .ok (.aload_n 1, 1) := by decide +kernel
theorem dX7_meeting_120 : decode cX7_meeting 120 = .ok (.getfield 123, 3) := by decide +kernel
theorem dX7_meeting_123 : decode cX7_meeting 123 = .ok (.iload_n 2, 1) := by decide +kernel
theorem dX7_meeting_124 : decode cX7_meeting 124 = .ok (.invokevirtual 136, 3) := by decide +kernel
theorem dX7_meeting_127 : decode cX7_meeting 127 = .ok (.ifCond .eq 7, 3) := by decide +kernel
theorem dX7_meeting_130 : decode cX7_meeting 130 = .ok (.iconst 1, 1) := by decide +kernel
theorem dX7_meeting_131 : decode cX7_meeting 131 = .ok (.goto 4, 3) := by decide +kernel
theorem dX7_meeting_134 : decode cX7_meeting 134 = .ok (.iconst 0, 1) := by decide +kernel
theorem dX7_meeting_135 : decode cX7_meeting 135 = .ok (.istore 7, 2) := by decide +kernel
theorem dX7_meeting_137 : decode cX7_meeting 137 = .ok (.iload_n 3, 1) := by decide +kernel
theorem dX7_meeting_138 : decode cX7_meeting 138 = .ok (.iload 7, 2) := by decide +kernel
theorem dX7_meeting_140 : decode cX7_meeting 140 = .ok (.ifCond .eq 13, 3) := by decide +kernel
theorem dX7_meeting_143 : decode cX7_meeting 143 = .ok (.iload 4, 2) := by decide +kernel
theorem dX7_meeting_145 : decode cX7_meeting 145 = .ok (.iload 5, 2) := by decide +kernel
theorem dX7_meeting_147 : decode cX7_meeting 147 = .ok (.invokestatic 109, 3) := by decide +kernel
theorem dX7_meeting_150 : decode cX7_meeting 150 = .ok (.goto 4, 3) := by decide +kernel
theorem dX7_meeting_153 : decode cX7_meeting 153 = .ok (.iconst 0, 1) := by decide +kernel
theorem dX7_meeting_154 : decode cX7_meeting 154 = .ok (.ior, 1) := by decide +kernel
theorem dX7_meeting_155 : decode cX7_meeting 155 = .ok (.istore_n 3, 1) := by decide +kernel
theorem dX7_meeting_156 : decode cX7_meeting 156 = .ok (.iinc 5 1, 3) := by decide +kernel
theorem dX7_meeting_159 : decode cX7_meeting 159 = .ok (.goto (-131), 3) := by decide +kernel
theorem dX7_meeting_162 : decode cX7_meeting 162 = .ok (.iinc 4 1, 3) := by decide +kernel
theorem dX7_meeting_165 : decode cX7_meeting 165 = .ok (.goto (-147), 3) := by decide +kernel
theorem dX7_meeting_168 : decode cX7_meeting 168 = .ok (.iload_n 3, 1) := by decide +kernel
theorem dX7_meeting_169 : decode cX7_meeting 169 = .ok (.ireturn, 1) := by decide +kernel
def wp_X7_meeting_154 (h : Nat) (x1 : Option Nat) (x2 : Int32) (x4 : Int32) (x5 : Int32) (s0 : Int32) (s1 : Int32) (S : xm_S) (g : Int32 → xm_S → Prop) (Z18 : Option Nat → Int32 → Int32 → Int32 → xm_S → Prop) (Z28 : Option Nat → Int32 → Int32 → Int32 → Int32 → xm_S → Prop) : Prop :=
  ∀ y1, y1 = (s1 ||| s0) → ∀ y3, y3 = (x5 + (1 : Int32)) → Z28 x1 x2 y1 x4 y3 S
set_option maxRecDepth 100000 in
set_option maxHeartbeats 4000000 in
theorem kp_X7_meeting_154 {K : xm_K} (h : Nat) (x1 : Option Nat) (x2 : Int32) (x4 : Int32) (x5 : Int32) (s0 : Int32) (s1 : Int32) (S : xm_S) {g : Int32 → xm_S → Prop} {Z18 : Option Nat → Int32 → Int32 → Int32 → xm_S → Prop} {Z28 : Option Nat → Int32 → Int32 → Int32 → Int32 → xm_S → Prop} (C : xm_Cx K cX7_meeting RX7 8 (some (FieldType.int)) rm_X7_meeting) (N : xm_Nx K) (hg : ∀ v S, g v S → xm_q K (some (xm_i v)) S) (hZ18 : ∀ x1 x2 x3 x4 S, Z18 x1 x2 x3 x4 S → xm_W K 0 0 18 [(0, xm_r (some h)), (1, xm_r x1), (2, xm_i x2), (3, xm_i x3), (4, xm_i x4)] [] S) (hZ28 : ∀ x1 x2 x3 x4 x5 S, Z28 x1 x2 x3 x4 x5 S → xm_W K 0 0 28 [(0, xm_r (some h)), (1, xm_r x1), (2, xm_i x2), (3, xm_i x3), (4, xm_i x4), (5, xm_i x5)] [] S) (h1 : wp_X7_meeting_154 h x1 x2 x4 x5 s0 s1 S g Z18 Z28) : xm_W K 0 0 154 [(0, xm_r (some h)), (1, xm_r x1), (2, xm_i x2), (4, xm_i x4), (5, xm_i x5)] [xm_i s0, xm_i s1] S := by
  unfold wp_X7_meeting_154 at h1
  refine x_ior C dX7_meeting_154 ?_
  refine x_topi (fun y1 e2 => ?_)
  have h1 := h1 y1 e2
  refine x_istore_n (L' := [(3, xm_i y1), (0, xm_r (some h)), (1, xm_r x1), (2, xm_i x2), (4, xm_i x4), (5, xm_i x5)]) C dX7_meeting_155 rfl (by decide) rfl ?_
  obtain ⟨y3, e4⟩ : ∃ y3, y3 = (x5 + (1 : Int32)) := ⟨_, rfl⟩
  have h1 := h1 y3 e4
  refine x_iinc (v := y3) (L' := [(5, xm_i y3), (3, xm_i y1), (0, xm_r (some h)), (1, xm_r x1), (2, xm_i x2), (4, xm_i x4)]) C 5 dX7_meeting_156 rfl (by rw [e4]; rfl) (by decide) rfl ?_
  refine x_goto (tgt := 28) C dX7_meeting_159 (by decide) ?_
  refine x_keep (L' := [(0, xm_r (some h)), (1, xm_r x1), (2, xm_i x2), (3, xm_i y1), (4, xm_i x4), (5, xm_i y3)]) C [2, 3, 4, 1, 5, 0] rfl ?_
  exact hZ28 x1 x2 y1 x4 y3 S h1
def wp_X7_meeting_135 (h : Nat) (x1 : Option Nat) (x2 : Int32) (x3 : Int32) (x4 : Int32) (x5 : Int32) (s0 : Int32) (S : xm_S) (g : Int32 → xm_S → Prop) (Z18 : Option Nat → Int32 → Int32 → Int32 → xm_S → Prop) (Z28 : Option Nat → Int32 → Int32 → Int32 → Int32 → xm_S → Prop) : Prop :=
  (s0 = 0 → wp_X7_meeting_154 h x1 x2 x4 x5 (0 : Int32) x3 S g Z18 Z28) ∧ (¬ s0 = 0 → wp_X7_bitOf x4 x5 S (fun r6 S5 => wp_X7_meeting_154 h x1 x2 x4 x5 r6 x3 S5 g Z18 Z28))
set_option maxRecDepth 100000 in
set_option maxHeartbeats 4000000 in
theorem kp_X7_meeting_135 {K : xm_K} (h : Nat) (x1 : Option Nat) (x2 : Int32) (x3 : Int32) (x4 : Int32) (x5 : Int32) (s0 : Int32) (S : xm_S) {g : Int32 → xm_S → Prop} {Z18 : Option Nat → Int32 → Int32 → Int32 → xm_S → Prop} {Z28 : Option Nat → Int32 → Int32 → Int32 → Int32 → xm_S → Prop} (C : xm_Cx K cX7_meeting RX7 8 (some (FieldType.int)) rm_X7_meeting) (N : xm_Nx K) (hg : ∀ v S, g v S → xm_q K (some (xm_i v)) S) (hZ18 : ∀ x1 x2 x3 x4 S, Z18 x1 x2 x3 x4 S → xm_W K 0 0 18 [(0, xm_r (some h)), (1, xm_r x1), (2, xm_i x2), (3, xm_i x3), (4, xm_i x4)] [] S) (hZ28 : ∀ x1 x2 x3 x4 x5 S, Z28 x1 x2 x3 x4 x5 S → xm_W K 0 0 28 [(0, xm_r (some h)), (1, xm_r x1), (2, xm_i x2), (3, xm_i x3), (4, xm_i x4), (5, xm_i x5)] [] S) (h1 : wp_X7_meeting_135 h x1 x2 x3 x4 x5 s0 S g Z18 Z28) : xm_W K 0 0 135 [(0, xm_r (some h)), (1, xm_r x1), (2, xm_i x2), (3, xm_i x3), (4, xm_i x4), (5, xm_i x5)] [xm_i s0] S := by
  unfold wp_X7_meeting_135 at h1
  refine x_istore (L' := [(7, xm_i s0), (0, xm_r (some h)), (1, xm_r x1), (2, xm_i x2), (3, xm_i x3), (4, xm_i x4), (5, xm_i x5)]) C dX7_meeting_135 (by decide) rfl ?_
  refine x_iload_n C 4 dX7_meeting_137 rfl rfl ?_
  refine x_iload C 0 dX7_meeting_138 rfl ?_
  refine x_if_eq (tgt := 153) C dX7_meeting_140 (by decide) (fun z9 => ?_) (fun z9 => ?_)
  · have h1 := h1.1 z9
    refine x_iconst (v := (0 : Int32)) C dX7_meeting_153 (by decide) ?_
    refine x_keep (L' := [(0, xm_r (some h)), (1, xm_r x1), (2, xm_i x2), (4, xm_i x4), (5, xm_i x5)]) C [1, 2, 3, 5, 6] rfl ?_
    exact kp_X7_meeting_154 h x1 x2 x4 x5 (0 : Int32) x3 S C N hg hZ18 hZ28 h1
  · have h1 := h1.2 z9
    refine x_iload C 5 dX7_meeting_143 rfl ?_
    refine x_iload C 6 dX7_meeting_145 rfl ?_
    refine x_callS (rm' := rm_X7_bitOf) C (kp_X7_bitOf_met h1) lk_20 gw_163 rfl (Nat.le_of_ble_eq_true rfl) ⟨Nat.le_of_ble_eq_true rfl, Nat.le_of_ble_eq_true rfl, (Nat.le_of_ble_eq_true rfl), (Nat.le_of_ble_eq_true rfl)⟩ dX7_meeting_147 xm_kx (xm_ki (fun r6 S5 h1 => ?_))
    refine x_goto (tgt := 154) C dX7_meeting_150 (by decide) ?_
    refine x_keep (L' := [(0, xm_r (some h)), (1, xm_r x1), (2, xm_i x2), (4, xm_i x4), (5, xm_i x5)]) C [1, 2, 3, 5, 6] rfl ?_
    exact kp_X7_meeting_154 h x1 x2 x4 x5 r6 x3 S5 C N hg hZ18 hZ28 h1
def wp_X7_meeting_102 (h : Nat) (x1 : Option Nat) (x2 : Int32) (x3 : Int32) (x4 : Int32) (x5 : Int32) (S : xm_S) (g : Int32 → xm_S → Prop) (Z18 : Option Nat → Int32 → Int32 → Int32 → xm_S → Prop) (Z28 : Option Nat → Int32 → Int32 → Int32 → Int32 → xm_S → Prop) : Prop :=
  wp_X7_meeting_135 h x1 x2 x3 x4 x5 (0 : Int32) S g Z18 Z28
set_option maxRecDepth 100000 in
set_option maxHeartbeats 4000000 in
theorem kp_X7_meeting_102 {K : xm_K} (h : Nat) (x1 : Option Nat) (x2 : Int32) (x3 : Int32) (x4 : Int32) (x5 : Int32) (S : xm_S) {g : Int32 → xm_S → Prop} {Z18 : Option Nat → Int32 → Int32 → Int32 → xm_S → Prop} {Z28 : Option Nat → Int32 → Int32 → Int32 → Int32 → xm_S → Prop} (C : xm_Cx K cX7_meeting RX7 8 (some (FieldType.int)) rm_X7_meeting) (N : xm_Nx K) (hg : ∀ v S, g v S → xm_q K (some (xm_i v)) S) (hZ18 : ∀ x1 x2 x3 x4 S, Z18 x1 x2 x3 x4 S → xm_W K 0 0 18 [(0, xm_r (some h)), (1, xm_r x1), (2, xm_i x2), (3, xm_i x3), (4, xm_i x4)] [] S) (hZ28 : ∀ x1 x2 x3 x4 x5 S, Z28 x1 x2 x3 x4 x5 S → xm_W K 0 0 28 [(0, xm_r (some h)), (1, xm_r x1), (2, xm_i x2), (3, xm_i x3), (4, xm_i x4), (5, xm_i x5)] [] S) (h1 : wp_X7_meeting_102 h x1 x2 x3 x4 x5 S g Z18 Z28) : xm_W K 0 0 102 [(0, xm_r (some h)), (1, xm_r x1), (2, xm_i x2), (3, xm_i x3), (4, xm_i x4), (5, xm_i x5)] [] S := by
  unfold wp_X7_meeting_102 at h1
  refine x_iconst (v := (0 : Int32)) C dX7_meeting_102 (by decide) ?_
  refine x_goto (tgt := 135) C dX7_meeting_103 (by decide) ?_
  exact kp_X7_meeting_135 h x1 x2 x3 x4 x5 (0 : Int32) S C N hg hZ18 hZ28 h1
def wp_X7_meeting_134 (h : Nat) (x1 : Option Nat) (x2 : Int32) (x3 : Int32) (x4 : Int32) (x5 : Int32) (S : xm_S) (g : Int32 → xm_S → Prop) (Z18 : Option Nat → Int32 → Int32 → Int32 → xm_S → Prop) (Z28 : Option Nat → Int32 → Int32 → Int32 → Int32 → xm_S → Prop) : Prop :=
  wp_X7_meeting_135 h x1 x2 x3 x4 x5 (0 : Int32) S g Z18 Z28
set_option maxRecDepth 100000 in
set_option maxHeartbeats 4000000 in
theorem kp_X7_meeting_134 {K : xm_K} (h : Nat) (x1 : Option Nat) (x2 : Int32) (x3 : Int32) (x4 : Int32) (x5 : Int32) (S : xm_S) {g : Int32 → xm_S → Prop} {Z18 : Option Nat → Int32 → Int32 → Int32 → xm_S → Prop} {Z28 : Option Nat → Int32 → Int32 → Int32 → Int32 → xm_S → Prop} (C : xm_Cx K cX7_meeting RX7 8 (some (FieldType.int)) rm_X7_meeting) (N : xm_Nx K) (hg : ∀ v S, g v S → xm_q K (some (xm_i v)) S) (hZ18 : ∀ x1 x2 x3 x4 S, Z18 x1 x2 x3 x4 S → xm_W K 0 0 18 [(0, xm_r (some h)), (1, xm_r x1), (2, xm_i x2), (3, xm_i x3), (4, xm_i x4)] [] S) (hZ28 : ∀ x1 x2 x3 x4 x5 S, Z28 x1 x2 x3 x4 x5 S → xm_W K 0 0 28 [(0, xm_r (some h)), (1, xm_r x1), (2, xm_i x2), (3, xm_i x3), (4, xm_i x4), (5, xm_i x5)] [] S) (h1 : wp_X7_meeting_134 h x1 x2 x3 x4 x5 S g Z18 Z28) : xm_W K 0 0 134 [(0, xm_r (some h)), (1, xm_r x1), (2, xm_i x2), (3, xm_i x3), (4, xm_i x4), (5, xm_i x5)] [] S := by
  unfold wp_X7_meeting_134 at h1
  refine x_iconst (v := (0 : Int32)) C dX7_meeting_134 (by decide) ?_
  exact kp_X7_meeting_135 h x1 x2 x3 x4 x5 (0 : Int32) S C N hg hZ18 hZ28 h1
def wp_X7_meeting_28B (h : Nat) (x1 : Option Nat) (x2 : Int32) (x3 : Int32) (x4 : Int32) (x5 : Int32) (S : xm_S) (g : Int32 → xm_S → Prop) (Z18 : Option Nat → Int32 → Int32 → Int32 → xm_S → Prop) (Z28 : Option Nat → Int32 → Int32 → Int32 → Int32 → xm_S → Prop) : Prop :=
  st_t S h = some (7, 0) ∧ ∃ n8, (st_r S h 0) = some n8 ∧ ∃ z11, st_t S n8 = some (115, z11) ∧ vp_in x4 z11 ∧ ∃ n13, (st_r S n8 (x4).toNatClampNeg) = some n13 ∧ st_t S n13 = some (5, 0) ∧ ((st_i S n13 2) ≤ x5 → ∀ y16, y16 = (x4 + (1 : Int32)) → Z18 x1 x2 x3 y16 S) ∧ (¬ (st_i S n13 2) ≤ x5 → ∃ n18, (st_r S h 0) = some n18 ∧ ∃ z21, st_t S n18 = some (115, z21) ∧ vp_in x4 z21 ∧ ∃ n23, (st_r S n18 (x4).toNatClampNeg) = some n23 ∧ st_t S n23 = some (5, 0) ∧ ∃ n26, (st_r S n23 1) = some n26 ∧ ∃ z29, st_t S n26 = some (120, z29) ∧ vp_in x5 z29 ∧ ∃ n31, x1 = some n31 ∧ st_t S n31 = some (4, 0) ∧ (¬ x4 = (st_i S n31 0) → ∃ n34, x1 = some n34 ∧ st_t S n34 = some (4, 0) ∧ (¬ (st_i S n34 2) = 0 → wp_X7_meeting_134 h x1 x2 x3 x4 x5 S g Z18 Z28) ∧ ((st_i S n34 2) = 0 → ∃ n37, x1 = some n37 ∧ st_t S n37 = some (4, 0) ∧ ∃ n40, x1 = some n40 ∧ st_t S n40 = some (4, 0) ∧ ∃ n43, (st_r S n26 (x5).toNatClampNeg) = some n43 ∧ st_t S n43 = some (10, 0) ∧ wp_X10_provides n43 (st_i S n37 0) (st_r S n40 1) x2 S (fun r47 S46 => (r47 = 0 → wp_X7_meeting_134 h x1 x2 x3 x4 x5 S46 g Z18 Z28) ∧ (¬ r47 = 0 → wp_X7_meeting_135 h x1 x2 x3 x4 x5 (1 : Int32) S46 g Z18 Z28)))) ∧ (x4 = (st_i S n31 0) → ∃ n48, x1 = some n48 ∧ st_t S n48 = some (4, 0) ∧ ∃ n51, (st_r S n26 (x5).toNatClampNeg) = some n51 ∧ st_t S n51 = some (10, 0) ∧ (¬ ((st_i S n48 2) &&& ((st_i S n51 1) ^^^ (-1 : Int32))) = 0 → wp_X7_meeting_102 h x1 x2 x3 x4 x5 S g Z18 Z28) ∧ (((st_i S n48 2) &&& ((st_i S n51 1) ^^^ (-1 : Int32))) = 0 → ∃ n54, x1 = some n54 ∧ st_t S n54 = some (4, 0) ∧ ∃ n57, (st_r S n26 (x5).toNatClampNeg) = some n57 ∧ st_t S n57 = some (10, 0) ∧ ∃ n60, (st_r S n54 1) = some n60 ∧ st_t S n60 = some (6, 0) ∧ wp_X6_includes n60 (st_i S n57 0) x2 S (fun r64 S63 => (r64 = 0 → wp_X7_meeting_102 h x1 x2 x3 x4 x5 S63 g Z18 Z28) ∧ (¬ r64 = 0 → wp_X7_meeting_135 h x1 x2 x3 x4 x5 (1 : Int32) S63 g Z18 Z28)))))
def wp_X7_meeting_28 (h : Nat) (x1 : Option Nat) (x2 : Int32) (x3 : Int32) (x4 : Int32) (x5 : Int32) (S : xm_S) (g : Int32 → xm_S → Prop) (Z18 : Option Nat → Int32 → Int32 → Int32 → xm_S → Prop) : Prop :=
  ∀ Z28 : Option Nat → Int32 → Int32 → Int32 → Int32 → xm_S → Prop, (∀ x1 x2 x3 x4 x5 S, wp_X7_meeting_28B h x1 x2 x3 x4 x5 S g Z18 Z28 → Z28 x1 x2 x3 x4 x5 S) → Z28 x1 x2 x3 x4 x5 S
set_option maxRecDepth 100000 in
set_option maxHeartbeats 4000000 in
theorem kp_X7_meeting_28B {K : xm_K} (h : Nat) (x1 : Option Nat) (x2 : Int32) (x3 : Int32) (x4 : Int32) (x5 : Int32) (S : xm_S) {g : Int32 → xm_S → Prop} {Z18 : Option Nat → Int32 → Int32 → Int32 → xm_S → Prop} {Z28 : Option Nat → Int32 → Int32 → Int32 → Int32 → xm_S → Prop} (C : xm_Cx K cX7_meeting RX7 8 (some (FieldType.int)) rm_X7_meeting) (N : xm_Nx K) (hg : ∀ v S, g v S → xm_q K (some (xm_i v)) S) (hZ18 : ∀ x1 x2 x3 x4 S, Z18 x1 x2 x3 x4 S → xm_W K 0 0 18 [(0, xm_r (some h)), (1, xm_r x1), (2, xm_i x2), (3, xm_i x3), (4, xm_i x4)] [] S) (hZ28 : ∀ x1 x2 x3 x4 x5 S, Z28 x1 x2 x3 x4 x5 S → xm_W K 0 0 28 [(0, xm_r (some h)), (1, xm_r x1), (2, xm_i x2), (3, xm_i x3), (4, xm_i x4), (5, xm_i x5)] [] S) (h1 : wp_X7_meeting_28B h x1 x2 x3 x4 x5 S g Z18 Z28) : xm_W K 0 0 28 [(0, xm_r (some h)), (1, xm_r x1), (2, xm_i x2), (3, xm_i x3), (4, xm_i x4), (5, xm_i x5)] [] S := by
  unfold wp_X7_meeting_28B at h1
  refine x_iload C 5 dX7_meeting_28 rfl ?_
  refine x_aload_n C 0 dX7_meeting_30 rfl rfl ?_
  obtain ⟨ht7, h1⟩ := h1
  refine x_getf_r (n := h) C rfl ht7 fd_58 (by decide) dX7_meeting_31 ?_
  refine x_iload C 4 dX7_meeting_34 rfl ?_
  obtain ⟨n8, hr9, h1⟩ := h1
  obtain ⟨z11, ht10, h1⟩ := h1
  obtain ⟨hi12, h1⟩ := h1
  refine x_aald (n := n8) C hr9 (by decide) rfl ht10 hi12 dX7_meeting_36 ?_
  obtain ⟨n13, hr14, h1⟩ := h1
  obtain ⟨ht15, h1⟩ := h1
  refine x_getf_i (n := n13) C hr14 ht15 fd_64 (by decide) dX7_meeting_37 ?_
  refine x_icmp_ge (tgt := 162) C dX7_meeting_40 (by decide) (fun z9 => ?_) (fun z9 => ?_)
  · have h1 := h1.1 z9
    obtain ⟨y16, e17⟩ : ∃ y16, y16 = (x4 + (1 : Int32)) := ⟨_, rfl⟩
    have h1 := h1 y16 e17
    refine x_iinc (v := y16) (L' := [(4, xm_i y16), (0, xm_r (some h)), (1, xm_r x1), (2, xm_i x2), (3, xm_i x3), (5, xm_i x5)]) C 4 dX7_meeting_162 rfl (by rw [e17]; rfl) (by decide) rfl ?_
    refine x_goto (tgt := 18) C dX7_meeting_165 (by decide) ?_
    refine x_keep (L' := [(0, xm_r (some h)), (1, xm_r x1), (2, xm_i x2), (3, xm_i x3), (4, xm_i y16)]) C [1, 2, 3, 4, 0] rfl ?_
    exact hZ18 x1 x2 x3 y16 S h1
  · have h1 := h1.2 z9
    refine x_aload_n C 0 dX7_meeting_43 rfl rfl ?_
    refine x_getf_r (n := h) C rfl ht7 fd_58 (by decide) dX7_meeting_44 ?_
    refine x_iload C 4 dX7_meeting_47 rfl ?_
    obtain ⟨n18, hr19, h1⟩ := h1
    obtain ⟨z21, ht20, h1⟩ := h1
    obtain ⟨hi22, h1⟩ := h1
    refine x_aald (n := n18) C hr19 (by decide) rfl ht20 hi22 dX7_meeting_49 ?_
    obtain ⟨n23, hr24, h1⟩ := h1
    obtain ⟨ht25, h1⟩ := h1
    refine x_getf_r (n := n23) C hr24 ht25 fd_59 (by decide) dX7_meeting_50 ?_
    refine x_iload C 5 dX7_meeting_53 rfl ?_
    obtain ⟨n26, hr27, h1⟩ := h1
    obtain ⟨z29, ht28, h1⟩ := h1
    obtain ⟨hi30, h1⟩ := h1
    refine x_aald (n := n26) C hr27 (by decide) rfl ht28 hi30 dX7_meeting_55 ?_
    refine x_astore (L' := [(6, xm_r (st_r S n26 (x5).toNatClampNeg)), (0, xm_r (some h)), (1, xm_r x1), (2, xm_i x2), (3, xm_i x3), (4, xm_i x4), (5, xm_i x5)]) C dX7_meeting_56 (by decide) rfl ?_
    refine x_iload C 5 dX7_meeting_58 rfl ?_
    refine x_aload_n C 2 dX7_meeting_60 rfl rfl ?_
    obtain ⟨n31, hr32, h1⟩ := h1
    obtain ⟨ht33, h1⟩ := h1
    refine x_getf_i (n := n31) C hr32 ht33 fd_52 (by decide) dX7_meeting_61 ?_
    refine x_icmp_ne (tgt := 106) C dX7_meeting_64 (by decide) (fun z9 => ?_) (fun z9 => ?_)
    · have h1 := h1.1 z9
      refine x_aload_n C 2 dX7_meeting_106 rfl rfl ?_
      obtain ⟨n34, hr35, h1⟩ := h1
      obtain ⟨ht36, h1⟩ := h1
      refine x_getf_i (n := n34) C hr35 ht36 fd_51 (by decide) dX7_meeting_107 ?_
      refine x_if_ne (tgt := 134) C dX7_meeting_110 (by decide) (fun z9 => ?_) (fun z9 => ?_)
      · have h1 := h1.1 z9
        refine x_keep (L' := [(0, xm_r (some h)), (1, xm_r x1), (2, xm_i x2), (3, xm_i x3), (4, xm_i x4), (5, xm_i x5)]) C [1, 2, 3, 4, 5, 6] rfl ?_
        exact kp_X7_meeting_134 h x1 x2 x3 x4 x5 S C N hg hZ18 hZ28 h1
      · have h1 := h1.2 z9
        refine x_aload C 0 dX7_meeting_113 rfl ?_
        refine x_aload_n C 2 dX7_meeting_115 rfl rfl ?_
        obtain ⟨n37, hr38, h1⟩ := h1
        obtain ⟨ht39, h1⟩ := h1
        refine x_getf_i (n := n37) C hr38 ht39 fd_52 (by decide) dX7_meeting_116 ?_
        refine x_aload_n C 2 dX7_meeting_119 rfl rfl ?_
        obtain ⟨n40, hr41, h1⟩ := h1
        obtain ⟨ht42, h1⟩ := h1
        refine x_getf_r (n := n40) C hr41 ht42 fd_78 (by decide) dX7_meeting_120 ?_
        refine x_iload_n C 3 dX7_meeting_123 rfl rfl ?_
        obtain ⟨n43, hr44, h1⟩ := h1
        obtain ⟨ht45, h1⟩ := h1
        refine x_callV (rm' := rm_X10_provides) (n := n43) C (kp_X10_provides_met h1) lk_32 gw_231 gw_232 xv_10 rfl hr44 ht45 rfl (Nat.le_of_ble_eq_true rfl) ⟨Nat.le_of_ble_eq_true rfl, Nat.le_of_ble_eq_true rfl, (Nat.le_of_ble_eq_true rfl), (Nat.le_of_ble_eq_true rfl)⟩ dX7_meeting_124 xm_kx (xm_ki (fun r47 S46 h1 => ?_))
        refine x_if_eq (tgt := 134) C dX7_meeting_127 (by decide) (fun z9 => ?_) (fun z9 => ?_)
        · have h1 := h1.1 z9
          refine x_keep (L' := [(0, xm_r (some h)), (1, xm_r x1), (2, xm_i x2), (3, xm_i x3), (4, xm_i x4), (5, xm_i x5)]) C [1, 2, 3, 4, 5, 6] rfl ?_
          exact kp_X7_meeting_134 h x1 x2 x3 x4 x5 S46 C N hg hZ18 hZ28 h1
        · have h1 := h1.2 z9
          refine x_iconst (v := (1 : Int32)) C dX7_meeting_130 (by decide) ?_
          refine x_goto (tgt := 135) C dX7_meeting_131 (by decide) ?_
          refine x_keep (L' := [(0, xm_r (some h)), (1, xm_r x1), (2, xm_i x2), (3, xm_i x3), (4, xm_i x4), (5, xm_i x5)]) C [1, 2, 3, 4, 5, 6] rfl ?_
          exact kp_X7_meeting_135 h x1 x2 x3 x4 x5 (1 : Int32) S46 C N hg hZ18 hZ28 h1
    · have h1 := h1.2 z9
      refine x_aload_n C 2 dX7_meeting_67 rfl rfl ?_
      obtain ⟨n48, hr49, h1⟩ := h1
      obtain ⟨ht50, h1⟩ := h1
      refine x_getf_i (n := n48) C hr49 ht50 fd_51 (by decide) dX7_meeting_68 ?_
      refine x_aload C 0 dX7_meeting_71 rfl ?_
      obtain ⟨n51, hr52, h1⟩ := h1
      obtain ⟨ht53, h1⟩ := h1
      refine x_getf_i (n := n51) C hr52 ht53 fd_79 (by decide) dX7_meeting_73 ?_
      refine x_iconst (v := (-1 : Int32)) C dX7_meeting_76 (by decide) ?_
      refine x_ixor C dX7_meeting_77 ?_
      refine x_iand C dX7_meeting_78 ?_
      refine x_if_ne (tgt := 102) C dX7_meeting_79 (by decide) (fun z9 => ?_) (fun z9 => ?_)
      · have h1 := h1.1 z9
        refine x_keep (L' := [(0, xm_r (some h)), (1, xm_r x1), (2, xm_i x2), (3, xm_i x3), (4, xm_i x4), (5, xm_i x5)]) C [1, 2, 3, 4, 5, 6] rfl ?_
        exact kp_X7_meeting_102 h x1 x2 x3 x4 x5 S C N hg hZ18 hZ28 h1
      · have h1 := h1.2 z9
        refine x_aload_n C 2 dX7_meeting_82 rfl rfl ?_
        obtain ⟨n54, hr55, h1⟩ := h1
        obtain ⟨ht56, h1⟩ := h1
        refine x_getf_r (n := n54) C hr55 ht56 fd_78 (by decide) dX7_meeting_83 ?_
        refine x_aload C 0 dX7_meeting_86 rfl ?_
        obtain ⟨n57, hr58, h1⟩ := h1
        obtain ⟨ht59, h1⟩ := h1
        refine x_getf_i (n := n57) C hr58 ht59 fd_80 (by decide) dX7_meeting_88 ?_
        refine x_iload_n C 3 dX7_meeting_91 rfl rfl ?_
        obtain ⟨n60, hr61, h1⟩ := h1
        obtain ⟨ht62, h1⟩ := h1
        refine x_callV (rm' := rm_X6_includes) (n := n60) C (kp_X6_includes_met h1) lk_33 gw_225 gw_226 xv_6 rfl hr61 ht62 rfl (Nat.le_of_ble_eq_true rfl) ⟨Nat.le_of_ble_eq_true rfl, Nat.le_of_ble_eq_true rfl, (Nat.le_of_ble_eq_true rfl), (Nat.le_of_ble_eq_true rfl)⟩ dX7_meeting_92 xm_kx (xm_ki (fun r64 S63 h1 => ?_))
        refine x_if_eq (tgt := 102) C dX7_meeting_95 (by decide) (fun z9 => ?_) (fun z9 => ?_)
        · have h1 := h1.1 z9
          refine x_keep (L' := [(0, xm_r (some h)), (1, xm_r x1), (2, xm_i x2), (3, xm_i x3), (4, xm_i x4), (5, xm_i x5)]) C [1, 2, 3, 4, 5, 6] rfl ?_
          exact kp_X7_meeting_102 h x1 x2 x3 x4 x5 S63 C N hg hZ18 hZ28 h1
        · have h1 := h1.2 z9
          refine x_iconst (v := (1 : Int32)) C dX7_meeting_98 (by decide) ?_
          refine x_goto (tgt := 135) C dX7_meeting_99 (by decide) ?_
          refine x_keep (L' := [(0, xm_r (some h)), (1, xm_r x1), (2, xm_i x2), (3, xm_i x3), (4, xm_i x4), (5, xm_i x5)]) C [1, 2, 3, 4, 5, 6] rfl ?_
          exact kp_X7_meeting_135 h x1 x2 x3 x4 x5 (1 : Int32) S63 C N hg hZ18 hZ28 h1
theorem kp_X7_meeting_28 {K : xm_K} (h : Nat) (x1 : Option Nat) (x2 : Int32) (x3 : Int32) (x4 : Int32) (x5 : Int32) (S : xm_S) {g : Int32 → xm_S → Prop} {Z18 : Option Nat → Int32 → Int32 → Int32 → xm_S → Prop} (C : xm_Cx K cX7_meeting RX7 8 (some (FieldType.int)) rm_X7_meeting) (N : xm_Nx K) (hg : ∀ v S, g v S → xm_q K (some (xm_i v)) S) (hZ18 : ∀ x1 x2 x3 x4 S, Z18 x1 x2 x3 x4 S → xm_W K 0 0 18 [(0, xm_r (some h)), (1, xm_r x1), (2, xm_i x2), (3, xm_i x3), (4, xm_i x4)] [] S) (h1 : wp_X7_meeting_28 h x1 x2 x3 x4 x5 S g Z18) : xm_W K 0 0 28 [(0, xm_r (some h)), (1, xm_r x1), (2, xm_i x2), (3, xm_i x3), (4, xm_i x4), (5, xm_i x5)] [] S :=
  h1 (fun x1 x2 x3 x4 x5 S => xm_W K 0 0 28 [(0, xm_r (some h)), (1, xm_r x1), (2, xm_i x2), (3, xm_i x3), (4, xm_i x4), (5, xm_i x5)] [] S) (fun x1 x2 x3 x4 x5 S hb => kp_X7_meeting_28B h x1 x2 x3 x4 x5 S C N hg hZ18 (fun x1 x2 x3 x4 x5 S hz => hz) hb)
def wp_X7_meeting_18B (h : Nat) (x1 : Option Nat) (x2 : Int32) (x3 : Int32) (x4 : Int32) (S : xm_S) (g : Int32 → xm_S → Prop) (Z18 : Option Nat → Int32 → Int32 → Int32 → xm_S → Prop) : Prop :=
  ((nI 6) ≤ x4 → g x3 S) ∧ (¬ (nI 6) ≤ x4 → wp_X7_meeting_28 h x1 x2 x3 x4 (0 : Int32) S g Z18)
def wp_X7_meeting_18 (h : Nat) (x1 : Option Nat) (x2 : Int32) (x3 : Int32) (x4 : Int32) (S : xm_S) (g : Int32 → xm_S → Prop) : Prop :=
  ∀ Z18 : Option Nat → Int32 → Int32 → Int32 → xm_S → Prop, (∀ x1 x2 x3 x4 S, wp_X7_meeting_18B h x1 x2 x3 x4 S g Z18 → Z18 x1 x2 x3 x4 S) → Z18 x1 x2 x3 x4 S
set_option maxRecDepth 100000 in
set_option maxHeartbeats 4000000 in
theorem kp_X7_meeting_18B {K : xm_K} (h : Nat) (x1 : Option Nat) (x2 : Int32) (x3 : Int32) (x4 : Int32) (S : xm_S) {g : Int32 → xm_S → Prop} {Z18 : Option Nat → Int32 → Int32 → Int32 → xm_S → Prop} (C : xm_Cx K cX7_meeting RX7 8 (some (FieldType.int)) rm_X7_meeting) (N : xm_Nx K) (hg : ∀ v S, g v S → xm_q K (some (xm_i v)) S) (hZ18 : ∀ x1 x2 x3 x4 S, Z18 x1 x2 x3 x4 S → xm_W K 0 0 18 [(0, xm_r (some h)), (1, xm_r x1), (2, xm_i x2), (3, xm_i x3), (4, xm_i x4)] [] S) (h1 : wp_X7_meeting_18B h x1 x2 x3 x4 S g Z18) : xm_W K 0 0 18 [(0, xm_r (some h)), (1, xm_r x1), (2, xm_i x2), (3, xm_i x3), (4, xm_i x4)] [] S := by
  unfold wp_X7_meeting_18B at h1
  refine x_iload C 4 dX7_meeting_18 rfl ?_
  refine x_bipush (v := (nI 6)) C dX7_meeting_20 (by decide) ?_
  refine x_icmp_ge (tgt := 168) C dX7_meeting_22 (by decide) (fun z9 => ?_) (fun z9 => ?_)
  · have h1 := h1.1 z9
    refine x_iload_n C 3 dX7_meeting_168 rfl rfl ?_
    exact x_iret C (Nat.le_of_ble_eq_true rfl) (Nat.le_of_ble_eq_true rfl) rfl dX7_meeting_169 (hg _ _ h1)
  · have h1 := h1.2 z9
    refine x_iconst (v := (0 : Int32)) C dX7_meeting_25 (by decide) ?_
    refine x_istore (L' := [(5, xm_i (0 : Int32)), (0, xm_r (some h)), (1, xm_r x1), (2, xm_i x2), (3, xm_i x3), (4, xm_i x4)]) C dX7_meeting_26 (by decide) rfl ?_
    refine x_keep (L' := [(0, xm_r (some h)), (1, xm_r x1), (2, xm_i x2), (3, xm_i x3), (4, xm_i x4), (5, xm_i (0 : Int32))]) C [1, 2, 3, 4, 5, 0] rfl ?_
    exact kp_X7_meeting_28 h x1 x2 x3 x4 (0 : Int32) S C N hg hZ18 h1
theorem kp_X7_meeting_18 {K : xm_K} (h : Nat) (x1 : Option Nat) (x2 : Int32) (x3 : Int32) (x4 : Int32) (S : xm_S) {g : Int32 → xm_S → Prop} (C : xm_Cx K cX7_meeting RX7 8 (some (FieldType.int)) rm_X7_meeting) (N : xm_Nx K) (hg : ∀ v S, g v S → xm_q K (some (xm_i v)) S)  (h1 : wp_X7_meeting_18 h x1 x2 x3 x4 S g) : xm_W K 0 0 18 [(0, xm_r (some h)), (1, xm_r x1), (2, xm_i x2), (3, xm_i x3), (4, xm_i x4)] [] S :=
  h1 (fun x1 x2 x3 x4 S => xm_W K 0 0 18 [(0, xm_r (some h)), (1, xm_r x1), (2, xm_i x2), (3, xm_i x3), (4, xm_i x4)] [] S) (fun x1 x2 x3 x4 S hb => kp_X7_meeting_18B h x1 x2 x3 x4 S C N hg (fun x1 x2 x3 x4 S hz => hz) hb)
def wp_X7_meeting (h : Nat) (x1 : Option Nat) (S : xm_S) (g : Int32 → xm_S → Prop) : Prop :=
  st_t S h = some (7, 0) ∧ ∃ n66, x1 = some n66 ∧ st_t S n66 = some (4, 0) ∧ ∃ n69, (st_r S h 0) = some n69 ∧ ∃ z72, st_t S n69 = some (115, z72) ∧ vp_in (st_i S n66 0) z72 ∧ ∃ n74, (st_r S n69 ((st_i S n66 0)).toNatClampNeg) = some n74 ∧ st_t S n74 = some (5, 0) ∧ wp_X7_meeting_18 h x1 (st_i S n74 0) (0 : Int32) (0 : Int32) S g
set_option maxRecDepth 100000 in
set_option maxHeartbeats 4000000 in
theorem kp_X7_meeting {K : xm_K} (h : Nat) (x1 : Option Nat) (S : xm_S) {g : Int32 → xm_S → Prop} (C : xm_Cx K cX7_meeting RX7 8 (some (FieldType.int)) rm_X7_meeting) (N : xm_Nx K) (hg : ∀ v S, g v S → xm_q K (some (xm_i v)) S)  (h1 : wp_X7_meeting h x1 S g) : xm_W K 0 0 0 [(0, xm_r (some h)), (1, xm_r x1)] [] S := by
  unfold wp_X7_meeting at h1
  refine x_aload_n C 0 dX7_meeting_0 rfl rfl ?_
  obtain ⟨ht65, h1⟩ := h1
  refine x_getf_r (n := h) C rfl ht65 fd_58 (by decide) dX7_meeting_1 ?_
  refine x_aload_n C 1 dX7_meeting_4 rfl rfl ?_
  obtain ⟨n66, hr67, h1⟩ := h1
  obtain ⟨ht68, h1⟩ := h1
  refine x_getf_i (n := n66) C hr67 ht68 fd_52 (by decide) dX7_meeting_5 ?_
  obtain ⟨n69, hr70, h1⟩ := h1
  obtain ⟨z72, ht71, h1⟩ := h1
  obtain ⟨hi73, h1⟩ := h1
  refine x_aald (n := n69) C hr70 (by decide) rfl ht71 hi73 dX7_meeting_8 ?_
  obtain ⟨n74, hr75, h1⟩ := h1
  obtain ⟨ht76, h1⟩ := h1
  refine x_getf_i (n := n74) C hr75 ht76 fd_81 (by decide) dX7_meeting_9 ?_
  refine x_istore_n (L' := [(2, xm_i (st_i S n74 0)), (0, xm_r (some h)), (1, xm_r x1)]) C dX7_meeting_12 rfl (by decide) rfl ?_
  refine x_iconst (v := (0 : Int32)) C dX7_meeting_13 (by decide) ?_
  refine x_istore_n (L' := [(3, xm_i (0 : Int32)), (2, xm_i (st_i S n74 0)), (0, xm_r (some h)), (1, xm_r x1)]) C dX7_meeting_14 rfl (by decide) rfl ?_
  refine x_iconst (v := (0 : Int32)) C dX7_meeting_15 (by decide) ?_
  refine x_istore (L' := [(4, xm_i (0 : Int32)), (3, xm_i (0 : Int32)), (2, xm_i (st_i S n74 0)), (0, xm_r (some h)), (1, xm_r x1)]) C dX7_meeting_16 (by decide) rfl ?_
  refine x_keep (L' := [(0, xm_r (some h)), (1, xm_r x1), (2, xm_i (st_i S n74 0)), (3, xm_i (0 : Int32)), (4, xm_i (0 : Int32))]) C [3, 4, 2, 1, 0] rfl ?_
  exact kp_X7_meeting_18 h x1 (st_i S n74 0) (0 : Int32) (0 : Int32) S C N hg  h1
theorem kp_X7_meeting_met {h : Nat} {x1 : Option Nat} {S : xm_S} {g : Int32 → xm_S → Prop}  (h1 : wp_X7_meeting h x1 S g) : xm_Met yX7_meeting cX7_meeting 8 (some (FieldType.int)) rm_X7_meeting [xm_r (some h), xm_r x1] S (xm_qi g) xm_nox :=
  xm_ofW RX7 (by decide +kernel) rfl (Nat.le_of_ble_eq_true rfl) (fun K C N hq hx hi => kp_X7_meeting h x1 S C N (fun v S h => by rw [hq]; exact ⟨v, rfl, h⟩)  h1)
def rm_X7_part : Room := { frames := 2, cells := 0, slots := 0, locals := 41 }
theorem dX7_part_0 : decode cX7_part 0 = .ok (.aload_n 0, 1) := by decide +kernel
theorem dX7_part_1 : decode cX7_part 1 = .ok (.getfield 26, 3) := by decide +kernel
theorem dX7_part_4 : decode cX7_part 4 = .ok (.iload_n 1, 1) := by decide +kernel
theorem dX7_part_5 : decode cX7_part 5 = .ok (.iconst 4, 1) := by decide +kernel
theorem dX7_part_6 : decode cX7_part 6 = .ok (.imul, 1) := by decide +kernel
theorem dX7_part_7 : decode cX7_part 7 = .ok (.iload_n 2, 1) := by decide +kernel
theorem dX7_part_8 : decode cX7_part 8 = .ok (.iadd, 1) := by decide +kernel
theorem dX7_part_9 : decode cX7_part 9 = .ok (.dup2, 1) := by decide +kernel
theorem dX7_part_10 : decode cX7_part 10 = .ok (.iaload, 1) := by decide +kernel
theorem dX7_part_11 : decode cX7_part 11 = .ok (.iload_n 3, 1) := by decide +kernel
theorem dX7_part_12 : decode cX7_part 12 = .ok (.ior, 1) := by decide +kernel
theorem dX7_part_13 : decode cX7_part 13 = .ok (.iastore, 1) := by decide +kernel
theorem dX7_part_14 : decode cX7_part 14 = .ok (.iconst 0, 1) := by decide +kernel
theorem dX7_part_15 : decode cX7_part 15 = .ok (.istore 4, 2) := by decide +kernel
theorem dX7_part_17 : decode cX7_part 17 = .ok (.iload 4, 2) := by decide +kernel
theorem dX7_part_19 : decode cX7_part 19 = .ok (.bipush 24, 2) := by decide +kernel
theorem dX7_part_21 : decode cX7_part 21 = .ok (.if_icmp .ge 33, 3) := by decide +kernel
theorem dX7_part_24 : decode cX7_part 24 = .ok (.iload_n 3, 1) := by decide +kernel
theorem dX7_part_25 : decode cX7_part 25 = .ok (.iload 4, 2) := by decide +kernel
theorem dX7_part_27 : decode cX7_part 27 = .ok (.ishr, 1) := by decide +kernel
theorem dX7_part_28 : decode cX7_part 28 = .ok (.iconst 1, 1) := by decide +kernel
theorem dX7_part_29 : decode cX7_part 29 = .ok (.iand, 1) := by decide +kernel
theorem dX7_part_30 : decode cX7_part 30 = .ok (.ifCond .eq 18, 3) := by decide +kernel
theorem dX7_part_33 : decode cX7_part 33 = .ok (.aload_n 0, 1) := by decide +kernel
theorem dX7_part_34 : decode cX7_part 34 = .ok (.getfield 26, 3) := by decide +kernel
theorem dX7_part_37 : decode cX7_part 37 = .ok (.iload 4, 2) := by decide +kernel
theorem dX7_part_39 : decode cX7_part 39 = .ok (.dup2, 1) := by decide +kernel
theorem dX7_part_40 : decode cX7_part 40 = .ok (.iaload, 1) := by decide +kernel
theorem dX7_part_41 : decode cX7_part 41 = .ok (.iload_n 1, 1) := by decide +kernel
theorem dX7_part_42 : decode cX7_part 42 = .ok (.iload_n 2, 1) := by decide +kernel
theorem dX7_part_43 : decode cX7_part 43 = .ok (.invokestatic 109, 3) := by decide +kernel
theorem dX7_part_46 : decode cX7_part 46 = .ok (.ior, 1) := by decide +kernel
theorem dX7_part_47 : decode cX7_part 47 = .ok (.iastore, 1) := by decide +kernel
theorem dX7_part_48 : decode cX7_part 48 = .ok (.iinc 4 1, 3) := by decide +kernel
theorem dX7_part_51 : decode cX7_part 51 = .ok (.goto (-34), 3) := by decide +kernel
theorem dX7_part_54 : decode cX7_part 54 = .ok (.return_, 1) := by decide +kernel
def wp_X7_part_48 (h : Nat) (x1 : Int32) (x2 : Int32) (x3 : Int32) (x4 : Int32) (S : xm_S) (g : xm_S → Prop) (Z17 : Int32 → Int32 → Int32 → Int32 → xm_S → Prop) : Prop :=
  ∀ y1, y1 = (x4 + (1 : Int32)) → Z17 x1 x2 x3 y1 S
set_option maxRecDepth 100000 in
set_option maxHeartbeats 4000000 in
theorem kp_X7_part_48 {K : xm_K} (h : Nat) (x1 : Int32) (x2 : Int32) (x3 : Int32) (x4 : Int32) (S : xm_S) {g : xm_S → Prop} {Z17 : Int32 → Int32 → Int32 → Int32 → xm_S → Prop} (C : xm_Cx K cX7_part RX7 5 none rm_X7_part) (N : xm_Nx K) (hg : ∀ S, g S → xm_q K none S) (hZ17 : ∀ x1 x2 x3 x4 S, Z17 x1 x2 x3 x4 S → xm_W K 0 0 17 [(0, xm_r (some h)), (1, xm_i x1), (2, xm_i x2), (3, xm_i x3), (4, xm_i x4)] [] S) (h1 : wp_X7_part_48 h x1 x2 x3 x4 S g Z17) : xm_W K 0 0 48 [(0, xm_r (some h)), (1, xm_i x1), (2, xm_i x2), (3, xm_i x3), (4, xm_i x4)] [] S := by
  unfold wp_X7_part_48 at h1
  obtain ⟨y1, e2⟩ : ∃ y1, y1 = (x4 + (1 : Int32)) := ⟨_, rfl⟩
  have h1 := h1 y1 e2
  refine x_iinc (v := y1) (L' := [(4, xm_i y1), (0, xm_r (some h)), (1, xm_i x1), (2, xm_i x2), (3, xm_i x3)]) C 4 dX7_part_48 rfl (by rw [e2]; rfl) (by decide) rfl ?_
  refine x_goto (tgt := 17) C dX7_part_51 (by decide) ?_
  refine x_keep (L' := [(0, xm_r (some h)), (1, xm_i x1), (2, xm_i x2), (3, xm_i x3), (4, xm_i y1)]) C [1, 2, 3, 4, 0] rfl ?_
  exact hZ17 x1 x2 x3 y1 S h1
def wp_X7_part_17B (h : Nat) (x1 : Int32) (x2 : Int32) (x3 : Int32) (x4 : Int32) (S : xm_S) (g : xm_S → Prop) (Z17 : Int32 → Int32 → Int32 → Int32 → xm_S → Prop) : Prop :=
  ((nI 24) ≤ x4 → g S) ∧ (¬ (nI 24) ≤ x4 → (((x3 >>> (x4 &&& 31)) &&& (1 : Int32)) = 0 → wp_X7_part_48 h x1 x2 x3 x4 S g Z17) ∧ (¬ ((x3 >>> (x4 &&& 31)) &&& (1 : Int32)) = 0 → st_t S h = some (7, 0) ∧ ∃ n4, (st_r S h 4) = some n4 ∧ ∃ z7, st_t S n4 = some (100, z7) ∧ vp_in x4 z7 ∧ wp_X7_bitOf x1 x2 S (fun r10 S9 => ∃ n11, (st_r S h 4) = some n11 ∧ ∃ z14, st_t S9 n11 = some (100, z14) ∧ vp_in x4 z14 ∧ ∀ S16, S16 = st_pi S9 n11 (x4).toNatClampNeg ((st_i S n4 (x4).toNatClampNeg) ||| r10) → wp_X7_part_48 h x1 x2 x3 x4 S16 g Z17)))
def wp_X7_part_17 (h : Nat) (x1 : Int32) (x2 : Int32) (x3 : Int32) (x4 : Int32) (S : xm_S) (g : xm_S → Prop) : Prop :=
  ∀ Z17 : Int32 → Int32 → Int32 → Int32 → xm_S → Prop, (∀ x1 x2 x3 x4 S, wp_X7_part_17B h x1 x2 x3 x4 S g Z17 → Z17 x1 x2 x3 x4 S) → Z17 x1 x2 x3 x4 S
set_option maxRecDepth 100000 in
set_option maxHeartbeats 4000000 in
theorem kp_X7_part_17B {K : xm_K} (h : Nat) (x1 : Int32) (x2 : Int32) (x3 : Int32) (x4 : Int32) (S : xm_S) {g : xm_S → Prop} {Z17 : Int32 → Int32 → Int32 → Int32 → xm_S → Prop} (C : xm_Cx K cX7_part RX7 5 none rm_X7_part) (N : xm_Nx K) (hg : ∀ S, g S → xm_q K none S) (hZ17 : ∀ x1 x2 x3 x4 S, Z17 x1 x2 x3 x4 S → xm_W K 0 0 17 [(0, xm_r (some h)), (1, xm_i x1), (2, xm_i x2), (3, xm_i x3), (4, xm_i x4)] [] S) (h1 : wp_X7_part_17B h x1 x2 x3 x4 S g Z17) : xm_W K 0 0 17 [(0, xm_r (some h)), (1, xm_i x1), (2, xm_i x2), (3, xm_i x3), (4, xm_i x4)] [] S := by
  unfold wp_X7_part_17B at h1
  refine x_iload C 4 dX7_part_17 rfl ?_
  refine x_bipush (v := (nI 24)) C dX7_part_19 (by decide) ?_
  refine x_icmp_ge (tgt := 54) C dX7_part_21 (by decide) (fun z9 => ?_) (fun z9 => ?_)
  · have h1 := h1.1 z9
    exact x_vret C (Nat.le_of_ble_eq_true rfl) (Nat.le_of_ble_eq_true rfl) rfl dX7_part_54 (hg _ h1)
  · have h1 := h1.2 z9
    refine x_iload_n C 3 dX7_part_24 rfl rfl ?_
    refine x_iload C 4 dX7_part_25 rfl ?_
    refine x_ishr C dX7_part_27 ?_
    refine x_iconst (v := (1 : Int32)) C dX7_part_28 (by decide) ?_
    refine x_iand C dX7_part_29 ?_
    refine x_if_eq (tgt := 48) C dX7_part_30 (by decide) (fun z9 => ?_) (fun z9 => ?_)
    · have h1 := h1.1 z9
      exact kp_X7_part_48 h x1 x2 x3 x4 S C N hg hZ17 h1
    · have h1 := h1.2 z9
      refine x_aload_n C 0 dX7_part_33 rfl rfl ?_
      obtain ⟨ht3, h1⟩ := h1
      refine x_getf_r (n := h) C rfl ht3 fd_72 (by decide) dX7_part_34 ?_
      refine x_iload C 4 dX7_part_37 rfl ?_
      refine x_dup2_ir C dX7_part_39 ?_
      obtain ⟨n4, hr5, h1⟩ := h1
      obtain ⟨z7, ht6, h1⟩ := h1
      obtain ⟨hi8, h1⟩ := h1
      refine x_iald (n := n4) C hr5 ht6 hi8 dX7_part_40 ?_
      refine x_iload_n C 1 dX7_part_41 rfl rfl ?_
      refine x_iload_n C 2 dX7_part_42 rfl rfl ?_
      refine x_callS (rm' := rm_X7_bitOf) C (kp_X7_bitOf_met h1) lk_20 gw_163 rfl (Nat.le_of_ble_eq_true rfl) ⟨Nat.le_of_ble_eq_true rfl, Nat.le_of_ble_eq_true rfl, (Nat.le_of_ble_eq_true rfl), (Nat.le_of_ble_eq_true rfl)⟩ dX7_part_43 xm_kx (xm_ki (fun r10 S9 h1 => ?_))
      refine x_ior C dX7_part_46 ?_
      obtain ⟨n11, hr12, h1⟩ := h1
      obtain ⟨z14, ht13, h1⟩ := h1
      obtain ⟨hi15, h1⟩ := h1
      refine x_iast (n := n11) C hr12 ht13 hi15 dX7_part_47 ?_
      refine x_topS (fun S16 e17 => ?_)
      have h1 := h1 S16 e17
      exact kp_X7_part_48 h x1 x2 x3 x4 S16 C N hg hZ17 h1
theorem kp_X7_part_17 {K : xm_K} (h : Nat) (x1 : Int32) (x2 : Int32) (x3 : Int32) (x4 : Int32) (S : xm_S) {g : xm_S → Prop} (C : xm_Cx K cX7_part RX7 5 none rm_X7_part) (N : xm_Nx K) (hg : ∀ S, g S → xm_q K none S)  (h1 : wp_X7_part_17 h x1 x2 x3 x4 S g) : xm_W K 0 0 17 [(0, xm_r (some h)), (1, xm_i x1), (2, xm_i x2), (3, xm_i x3), (4, xm_i x4)] [] S :=
  h1 (fun x1 x2 x3 x4 S => xm_W K 0 0 17 [(0, xm_r (some h)), (1, xm_i x1), (2, xm_i x2), (3, xm_i x3), (4, xm_i x4)] [] S) (fun x1 x2 x3 x4 S hb => kp_X7_part_17B h x1 x2 x3 x4 S C N hg (fun x1 x2 x3 x4 S hz => hz) hb)
def wp_X7_part (h : Nat) (x1 : Int32) (x2 : Int32) (x3 : Int32) (S : xm_S) (g : xm_S → Prop) : Prop :=
  st_t S h = some (7, 0) ∧ ∃ n19, (st_r S h 4) = some n19 ∧ ∃ z22, st_t S n19 = some (100, z22) ∧ vp_in ((x1 * (nI 4)) + x2) z22 ∧ ∃ n24, (st_r S h 4) = some n24 ∧ ∃ z27, st_t S n24 = some (100, z27) ∧ vp_in ((x1 * (nI 4)) + x2) z27 ∧ ∀ S29, S29 = st_pi S n24 (((x1 * (nI 4)) + x2)).toNatClampNeg ((st_i S n19 (((x1 * (nI 4)) + x2)).toNatClampNeg) ||| x3) → wp_X7_part_17 h x1 x2 x3 (0 : Int32) S29 g
set_option maxRecDepth 100000 in
set_option maxHeartbeats 4000000 in
theorem kp_X7_part {K : xm_K} (h : Nat) (x1 : Int32) (x2 : Int32) (x3 : Int32) (S : xm_S) {g : xm_S → Prop} (C : xm_Cx K cX7_part RX7 5 none rm_X7_part) (N : xm_Nx K) (hg : ∀ S, g S → xm_q K none S)  (h1 : wp_X7_part h x1 x2 x3 S g) : xm_W K 0 0 0 [(0, xm_r (some h)), (1, xm_i x1), (2, xm_i x2), (3, xm_i x3)] [] S := by
  unfold wp_X7_part at h1
  refine x_aload_n C 0 dX7_part_0 rfl rfl ?_
  obtain ⟨ht18, h1⟩ := h1
  refine x_getf_r (n := h) C rfl ht18 fd_72 (by decide) dX7_part_1 ?_
  refine x_iload_n C 1 dX7_part_4 rfl rfl ?_
  refine x_iconst (v := (nI 4)) C dX7_part_5 (by decide) ?_
  refine x_imul C dX7_part_6 ?_
  refine x_iload_n C 2 dX7_part_7 rfl rfl ?_
  refine x_iadd C dX7_part_8 ?_
  refine x_dup2_ir C dX7_part_9 ?_
  obtain ⟨n19, hr20, h1⟩ := h1
  obtain ⟨z22, ht21, h1⟩ := h1
  obtain ⟨hi23, h1⟩ := h1
  refine x_iald (n := n19) C hr20 ht21 hi23 dX7_part_10 ?_
  refine x_iload_n C 3 dX7_part_11 rfl rfl ?_
  refine x_ior C dX7_part_12 ?_
  obtain ⟨n24, hr25, h1⟩ := h1
  obtain ⟨z27, ht26, h1⟩ := h1
  obtain ⟨hi28, h1⟩ := h1
  refine x_iast (n := n24) C hr25 ht26 hi28 dX7_part_13 ?_
  refine x_topS (fun S29 e30 => ?_)
  have h1 := h1 S29 e30
  refine x_iconst (v := (0 : Int32)) C dX7_part_14 (by decide) ?_
  refine x_istore (L' := [(4, xm_i (0 : Int32)), (0, xm_r (some h)), (1, xm_i x1), (2, xm_i x2), (3, xm_i x3)]) C dX7_part_15 (by decide) rfl ?_
  refine x_keep (L' := [(0, xm_r (some h)), (1, xm_i x1), (2, xm_i x2), (3, xm_i x3), (4, xm_i (0 : Int32))]) C [1, 2, 3, 4, 0] rfl ?_
  exact kp_X7_part_17 h x1 x2 x3 (0 : Int32) S29 C N hg  h1
theorem kp_X7_part_met {h : Nat} {x1 : Int32} {x2 : Int32} {x3 : Int32} {S : xm_S} {g : xm_S → Prop}  (h1 : wp_X7_part h x1 x2 x3 S g) : xm_Met yX7_part cX7_part 5 none rm_X7_part [xm_r (some h), xm_i x1, xm_i x2, xm_i x3] S (xm_qv g) xm_nox :=
  xm_ofW RX7 (by decide +kernel) rfl (Nat.le_of_ble_eq_true rfl) (fun K C N hq hx hi => kp_X7_part h x1 x2 x3 S C N (fun S h => by rw [hq]; exact ⟨rfl, h⟩)  h1)
def rm_X7_permit : Room := { frames := 2, cells := 0, slots := 0, locals := 41 }
theorem dX7_permit_0 : decode cX7_permit 0 = .ok (.aload_n 0, 1) := by decide +kernel
theorem dX7_permit_1 : decode cX7_permit 1 = .ok (.iconst 0, 1) := by decide +kernel
theorem dX7_permit_2 : decode cX7_permit 2 = .ok (.putfield 33, 3) := by decide +kernel
theorem dX7_permit_5 : decode cX7_permit 5 = .ok (.iconst 0, 1) := by decide +kernel
theorem dX7_permit_6 : decode cX7_permit 6 = .ok (.istore 4, 2) := by decide +kernel
theorem dX7_permit_8 : decode cX7_permit 8 = .ok (.iload 4, 2) := by decide +kernel
theorem dX7_permit_10 : decode cX7_permit 10 = .ok (.bipush 6, 2) := by decide +kernel
theorem dX7_permit_12 : decode cX7_permit 12 = .ok (.if_icmp .ge 132, 3) := by decide +kernel
theorem dX7_permit_15 : decode cX7_permit 15 = .ok (.aload_n 0, 1) := by decide +kernel
theorem dX7_permit_16 : decode cX7_permit 16 = .ok (.getfield 30, 3) := by decide +kernel
theorem dX7_permit_19 : decode cX7_permit 19 = .ok (.iload 4, 2) := by decide +kernel
theorem dX7_permit_21 : decode cX7_permit 21 = .ok (.iload_n 3, 1) := by decide +kernel
theorem dX7_permit_22 : decode cX7_permit 22 = .ok (.iload 4, 2) := by decide +kernel
theorem dX7_permit_24 : decode cX7_permit 24 = .ok (.ishr, 1) := by decide +kernel
theorem dX7_permit_25 : decode cX7_permit 25 = .ok (.iconst 1, 1) := by decide +kernel
theorem dX7_permit_26 : decode cX7_permit 26 = .ok (.iand, 1) := by decide +kernel
theorem dX7_permit_27 : decode cX7_permit 27 = .ok (.ifCond .eq 7, 3) := by decide +kernel
theorem dX7_permit_30 : decode cX7_permit 30 = .ok (.iconst (-1), 1) := by decide +kernel
theorem dX7_permit_31 : decode cX7_permit 31 = .ok (.goto 7, 3) := by decide +kernel
theorem dX7_permit_34 : decode cX7_permit 34 = .ok (.aload_n 2, 1) := by decide +kernel
theorem dX7_permit_35 : decode cX7_permit 35 = .ok (.iload 4, 2) := by decide +kernel
theorem dX7_permit_37 : decode cX7_permit 37 = .ok (.iaload, 1) := by decide +kernel
theorem dX7_permit_38 : decode cX7_permit 38 = .ok (.iastore, 1) := by decide +kernel
theorem dX7_permit_39 : decode cX7_permit 39 = .ok (.iconst 0, 1) := by decide +kernel
theorem dX7_permit_40 : decode cX7_permit 40 = .ok (.istore 5, 2) := by decide +kernel
theorem dX7_permit_42 : decode cX7_permit 42 = .ok (.iload 5, 2) := by decide +kernel
theorem dX7_permit_44 : decode cX7_permit 44 = .ok (.aload_n 0, 1) := by decide +kernel
theorem dX7_permit_45 : decode cX7_permit 45 = .ok (.getfield 9, 3) := by decide +kernel
theorem dX7_permit_48 : decode cX7_permit 48 = .ok (.iload 4, 2) := by decide +kernel
theorem dX7_permit_50 : decode cX7_permit 50 = .ok (.aaload, 1) := by decide +kernel
theorem dX7_permit_51 : decode cX7_permit 51 = .ok (.getfield 78, 3) := by decide +kernel
theorem dX7_permit_54 : decode cX7_permit 54 = .ok (.if_icmp .ge 84, 3) := by decide +kernel
theorem dX7_permit_57 : decode cX7_permit 57 = .ok (.aload_n 0, 1) := by decide +kernel
theorem dX7_permit_58 : decode cX7_permit 58 = .ok (.getfield 9, 3) := by decide +kernel
theorem dX7_permit_61 : decode cX7_permit 61 = .ok (.iload 4, 2) := by decide +kernel
theorem dX7_permit_63 : decode cX7_permit 63 = .ok (.aaload, 1) := by decide +kernel
theorem dX7_permit_64 : decode cX7_permit 64 = .ok (.getfield 83, 3) := by decide +kernel
theorem dX7_permit_67 : decode cX7_permit 67 = .ok (.iload 5, 2) := by decide +kernel
theorem dX7_permit_69 : decode cX7_permit 69 = .ok (.aaload, 1) := by decide +kernel
theorem dX7_permit_70 : decode cX7_permit 70 = .ok (.astore 6, 2) := by decide +kernel
theorem dX7_permit_72 : decode cX7_permit 72 = .ok (.iload_n 1, 1) := by decide +kernel
theorem dX7_permit_73 : decode cX7_permit 73 = .ok (.aload 6, 2) := by decide +kernel
theorem dX7_permit_75 : decode cX7_permit 75 = .ok (.getfield 140, 3) := by decide +kernel
theorem dX7_permit_78 : decode cX7_permit 78 = .ok (.ishr, 1) := by decide +kernel
theorem dX7_permit_79 : decode cX7_permit 79 = .ok (.iconst 1, 1) := by decide +kernel
theorem dX7_permit_80 : decode cX7_permit 80 = .ok (.iand, 1) := by decide +kernel
theorem dX7_permit_81 : decode cX7_permit 81 = .ok (.ifCond .eq 7, 3) := by decide +kernel
theorem dX7_permit_84 : decode cX7_permit 84 = .ok (.iconst 1, 1) := by decide +kernel
theorem dX7_permit_85 : decode cX7_permit 85 = .ok (.goto 4, 3) := by decide +kernel
theorem dX7_permit_88 : decode cX7_permit 88 = .ok (.iconst 0, 1) := by decide +kernel
theorem dX7_permit_89 : decode cX7_permit 89 = .ok (.istore 7, 2) := by decide +kernel
theorem dX7_permit_91 : decode cX7_permit 91 = .ok (.iload 7, 2) := by decide +kernel
theorem dX7_permit_93 : decode cX7_permit 93 = .ok (.ifCond .eq 39, 3) := by decide +kernel
theorem dX7_permit_96 : decode cX7_permit 96 = .ok (.aload 6, 2) := by decide +kernel
theorem dX7_permit_98 : decode cX7_permit 98 = .ok (.getfield 143, 3) := by decide +kernel
theorem dX7_permit_101 : decode cX7_permit 101 = .ok (.ifCond .eq 15, 3) := by decide +kernel
theorem dX7_permit_104 : decode cX7_permit 104 = .ok (.aload_n 0, 1) := by decide +kernel
theorem dX7_permit_105 : decode cX7_permit 105 = .ok (.getfield 30, 3) := by decide +kernel
theorem dX7_permit_108 : decode cX7_permit 108 = .ok (.iload 4, 2) := by decide +kernel
theorem dX7_permit_110 : decode cX7_permit 110 = .ok (.iaload, 1) := by decide +kernel
theorem dX7_permit_111 : decode cX7_permit 111 = .ok (.iload 5, 2) := by decide +kernel
theorem dX7_permit_113 : decode cX7_permit 113 = .ok (.if_icmp .ne 19, 3) := by decide +kernel
theorem dX7_permit_116 : decode cX7_permit 116 = .ok (.aload_n 0, 1) := by decide +kernel
theorem dX7_permit_117 : decode cX7_permit 117 = .ok (.dup, 1) := by decide +kernel
theorem dX7_permit_118 : decode cX7_permit 118 = .ok (.getfield 33, 3) := by decide +kernel
theorem dX7_permit_121 : decode cX7_permit 121 = .ok (.iload 4, 2) := by decide +kernel
theorem dX7_permit_123 : decode cX7_permit 123 = .ok (.iload 5, 2) := by decide +kernel
theorem dX7_permit_125 : decode cX7_permit 125 = .ok (.invokestatic 109, 3) := by decide +kernel
theorem dX7_permit_128 : decode cX7_permit 128 = .ok (.ior, 1) := by decide +kernel
theorem dX7_permit_129 : decode cX7_permit 129 = .ok (.putfield 33, 3) := by decide +kernel
theorem dX7_permit_132 : decode cX7_permit 132 = .ok (.iinc 5 1, 3) := by decide +kernel
theorem dX7_permit_135 : decode cX7_permit 135 = .ok (.goto (-93), 3) := by decide +kernel
theorem dX7_permit_138 : decode cX7_permit 138 = .ok (.iinc 4 1, 3) := by decide +kernel
theorem dX7_permit_141 : decode cX7_permit 141 = .ok (.goto (-133), 3) := by decide +kernel
theorem dX7_permit_144 : decode cX7_permit 144 = .ok (.return_, 1) := by decide +kernel
def wp_X7_permit_132 (h : Nat) (x1 : Int32) (x2 : Option Nat) (x3 : Int32) (x4 : Int32) (x5 : Int32) (S : xm_S) (g : xm_S → Prop) (Z8 : Int32 → Option Nat → Int32 → Int32 → xm_S → Prop) (Z42 : Int32 → Option Nat → Int32 → Int32 → Int32 → xm_S → Prop) : Prop :=
  ∀ y1, y1 = (x5 + (1 : Int32)) → Z42 x1 x2 x3 x4 y1 S
set_option maxRecDepth 100000 in
set_option maxHeartbeats 4000000 in
theorem kp_X7_permit_132 {K : xm_K} (h : Nat) (x1 : Int32) (x2 : Option Nat) (x3 : Int32) (x4 : Int32) (x5 : Int32) (S : xm_S) {g : xm_S → Prop} {Z8 : Int32 → Option Nat → Int32 → Int32 → xm_S → Prop} {Z42 : Int32 → Option Nat → Int32 → Int32 → Int32 → xm_S → Prop} (C : xm_Cx K cX7_permit RX7 8 none rm_X7_permit) (N : xm_Nx K) (hg : ∀ S, g S → xm_q K none S) (hZ8 : ∀ x1 x2 x3 x4 S, Z8 x1 x2 x3 x4 S → xm_W K 0 0 8 [(0, xm_r (some h)), (1, xm_i x1), (2, xm_r x2), (3, xm_i x3), (4, xm_i x4)] [] S) (hZ42 : ∀ x1 x2 x3 x4 x5 S, Z42 x1 x2 x3 x4 x5 S → xm_W K 0 0 42 [(0, xm_r (some h)), (1, xm_i x1), (2, xm_r x2), (3, xm_i x3), (4, xm_i x4), (5, xm_i x5)] [] S) (h1 : wp_X7_permit_132 h x1 x2 x3 x4 x5 S g Z8 Z42) : xm_W K 0 0 132 [(0, xm_r (some h)), (1, xm_i x1), (2, xm_r x2), (3, xm_i x3), (4, xm_i x4), (5, xm_i x5)] [] S := by
  unfold wp_X7_permit_132 at h1
  obtain ⟨y1, e2⟩ : ∃ y1, y1 = (x5 + (1 : Int32)) := ⟨_, rfl⟩
  have h1 := h1 y1 e2
  refine x_iinc (v := y1) (L' := [(5, xm_i y1), (0, xm_r (some h)), (1, xm_i x1), (2, xm_r x2), (3, xm_i x3), (4, xm_i x4)]) C 5 dX7_permit_132 rfl (by rw [e2]; rfl) (by decide) rfl ?_
  refine x_goto (tgt := 42) C dX7_permit_135 (by decide) ?_
  refine x_keep (L' := [(0, xm_r (some h)), (1, xm_i x1), (2, xm_r x2), (3, xm_i x3), (4, xm_i x4), (5, xm_i y1)]) C [1, 2, 3, 4, 5, 0] rfl ?_
  exact hZ42 x1 x2 x3 x4 y1 S h1
def wp_X7_permit_116 (h : Nat) (x1 : Int32) (x2 : Option Nat) (x3 : Int32) (x4 : Int32) (x5 : Int32) (S : xm_S) (g : xm_S → Prop) (Z8 : Int32 → Option Nat → Int32 → Int32 → xm_S → Prop) (Z42 : Int32 → Option Nat → Int32 → Int32 → Int32 → xm_S → Prop) : Prop :=
  st_t S h = some (7, 0) ∧ wp_X7_bitOf x4 x5 S (fun r5 S4 => st_t S4 h = some (7, 0) ∧ ∀ S7, S7 = st_pi S4 h 6 ((st_i S h 6) ||| r5) → wp_X7_permit_132 h x1 x2 x3 x4 x5 S7 g Z8 Z42)
set_option maxRecDepth 100000 in
set_option maxHeartbeats 4000000 in
theorem kp_X7_permit_116 {K : xm_K} (h : Nat) (x1 : Int32) (x2 : Option Nat) (x3 : Int32) (x4 : Int32) (x5 : Int32) (S : xm_S) {g : xm_S → Prop} {Z8 : Int32 → Option Nat → Int32 → Int32 → xm_S → Prop} {Z42 : Int32 → Option Nat → Int32 → Int32 → Int32 → xm_S → Prop} (C : xm_Cx K cX7_permit RX7 8 none rm_X7_permit) (N : xm_Nx K) (hg : ∀ S, g S → xm_q K none S) (hZ8 : ∀ x1 x2 x3 x4 S, Z8 x1 x2 x3 x4 S → xm_W K 0 0 8 [(0, xm_r (some h)), (1, xm_i x1), (2, xm_r x2), (3, xm_i x3), (4, xm_i x4)] [] S) (hZ42 : ∀ x1 x2 x3 x4 x5 S, Z42 x1 x2 x3 x4 x5 S → xm_W K 0 0 42 [(0, xm_r (some h)), (1, xm_i x1), (2, xm_r x2), (3, xm_i x3), (4, xm_i x4), (5, xm_i x5)] [] S) (h1 : wp_X7_permit_116 h x1 x2 x3 x4 x5 S g Z8 Z42) : xm_W K 0 0 116 [(0, xm_r (some h)), (1, xm_i x1), (2, xm_r x2), (3, xm_i x3), (4, xm_i x4), (5, xm_i x5)] [] S := by
  unfold wp_X7_permit_116 at h1
  refine x_aload_n C 0 dX7_permit_116 rfl rfl ?_
  refine x_dup_r C dX7_permit_117 ?_
  obtain ⟨ht3, h1⟩ := h1
  refine x_getf_i (n := h) C rfl ht3 fd_74 (by decide) dX7_permit_118 ?_
  refine x_iload C 4 dX7_permit_121 rfl ?_
  refine x_iload C 5 dX7_permit_123 rfl ?_
  refine x_callS (rm' := rm_X7_bitOf) C (kp_X7_bitOf_met h1) lk_20 gw_163 rfl (Nat.le_of_ble_eq_true rfl) ⟨Nat.le_of_ble_eq_true rfl, Nat.le_of_ble_eq_true rfl, (Nat.le_of_ble_eq_true rfl), (Nat.le_of_ble_eq_true rfl)⟩ dX7_permit_125 xm_kx (xm_ki (fun r5 S4 h1 => ?_))
  refine x_ior C dX7_permit_128 ?_
  obtain ⟨ht6, h1⟩ := h1
  refine x_putf_i (n := h) C rfl ht6 fd_74 xc_7 (by decide) rfl ⟨rfl, rfl⟩ dX7_permit_129 ?_
  refine x_topS (fun S7 e8 => ?_)
  have h1 := h1 S7 e8
  exact kp_X7_permit_132 h x1 x2 x3 x4 x5 S7 C N hg hZ8 hZ42 h1
def wp_X7_permit_89 (h : Nat) (x1 : Int32) (x2 : Option Nat) (x3 : Int32) (x4 : Int32) (x5 : Int32) (x6 : Option Nat) (s0 : Int32) (S : xm_S) (g : xm_S → Prop) (Z8 : Int32 → Option Nat → Int32 → Int32 → xm_S → Prop) (Z42 : Int32 → Option Nat → Int32 → Int32 → Int32 → xm_S → Prop) : Prop :=
  (s0 = 0 → wp_X7_permit_132 h x1 x2 x3 x4 x5 S g Z8 Z42) ∧ (¬ s0 = 0 → ∃ n9, x6 = some n9 ∧ st_t S n9 = some (10, 0) ∧ ((st_i S n9 4) = 0 → wp_X7_permit_116 h x1 x2 x3 x4 x5 S g Z8 Z42) ∧ (¬ (st_i S n9 4) = 0 → st_t S h = some (7, 0) ∧ ∃ n13, (st_r S h 5) = some n13 ∧ ∃ z16, st_t S n13 = some (100, z16) ∧ vp_in x4 z16 ∧ (¬ (st_i S n13 (x4).toNatClampNeg) = x5 → wp_X7_permit_132 h x1 x2 x3 x4 x5 S g Z8 Z42) ∧ ((st_i S n13 (x4).toNatClampNeg) = x5 → wp_X7_permit_116 h x1 x2 x3 x4 x5 S g Z8 Z42)))
set_option maxRecDepth 100000 in
set_option maxHeartbeats 4000000 in
theorem kp_X7_permit_89 {K : xm_K} (h : Nat) (x1 : Int32) (x2 : Option Nat) (x3 : Int32) (x4 : Int32) (x5 : Int32) (x6 : Option Nat) (s0 : Int32) (S : xm_S) {g : xm_S → Prop} {Z8 : Int32 → Option Nat → Int32 → Int32 → xm_S → Prop} {Z42 : Int32 → Option Nat → Int32 → Int32 → Int32 → xm_S → Prop} (C : xm_Cx K cX7_permit RX7 8 none rm_X7_permit) (N : xm_Nx K) (hg : ∀ S, g S → xm_q K none S) (hZ8 : ∀ x1 x2 x3 x4 S, Z8 x1 x2 x3 x4 S → xm_W K 0 0 8 [(0, xm_r (some h)), (1, xm_i x1), (2, xm_r x2), (3, xm_i x3), (4, xm_i x4)] [] S) (hZ42 : ∀ x1 x2 x3 x4 x5 S, Z42 x1 x2 x3 x4 x5 S → xm_W K 0 0 42 [(0, xm_r (some h)), (1, xm_i x1), (2, xm_r x2), (3, xm_i x3), (4, xm_i x4), (5, xm_i x5)] [] S) (h1 : wp_X7_permit_89 h x1 x2 x3 x4 x5 x6 s0 S g Z8 Z42) : xm_W K 0 0 89 [(0, xm_r (some h)), (1, xm_i x1), (2, xm_r x2), (3, xm_i x3), (4, xm_i x4), (5, xm_i x5), (6, xm_r x6)] [xm_i s0] S := by
  unfold wp_X7_permit_89 at h1
  refine x_istore (L' := [(7, xm_i s0), (0, xm_r (some h)), (1, xm_i x1), (2, xm_r x2), (3, xm_i x3), (4, xm_i x4), (5, xm_i x5), (6, xm_r x6)]) C dX7_permit_89 (by decide) rfl ?_
  refine x_iload C 0 dX7_permit_91 rfl ?_
  refine x_if_eq (tgt := 132) C dX7_permit_93 (by decide) (fun z9 => ?_) (fun z9 => ?_)
  · have h1 := h1.1 z9
    refine x_keep (L' := [(0, xm_r (some h)), (1, xm_i x1), (2, xm_r x2), (3, xm_i x3), (4, xm_i x4), (5, xm_i x5)]) C [1, 2, 3, 4, 5, 6] rfl ?_
    exact kp_X7_permit_132 h x1 x2 x3 x4 x5 S C N hg hZ8 hZ42 h1
  · have h1 := h1.2 z9
    refine x_aload C 7 dX7_permit_96 rfl ?_
    obtain ⟨n9, hr10, h1⟩ := h1
    obtain ⟨ht11, h1⟩ := h1
    refine x_getf_i (n := n9) C hr10 ht11 fd_82 (by decide) dX7_permit_98 ?_
    refine x_if_eq (tgt := 116) C dX7_permit_101 (by decide) (fun z9 => ?_) (fun z9 => ?_)
    · have h1 := h1.1 z9
      refine x_keep (L' := [(0, xm_r (some h)), (1, xm_i x1), (2, xm_r x2), (3, xm_i x3), (4, xm_i x4), (5, xm_i x5)]) C [1, 2, 3, 4, 5, 6] rfl ?_
      exact kp_X7_permit_116 h x1 x2 x3 x4 x5 S C N hg hZ8 hZ42 h1
    · have h1 := h1.2 z9
      refine x_aload_n C 1 dX7_permit_104 rfl rfl ?_
      obtain ⟨ht12, h1⟩ := h1
      refine x_getf_r (n := h) C rfl ht12 fd_71 (by decide) dX7_permit_105 ?_
      refine x_iload C 5 dX7_permit_108 rfl ?_
      obtain ⟨n13, hr14, h1⟩ := h1
      obtain ⟨z16, ht15, h1⟩ := h1
      obtain ⟨hi17, h1⟩ := h1
      refine x_iald (n := n13) C hr14 ht15 hi17 dX7_permit_110 ?_
      refine x_iload C 6 dX7_permit_111 rfl ?_
      refine x_icmp_ne (tgt := 132) C dX7_permit_113 (by decide) (fun z9 => ?_) (fun z9 => ?_)
      · have h1 := h1.1 z9
        refine x_keep (L' := [(0, xm_r (some h)), (1, xm_i x1), (2, xm_r x2), (3, xm_i x3), (4, xm_i x4), (5, xm_i x5)]) C [1, 2, 3, 4, 5, 6] rfl ?_
        exact kp_X7_permit_132 h x1 x2 x3 x4 x5 S C N hg hZ8 hZ42 h1
      · have h1 := h1.2 z9
        refine x_keep (L' := [(0, xm_r (some h)), (1, xm_i x1), (2, xm_r x2), (3, xm_i x3), (4, xm_i x4), (5, xm_i x5)]) C [1, 2, 3, 4, 5, 6] rfl ?_
        exact kp_X7_permit_116 h x1 x2 x3 x4 x5 S C N hg hZ8 hZ42 h1
def wp_X7_permit_42B (h : Nat) (x1 : Int32) (x2 : Option Nat) (x3 : Int32) (x4 : Int32) (x5 : Int32) (S : xm_S) (g : xm_S → Prop) (Z8 : Int32 → Option Nat → Int32 → Int32 → xm_S → Prop) (Z42 : Int32 → Option Nat → Int32 → Int32 → Int32 → xm_S → Prop) : Prop :=
  st_t S h = some (7, 0) ∧ ∃ n19, (st_r S h 0) = some n19 ∧ ∃ z22, st_t S n19 = some (115, z22) ∧ vp_in x4 z22 ∧ ∃ n24, (st_r S n19 (x4).toNatClampNeg) = some n24 ∧ st_t S n24 = some (5, 0) ∧ ((st_i S n24 2) ≤ x5 → ∀ y27, y27 = (x4 + (1 : Int32)) → Z8 x1 x2 x3 y27 S) ∧ (¬ (st_i S n24 2) ≤ x5 → ∃ n29, (st_r S h 0) = some n29 ∧ ∃ z32, st_t S n29 = some (115, z32) ∧ vp_in x4 z32 ∧ ∃ n34, (st_r S n29 (x4).toNatClampNeg) = some n34 ∧ st_t S n34 = some (5, 0) ∧ ∃ n37, (st_r S n34 1) = some n37 ∧ ∃ z40, st_t S n37 = some (120, z40) ∧ vp_in x5 z40 ∧ ∃ n42, (st_r S n37 (x5).toNatClampNeg) = some n42 ∧ st_t S n42 = some (10, 0) ∧ (((x1 >>> ((st_i S n42 2) &&& 31)) &&& (1 : Int32)) = 0 → wp_X7_permit_89 h x1 x2 x3 x4 x5 (st_r S n37 (x5).toNatClampNeg) (0 : Int32) S g Z8 Z42) ∧ (¬ ((x1 >>> ((st_i S n42 2) &&& 31)) &&& (1 : Int32)) = 0 → wp_X7_permit_89 h x1 x2 x3 x4 x5 (st_r S n37 (x5).toNatClampNeg) (1 : Int32) S g Z8 Z42))
def wp_X7_permit_42 (h : Nat) (x1 : Int32) (x2 : Option Nat) (x3 : Int32) (x4 : Int32) (x5 : Int32) (S : xm_S) (g : xm_S → Prop) (Z8 : Int32 → Option Nat → Int32 → Int32 → xm_S → Prop) : Prop :=
  ∀ Z42 : Int32 → Option Nat → Int32 → Int32 → Int32 → xm_S → Prop, (∀ x1 x2 x3 x4 x5 S, wp_X7_permit_42B h x1 x2 x3 x4 x5 S g Z8 Z42 → Z42 x1 x2 x3 x4 x5 S) → Z42 x1 x2 x3 x4 x5 S
set_option maxRecDepth 100000 in
set_option maxHeartbeats 4000000 in
theorem kp_X7_permit_42B {K : xm_K} (h : Nat) (x1 : Int32) (x2 : Option Nat) (x3 : Int32) (x4 : Int32) (x5 : Int32) (S : xm_S) {g : xm_S → Prop} {Z8 : Int32 → Option Nat → Int32 → Int32 → xm_S → Prop} {Z42 : Int32 → Option Nat → Int32 → Int32 → Int32 → xm_S → Prop} (C : xm_Cx K cX7_permit RX7 8 none rm_X7_permit) (N : xm_Nx K) (hg : ∀ S, g S → xm_q K none S) (hZ8 : ∀ x1 x2 x3 x4 S, Z8 x1 x2 x3 x4 S → xm_W K 0 0 8 [(0, xm_r (some h)), (1, xm_i x1), (2, xm_r x2), (3, xm_i x3), (4, xm_i x4)] [] S) (hZ42 : ∀ x1 x2 x3 x4 x5 S, Z42 x1 x2 x3 x4 x5 S → xm_W K 0 0 42 [(0, xm_r (some h)), (1, xm_i x1), (2, xm_r x2), (3, xm_i x3), (4, xm_i x4), (5, xm_i x5)] [] S) (h1 : wp_X7_permit_42B h x1 x2 x3 x4 x5 S g Z8 Z42) : xm_W K 0 0 42 [(0, xm_r (some h)), (1, xm_i x1), (2, xm_r x2), (3, xm_i x3), (4, xm_i x4), (5, xm_i x5)] [] S := by
  unfold wp_X7_permit_42B at h1
  refine x_iload C 5 dX7_permit_42 rfl ?_
  refine x_aload_n C 0 dX7_permit_44 rfl rfl ?_
  obtain ⟨ht18, h1⟩ := h1
  refine x_getf_r (n := h) C rfl ht18 fd_58 (by decide) dX7_permit_45 ?_
  refine x_iload C 4 dX7_permit_48 rfl ?_
  obtain ⟨n19, hr20, h1⟩ := h1
  obtain ⟨z22, ht21, h1⟩ := h1
  obtain ⟨hi23, h1⟩ := h1
  refine x_aald (n := n19) C hr20 (by decide) rfl ht21 hi23 dX7_permit_50 ?_
  obtain ⟨n24, hr25, h1⟩ := h1
  obtain ⟨ht26, h1⟩ := h1
  refine x_getf_i (n := n24) C hr25 ht26 fd_64 (by decide) dX7_permit_51 ?_
  refine x_icmp_ge (tgt := 138) C dX7_permit_54 (by decide) (fun z9 => ?_) (fun z9 => ?_)
  · have h1 := h1.1 z9
    obtain ⟨y27, e28⟩ : ∃ y27, y27 = (x4 + (1 : Int32)) := ⟨_, rfl⟩
    have h1 := h1 y27 e28
    refine x_iinc (v := y27) (L' := [(4, xm_i y27), (0, xm_r (some h)), (1, xm_i x1), (2, xm_r x2), (3, xm_i x3), (5, xm_i x5)]) C 4 dX7_permit_138 rfl (by rw [e28]; rfl) (by decide) rfl ?_
    refine x_goto (tgt := 8) C dX7_permit_141 (by decide) ?_
    refine x_keep (L' := [(0, xm_r (some h)), (1, xm_i x1), (2, xm_r x2), (3, xm_i x3), (4, xm_i y27)]) C [1, 2, 3, 4, 0] rfl ?_
    exact hZ8 x1 x2 x3 y27 S h1
  · have h1 := h1.2 z9
    refine x_aload_n C 0 dX7_permit_57 rfl rfl ?_
    refine x_getf_r (n := h) C rfl ht18 fd_58 (by decide) dX7_permit_58 ?_
    refine x_iload C 4 dX7_permit_61 rfl ?_
    obtain ⟨n29, hr30, h1⟩ := h1
    obtain ⟨z32, ht31, h1⟩ := h1
    obtain ⟨hi33, h1⟩ := h1
    refine x_aald (n := n29) C hr30 (by decide) rfl ht31 hi33 dX7_permit_63 ?_
    obtain ⟨n34, hr35, h1⟩ := h1
    obtain ⟨ht36, h1⟩ := h1
    refine x_getf_r (n := n34) C hr35 ht36 fd_59 (by decide) dX7_permit_64 ?_
    refine x_iload C 5 dX7_permit_67 rfl ?_
    obtain ⟨n37, hr38, h1⟩ := h1
    obtain ⟨z40, ht39, h1⟩ := h1
    obtain ⟨hi41, h1⟩ := h1
    refine x_aald (n := n37) C hr38 (by decide) rfl ht39 hi41 dX7_permit_69 ?_
    refine x_astore (L' := [(6, xm_r (st_r S n37 (x5).toNatClampNeg)), (0, xm_r (some h)), (1, xm_i x1), (2, xm_r x2), (3, xm_i x3), (4, xm_i x4), (5, xm_i x5)]) C dX7_permit_70 (by decide) rfl ?_
    refine x_iload_n C 2 dX7_permit_72 rfl rfl ?_
    refine x_aload C 0 dX7_permit_73 rfl ?_
    obtain ⟨n42, hr43, h1⟩ := h1
    obtain ⟨ht44, h1⟩ := h1
    refine x_getf_i (n := n42) C hr43 ht44 fd_83 (by decide) dX7_permit_75 ?_
    refine x_ishr C dX7_permit_78 ?_
    refine x_iconst (v := (1 : Int32)) C dX7_permit_79 (by decide) ?_
    refine x_iand C dX7_permit_80 ?_
    refine x_if_eq (tgt := 88) C dX7_permit_81 (by decide) (fun z9 => ?_) (fun z9 => ?_)
    · have h1 := h1.1 z9
      refine x_iconst (v := (0 : Int32)) C dX7_permit_88 (by decide) ?_
      refine x_keep (L' := [(0, xm_r (some h)), (1, xm_i x1), (2, xm_r x2), (3, xm_i x3), (4, xm_i x4), (5, xm_i x5), (6, xm_r (st_r S n37 (x5).toNatClampNeg))]) C [1, 2, 3, 4, 5, 6, 0] rfl ?_
      exact kp_X7_permit_89 h x1 x2 x3 x4 x5 (st_r S n37 (x5).toNatClampNeg) (0 : Int32) S C N hg hZ8 hZ42 h1
    · have h1 := h1.2 z9
      refine x_iconst (v := (1 : Int32)) C dX7_permit_84 (by decide) ?_
      refine x_goto (tgt := 89) C dX7_permit_85 (by decide) ?_
      refine x_keep (L' := [(0, xm_r (some h)), (1, xm_i x1), (2, xm_r x2), (3, xm_i x3), (4, xm_i x4), (5, xm_i x5), (6, xm_r (st_r S n37 (x5).toNatClampNeg))]) C [1, 2, 3, 4, 5, 6, 0] rfl ?_
      exact kp_X7_permit_89 h x1 x2 x3 x4 x5 (st_r S n37 (x5).toNatClampNeg) (1 : Int32) S C N hg hZ8 hZ42 h1
theorem kp_X7_permit_42 {K : xm_K} (h : Nat) (x1 : Int32) (x2 : Option Nat) (x3 : Int32) (x4 : Int32) (x5 : Int32) (S : xm_S) {g : xm_S → Prop} {Z8 : Int32 → Option Nat → Int32 → Int32 → xm_S → Prop} (C : xm_Cx K cX7_permit RX7 8 none rm_X7_permit) (N : xm_Nx K) (hg : ∀ S, g S → xm_q K none S) (hZ8 : ∀ x1 x2 x3 x4 S, Z8 x1 x2 x3 x4 S → xm_W K 0 0 8 [(0, xm_r (some h)), (1, xm_i x1), (2, xm_r x2), (3, xm_i x3), (4, xm_i x4)] [] S) (h1 : wp_X7_permit_42 h x1 x2 x3 x4 x5 S g Z8) : xm_W K 0 0 42 [(0, xm_r (some h)), (1, xm_i x1), (2, xm_r x2), (3, xm_i x3), (4, xm_i x4), (5, xm_i x5)] [] S :=
  h1 (fun x1 x2 x3 x4 x5 S => xm_W K 0 0 42 [(0, xm_r (some h)), (1, xm_i x1), (2, xm_r x2), (3, xm_i x3), (4, xm_i x4), (5, xm_i x5)] [] S) (fun x1 x2 x3 x4 x5 S hb => kp_X7_permit_42B h x1 x2 x3 x4 x5 S C N hg hZ8 (fun x1 x2 x3 x4 x5 S hz => hz) hb)
def wp_X7_permit_38 (h : Nat) (x1 : Int32) (x2 : Option Nat) (x3 : Int32) (x4 : Int32) (s0 : Int32) (s1 : Int32) (s2 : Option Nat) (S : xm_S) (g : xm_S → Prop) (Z8 : Int32 → Option Nat → Int32 → Int32 → xm_S → Prop) : Prop :=
  ∃ n45, s2 = some n45 ∧ ∃ z48, st_t S n45 = some (100, z48) ∧ vp_in s1 z48 ∧ ∀ S50, S50 = st_pi S n45 (s1).toNatClampNeg s0 → wp_X7_permit_42 h x1 x2 x3 x4 (0 : Int32) S50 g Z8
set_option maxRecDepth 100000 in
set_option maxHeartbeats 4000000 in
theorem kp_X7_permit_38 {K : xm_K} (h : Nat) (x1 : Int32) (x2 : Option Nat) (x3 : Int32) (x4 : Int32) (s0 : Int32) (s1 : Int32) (s2 : Option Nat) (S : xm_S) {g : xm_S → Prop} {Z8 : Int32 → Option Nat → Int32 → Int32 → xm_S → Prop} (C : xm_Cx K cX7_permit RX7 8 none rm_X7_permit) (N : xm_Nx K) (hg : ∀ S, g S → xm_q K none S) (hZ8 : ∀ x1 x2 x3 x4 S, Z8 x1 x2 x3 x4 S → xm_W K 0 0 8 [(0, xm_r (some h)), (1, xm_i x1), (2, xm_r x2), (3, xm_i x3), (4, xm_i x4)] [] S) (h1 : wp_X7_permit_38 h x1 x2 x3 x4 s0 s1 s2 S g Z8) : xm_W K 0 0 38 [(0, xm_r (some h)), (1, xm_i x1), (2, xm_r x2), (3, xm_i x3), (4, xm_i x4)] [xm_i s0, xm_i s1, xm_r s2] S := by
  unfold wp_X7_permit_38 at h1
  obtain ⟨n45, hr46, h1⟩ := h1
  obtain ⟨z48, ht47, h1⟩ := h1
  obtain ⟨hi49, h1⟩ := h1
  refine x_iast (n := n45) C hr46 ht47 hi49 dX7_permit_38 ?_
  refine x_topS (fun S50 e51 => ?_)
  have h1 := h1 S50 e51
  refine x_iconst (v := (0 : Int32)) C dX7_permit_39 (by decide) ?_
  refine x_istore (L' := [(5, xm_i (0 : Int32)), (0, xm_r (some h)), (1, xm_i x1), (2, xm_r x2), (3, xm_i x3), (4, xm_i x4)]) C dX7_permit_40 (by decide) rfl ?_
  refine x_keep (L' := [(0, xm_r (some h)), (1, xm_i x1), (2, xm_r x2), (3, xm_i x3), (4, xm_i x4), (5, xm_i (0 : Int32))]) C [1, 2, 3, 4, 5, 0] rfl ?_
  exact kp_X7_permit_42 h x1 x2 x3 x4 (0 : Int32) S50 C N hg hZ8 h1
def wp_X7_permit_8B (h : Nat) (x1 : Int32) (x2 : Option Nat) (x3 : Int32) (x4 : Int32) (S : xm_S) (g : xm_S → Prop) (Z8 : Int32 → Option Nat → Int32 → Int32 → xm_S → Prop) : Prop :=
  ((nI 6) ≤ x4 → g S) ∧ (¬ (nI 6) ≤ x4 → st_t S h = some (7, 0) ∧ (((x3 >>> (x4 &&& 31)) &&& (1 : Int32)) = 0 → ∃ n53, x2 = some n53 ∧ ∃ z56, st_t S n53 = some (100, z56) ∧ vp_in x4 z56 ∧ wp_X7_permit_38 h x1 x2 x3 x4 (st_i S n53 (x4).toNatClampNeg) x4 (st_r S h 5) S g Z8) ∧ (¬ ((x3 >>> (x4 &&& 31)) &&& (1 : Int32)) = 0 → wp_X7_permit_38 h x1 x2 x3 x4 (-1 : Int32) x4 (st_r S h 5) S g Z8))
def wp_X7_permit_8 (h : Nat) (x1 : Int32) (x2 : Option Nat) (x3 : Int32) (x4 : Int32) (S : xm_S) (g : xm_S → Prop) : Prop :=
  ∀ Z8 : Int32 → Option Nat → Int32 → Int32 → xm_S → Prop, (∀ x1 x2 x3 x4 S, wp_X7_permit_8B h x1 x2 x3 x4 S g Z8 → Z8 x1 x2 x3 x4 S) → Z8 x1 x2 x3 x4 S
set_option maxRecDepth 100000 in
set_option maxHeartbeats 4000000 in
theorem kp_X7_permit_8B {K : xm_K} (h : Nat) (x1 : Int32) (x2 : Option Nat) (x3 : Int32) (x4 : Int32) (S : xm_S) {g : xm_S → Prop} {Z8 : Int32 → Option Nat → Int32 → Int32 → xm_S → Prop} (C : xm_Cx K cX7_permit RX7 8 none rm_X7_permit) (N : xm_Nx K) (hg : ∀ S, g S → xm_q K none S) (hZ8 : ∀ x1 x2 x3 x4 S, Z8 x1 x2 x3 x4 S → xm_W K 0 0 8 [(0, xm_r (some h)), (1, xm_i x1), (2, xm_r x2), (3, xm_i x3), (4, xm_i x4)] [] S) (h1 : wp_X7_permit_8B h x1 x2 x3 x4 S g Z8) : xm_W K 0 0 8 [(0, xm_r (some h)), (1, xm_i x1), (2, xm_r x2), (3, xm_i x3), (4, xm_i x4)] [] S := by
  unfold wp_X7_permit_8B at h1
  refine x_iload C 4 dX7_permit_8 rfl ?_
  refine x_bipush (v := (nI 6)) C dX7_permit_10 (by decide) ?_
  refine x_icmp_ge (tgt := 144) C dX7_permit_12 (by decide) (fun z9 => ?_) (fun z9 => ?_)
  · have h1 := h1.1 z9
    exact x_vret C (Nat.le_of_ble_eq_true rfl) (Nat.le_of_ble_eq_true rfl) rfl dX7_permit_144 (hg _ h1)
  · have h1 := h1.2 z9
    refine x_aload_n C 0 dX7_permit_15 rfl rfl ?_
    obtain ⟨ht52, h1⟩ := h1
    refine x_getf_r (n := h) C rfl ht52 fd_71 (by decide) dX7_permit_16 ?_
    refine x_iload C 4 dX7_permit_19 rfl ?_
    refine x_iload_n C 3 dX7_permit_21 rfl rfl ?_
    refine x_iload C 4 dX7_permit_22 rfl ?_
    refine x_ishr C dX7_permit_24 ?_
    refine x_iconst (v := (1 : Int32)) C dX7_permit_25 (by decide) ?_
    refine x_iand C dX7_permit_26 ?_
    refine x_if_eq (tgt := 34) C dX7_permit_27 (by decide) (fun z9 => ?_) (fun z9 => ?_)
    · have h1 := h1.1 z9
      refine x_aload_n C 2 dX7_permit_34 rfl rfl ?_
      refine x_iload C 4 dX7_permit_35 rfl ?_
      obtain ⟨n53, hr54, h1⟩ := h1
      obtain ⟨z56, ht55, h1⟩ := h1
      obtain ⟨hi57, h1⟩ := h1
      refine x_iald (n := n53) C hr54 ht55 hi57 dX7_permit_37 ?_
      exact kp_X7_permit_38 h x1 x2 x3 x4 (st_i S n53 (x4).toNatClampNeg) x4 (st_r S h 5) S C N hg hZ8 h1
    · have h1 := h1.2 z9
      refine x_iconst (v := (-1 : Int32)) C dX7_permit_30 (by decide) ?_
      refine x_goto (tgt := 38) C dX7_permit_31 (by decide) ?_
      exact kp_X7_permit_38 h x1 x2 x3 x4 (-1 : Int32) x4 (st_r S h 5) S C N hg hZ8 h1
theorem kp_X7_permit_8 {K : xm_K} (h : Nat) (x1 : Int32) (x2 : Option Nat) (x3 : Int32) (x4 : Int32) (S : xm_S) {g : xm_S → Prop} (C : xm_Cx K cX7_permit RX7 8 none rm_X7_permit) (N : xm_Nx K) (hg : ∀ S, g S → xm_q K none S)  (h1 : wp_X7_permit_8 h x1 x2 x3 x4 S g) : xm_W K 0 0 8 [(0, xm_r (some h)), (1, xm_i x1), (2, xm_r x2), (3, xm_i x3), (4, xm_i x4)] [] S :=
  h1 (fun x1 x2 x3 x4 S => xm_W K 0 0 8 [(0, xm_r (some h)), (1, xm_i x1), (2, xm_r x2), (3, xm_i x3), (4, xm_i x4)] [] S) (fun x1 x2 x3 x4 S hb => kp_X7_permit_8B h x1 x2 x3 x4 S C N hg (fun x1 x2 x3 x4 S hz => hz) hb)
def wp_X7_permit (h : Nat) (x1 : Int32) (x2 : Option Nat) (x3 : Int32) (S : xm_S) (g : xm_S → Prop) : Prop :=
  st_t S h = some (7, 0) ∧ ∀ S59, S59 = st_pi S h 6 (0 : Int32) → wp_X7_permit_8 h x1 x2 x3 (0 : Int32) S59 g
set_option maxRecDepth 100000 in
set_option maxHeartbeats 4000000 in
theorem kp_X7_permit {K : xm_K} (h : Nat) (x1 : Int32) (x2 : Option Nat) (x3 : Int32) (S : xm_S) {g : xm_S → Prop} (C : xm_Cx K cX7_permit RX7 8 none rm_X7_permit) (N : xm_Nx K) (hg : ∀ S, g S → xm_q K none S)  (h1 : wp_X7_permit h x1 x2 x3 S g) : xm_W K 0 0 0 [(0, xm_r (some h)), (1, xm_i x1), (2, xm_r x2), (3, xm_i x3)] [] S := by
  unfold wp_X7_permit at h1
  refine x_aload_n C 0 dX7_permit_0 rfl rfl ?_
  refine x_iconst (v := (0 : Int32)) C dX7_permit_1 (by decide) ?_
  obtain ⟨ht58, h1⟩ := h1
  refine x_putf_i (n := h) C rfl ht58 fd_74 xc_7 (by decide) rfl ⟨rfl, rfl⟩ dX7_permit_2 ?_
  refine x_topS (fun S59 e60 => ?_)
  have h1 := h1 S59 e60
  refine x_iconst (v := (0 : Int32)) C dX7_permit_5 (by decide) ?_
  refine x_istore (L' := [(4, xm_i (0 : Int32)), (0, xm_r (some h)), (1, xm_i x1), (2, xm_r x2), (3, xm_i x3)]) C dX7_permit_6 (by decide) rfl ?_
  refine x_keep (L' := [(0, xm_r (some h)), (1, xm_i x1), (2, xm_r x2), (3, xm_i x3), (4, xm_i (0 : Int32))]) C [1, 2, 3, 4, 0] rfl ?_
  exact kp_X7_permit_8 h x1 x2 x3 (0 : Int32) S59 C N hg  h1
theorem kp_X7_permit_met {h : Nat} {x1 : Int32} {x2 : Option Nat} {x3 : Int32} {S : xm_S} {g : xm_S → Prop}  (h1 : wp_X7_permit h x1 x2 x3 S g) : xm_Met yX7_permit cX7_permit 8 none rm_X7_permit [xm_r (some h), xm_i x1, xm_r x2, xm_i x3] S (xm_qv g) xm_nox :=
  xm_ofW RX7 (by decide +kernel) rfl (Nat.le_of_ble_eq_true rfl) (fun K C N hq hx hi => kp_X7_permit h x1 x2 x3 S C N (fun S h => by rw [hq]; exact ⟨rfl, h⟩)  h1)
def rm_X7_withinReach : Room := { frames := 2, cells := 0, slots := 0, locals := 43 }
theorem dX7_withinReach_0 : decode cX7_withinReach 0 = .ok (.iconst 0, 1) := by decide +kernel
theorem dX7_withinReach_1 : decode cX7_withinReach 1 = .ok (.istore_n 1, 1) := by decide +kernel
theorem dX7_withinReach_2 : decode cX7_withinReach 2 = .ok (.iconst 0, 1) := by decide +kernel
theorem dX7_withinReach_3 : decode cX7_withinReach 3 = .ok (.istore_n 2, 1) := by decide +kernel
theorem dX7_withinReach_4 : decode cX7_withinReach 4 = .ok (.iload_n 2, 1) := by decide +kernel
theorem dX7_withinReach_5 : decode cX7_withinReach 5 = .ok (.aload_n 0, 1) := by decide +kernel
theorem dX7_withinReach_6 : decode cX7_withinReach 6 = .ok (.getfield 19, 3) := by decide +kernel
theorem dX7_withinReach_9 : decode cX7_withinReach 9 = .ok (.if_icmp .ge 37, 3) := by decide +kernel
theorem dX7_withinReach_12 : decode cX7_withinReach 12 = .ok (.aload_n 0, 1) := by decide +kernel
theorem dX7_withinReach_13 : decode cX7_withinReach 13 = .ok (.getfield 36, 3) := by decide +kernel
theorem dX7_withinReach_16 : decode cX7_withinReach 16 = .ok (.iload_n 2, 1) := by decide +kernel
theorem dX7_withinReach_17 : decode cX7_withinReach 17 = .ok (.ishr, 1) := by decide +kernel
theorem dX7_withinReach_18 : decode cX7_withinReach 18 = .ok (.iconst 1, 1) := by decide +kernel
theorem dX7_withinReach_19 : decode cX7_withinReach 19 = .ok (.iand, 1) := by decide +kernel
theorem dX7_withinReach_20 : decode cX7_withinReach 20 = .ok (.ifCond .eq 20, 3) := by decide +kernel
theorem dX7_withinReach_23 : decode cX7_withinReach 23 = .ok (.iload_n 1, 1) := by decide +kernel
theorem dX7_withinReach_24 : decode cX7_withinReach 24 = .ok (.aload_n 0, 1) := by decide +kernel
theorem dX7_withinReach_25 : decode cX7_withinReach 25 = .ok (.getfield 15, 3) := by decide +kernel
theorem dX7_withinReach_28 : decode cX7_withinReach 28 = .ok (.iload_n 2, 1) := by decide +kernel
theorem dX7_withinReach_29 : decode cX7_withinReach 29 = .ok (.aaload, 1) := by decide +kernel
theorem dX7_withinReach_30 : decode cX7_withinReach 30 = .ok (.getfield 73, 3) := by decide +kernel
theorem dX7_withinReach_33 : decode cX7_withinReach 33 = .ok (.aload_n 0, 1) := by decide +kernel
theorem dX7_withinReach_34 : decode cX7_withinReach 34 = .ok (.getfield 33, 3) := by decide +kernel
theorem dX7_withinReach_37 : decode cX7_withinReach 37 = .ok (.iand, 1) := by decide +kernel
theorem dX7_withinReach_38 : decode cX7_withinReach 38 = .ok (.ior, 1) := by decide +kernel
theorem dX7_withinReach_39 : decode cX7_withinReach 39 = .ok (.istore_n 1, 1) := by decide +kernel
theorem dX7_withinReach_40 : decode cX7_withinReach 40 = .ok (.iinc 2 1, 3) := by decide +kernel
theorem dX7_withinReach_43 : decode cX7_withinReach 43 = .ok (.goto (-39), 3) := by decide +kernel
theorem dX7_withinReach_46 : decode cX7_withinReach 46 = .ok (.iconst 0, 1) := by decide +kernel
theorem dX7_withinReach_47 : decode cX7_withinReach 47 = .ok (.istore_n 2, 1) := by decide +kernel
theorem dX7_withinReach_48 : decode cX7_withinReach 48 = .ok (.iload_n 2, 1) := by decide +kernel
theorem dX7_withinReach_49 : decode cX7_withinReach 49 = .ok (.bipush 64, 2) := by decide +kernel
theorem dX7_withinReach_51 : decode cX7_withinReach 51 = .ok (.if_icmp .ge 73, 3) := by decide +kernel
theorem dX7_withinReach_54 : decode cX7_withinReach 54 = .ok (.iload_n 1, 1) := by decide +kernel
theorem dX7_withinReach_55 : decode cX7_withinReach 55 = .ok (.istore_n 3, 1) := by decide +kernel
theorem dX7_withinReach_56 : decode cX7_withinReach 56 = .ok (.iconst 0, 1) := by decide +kernel
theorem dX7_withinReach_57 : decode cX7_withinReach 57 = .ok (.istore 4, 2) := by decide +kernel
theorem dX7_withinReach_59 : decode cX7_withinReach 59 = .ok (.iload 4, 2) := by decide +kernel
theorem dX7_withinReach_61 : decode cX7_withinReach 61 = .ok (.bipush 24, 2) := by decide +kernel
theorem dX7_withinReach_63 : decode cX7_withinReach 63 = .ok (.if_icmp .ge 47, 3) := by decide +kernel
theorem dX7_withinReach_66 : decode cX7_withinReach 66 = .ok (.iload_n 1, 1) := by decide +kernel
theorem dX7_withinReach_67 : decode cX7_withinReach 67 = .ok (.iload 4, 2) := by decide +kernel
theorem dX7_withinReach_69 : decode cX7_withinReach 69 = .ok (.ishr, 1) := by decide +kernel
theorem dX7_withinReach_70 : decode cX7_withinReach 70 = .ok (.iconst 1, 1) := by decide +kernel
theorem dX7_withinReach_71 : decode cX7_withinReach 71 = .ok (.iand, 1) := by decide +kernel
theorem dX7_withinReach_72 : decode cX7_withinReach 72 = .ok (.ifCond .eq 32, 3) := by decide +kernel
theorem dX7_withinReach_75 : decode cX7_withinReach 75 = .ok (.iload_n 1, 1) := by decide +kernel
theorem dX7_withinReach_76 : decode cX7_withinReach 76 = .ok (.aload_n 0, 1) := by decide +kernel
theorem dX7_withinReach_77 : decode cX7_withinReach 77 = .ok (.aload_n 0, 1) := by decide +kernel
theorem dX7_withinReach_78 : decode cX7_withinReach 78 = .ok (.getfield 9, 3) := by decide +kernel
theorem dX7_withinReach_81 : decode cX7_withinReach 81 = .ok (.iload 4, 2) := by decide +kernel
theorem dX7_withinReach_83 : decode cX7_withinReach 83 = .ok (.iconst 4, 1) := by decide +kernel
theorem dX7_withinReach_84 : decode cX7_withinReach 84 = .ok (.idiv, 1) := by decide +kernel
theorem dX7_withinReach_85 : decode cX7_withinReach 85 = .ok (.aaload, 1) := by decide +kernel
theorem dX7_withinReach_86 : decode cX7_withinReach 86 = .ok (.getfield 83, 3) := by decide +kernel
theorem dX7_withinReach_89 : decode cX7_withinReach 89 = .ok (.iload 4, 2) := by decide +kernel
theorem dX7_withinReach_91 : decode cX7_withinReach 91 = .ok (.iconst 4, 1) := by decide +kernel
theorem dX7_withinReach_92 : decode cX7_withinReach 92 = .ok (.irem, 1) := by decide +kernel
theorem dX7_withinReach_93 : decode cX7_withinReach 93 = .ok (.aaload, 1) := by decide +kernel
theorem dX7_withinReach_94 : decode cX7_withinReach 94 = .ok (.invokevirtual 157, 3) := by decide +kernel
theorem dX7_withinReach_97 : decode cX7_withinReach 97 = .ok (.aload_n 0, 1) := by decide +kernel
theorem dX7_withinReach_98 : decode cX7_withinReach 98 = .ok (.getfield 33, 3) := by decide +kernel
theorem dX7_withinReach_101 : decode cX7_withinReach 101 = .ok (.iand, 1) := by decide +kernel
theorem dX7_withinReach_102 : decode cX7_withinReach 102 = .ok (.ior, 1) := by decide +kernel
theorem dX7_withinReach_103 : decode cX7_withinReach 103 = .ok (.istore_n 1, 1) := by decide +kernel
theorem dX7_withinReach_104 : decode cX7_withinReach 104 = .ok (.iinc 4 1, 3) := by decide +kernel
theorem dX7_withinReach_107 : decode cX7_withinReach 107 = .ok (.goto (-48), 3) := by decide +kernel
theorem dX7_withinReach_110 : decode cX7_withinReach 110 = .ok (.iload_n 1, 1) := by decide +kernel
theorem dX7_withinReach_111 : decode cX7_withinReach 111 = .ok (.iload_n 3, 1) := by decide +kernel
theorem dX7_withinReach_112 : decode cX7_withinReach 112 = .ok (.if_icmp .ne 6, 3) := by decide +kernel
theorem dX7_withinReach_115 : decode cX7_withinReach 115 = .ok (.goto 9, 3) := by decide +kernel
theorem dX7_withinReach_118 : decode cX7_withinReach 118 = .ok (.iinc 2 1, 3) := by decide +kernel
theorem dX7_withinReach_121 : decode cX7_withinReach 121 = .ok (.goto (-73), 3) := by decide +kernel
theorem dX7_withinReach_124 : decode cX7_withinReach 124 = .ok (.iload_n 1, 1) := by decide +kernel
theorem dX7_withinReach_125 : decode cX7_withinReach 125 = .ok (.ireturn, 1) := by decide +kernel
def wp_X7_withinReach_40 (h : Nat) (x1 : Int32) (x2 : Int32) (S : xm_S) (g : Int32 → xm_S → Prop) (Z4 : Int32 → Int32 → xm_S → Prop) : Prop :=
  ∀ y1, y1 = (x2 + (1 : Int32)) → Z4 x1 y1 S
set_option maxRecDepth 100000 in
set_option maxHeartbeats 4000000 in
theorem kp_X7_withinReach_40 {K : xm_K} (h : Nat) (x1 : Int32) (x2 : Int32) (S : xm_S) {g : Int32 → xm_S → Prop} {Z4 : Int32 → Int32 → xm_S → Prop} (C : xm_Cx K cX7_withinReach RX7 5 (some (FieldType.int)) rm_X7_withinReach) (N : xm_Nx K) (hg : ∀ v S, g v S → xm_q K (some (xm_i v)) S) (hZ4 : ∀ x1 x2 S, Z4 x1 x2 S → xm_W K 0 0 4 [(0, xm_r (some h)), (1, xm_i x1), (2, xm_i x2)] [] S) (h1 : wp_X7_withinReach_40 h x1 x2 S g Z4) : xm_W K 0 0 40 [(0, xm_r (some h)), (1, xm_i x1), (2, xm_i x2)] [] S := by
  unfold wp_X7_withinReach_40 at h1
  obtain ⟨y1, e2⟩ : ∃ y1, y1 = (x2 + (1 : Int32)) := ⟨_, rfl⟩
  have h1 := h1 y1 e2
  refine x_iinc (v := y1) (L' := [(2, xm_i y1), (0, xm_r (some h)), (1, xm_i x1)]) C 2 dX7_withinReach_40 rfl (by rw [e2]; rfl) (by decide) rfl ?_
  refine x_goto (tgt := 4) C dX7_withinReach_43 (by decide) ?_
  refine x_keep (L' := [(0, xm_r (some h)), (1, xm_i x1), (2, xm_i y1)]) C [1, 2, 0] rfl ?_
  exact hZ4 x1 y1 S h1
def wp_X7_withinReach_124 (h : Nat) (x1 : Int32) (S : xm_S) (g : Int32 → xm_S → Prop) : Prop :=
  g x1 S
set_option maxRecDepth 100000 in
set_option maxHeartbeats 4000000 in
theorem kp_X7_withinReach_124 {K : xm_K} (h : Nat) (x1 : Int32) (S : xm_S) {g : Int32 → xm_S → Prop} (C : xm_Cx K cX7_withinReach RX7 5 (some (FieldType.int)) rm_X7_withinReach) (N : xm_Nx K) (hg : ∀ v S, g v S → xm_q K (some (xm_i v)) S)  (h1 : wp_X7_withinReach_124 h x1 S g) : xm_W K 0 0 124 [(1, xm_i x1)] [] S := by
  unfold wp_X7_withinReach_124 at h1
  refine x_iload_n C 0 dX7_withinReach_124 rfl rfl ?_
  exact x_iret C (Nat.le_of_ble_eq_true rfl) (Nat.le_of_ble_eq_true rfl) rfl dX7_withinReach_125 (hg _ _ h1)
def wp_X7_withinReach_104 (h : Nat) (x1 : Int32) (x2 : Int32) (x3 : Int32) (x4 : Int32) (S : xm_S) (g : Int32 → xm_S → Prop) (Z48 : Int32 → Int32 → xm_S → Prop) (Z59 : Int32 → Int32 → Int32 → Int32 → xm_S → Prop) : Prop :=
  ∀ y3, y3 = (x4 + (1 : Int32)) → Z59 x1 x2 x3 y3 S
set_option maxRecDepth 100000 in
set_option maxHeartbeats 4000000 in
theorem kp_X7_withinReach_104 {K : xm_K} (h : Nat) (x1 : Int32) (x2 : Int32) (x3 : Int32) (x4 : Int32) (S : xm_S) {g : Int32 → xm_S → Prop} {Z48 : Int32 → Int32 → xm_S → Prop} {Z59 : Int32 → Int32 → Int32 → Int32 → xm_S → Prop} (C : xm_Cx K cX7_withinReach RX7 5 (some (FieldType.int)) rm_X7_withinReach) (N : xm_Nx K) (hg : ∀ v S, g v S → xm_q K (some (xm_i v)) S) (hZ48 : ∀ x1 x2 S, Z48 x1 x2 S → xm_W K 0 0 48 [(0, xm_r (some h)), (1, xm_i x1), (2, xm_i x2)] [] S) (hZ59 : ∀ x1 x2 x3 x4 S, Z59 x1 x2 x3 x4 S → xm_W K 0 0 59 [(0, xm_r (some h)), (1, xm_i x1), (2, xm_i x2), (3, xm_i x3), (4, xm_i x4)] [] S) (h1 : wp_X7_withinReach_104 h x1 x2 x3 x4 S g Z48 Z59) : xm_W K 0 0 104 [(0, xm_r (some h)), (1, xm_i x1), (2, xm_i x2), (3, xm_i x3), (4, xm_i x4)] [] S := by
  unfold wp_X7_withinReach_104 at h1
  obtain ⟨y3, e4⟩ : ∃ y3, y3 = (x4 + (1 : Int32)) := ⟨_, rfl⟩
  have h1 := h1 y3 e4
  refine x_iinc (v := y3) (L' := [(4, xm_i y3), (0, xm_r (some h)), (1, xm_i x1), (2, xm_i x2), (3, xm_i x3)]) C 4 dX7_withinReach_104 rfl (by rw [e4]; rfl) (by decide) rfl ?_
  refine x_goto (tgt := 59) C dX7_withinReach_107 (by decide) ?_
  refine x_keep (L' := [(0, xm_r (some h)), (1, xm_i x1), (2, xm_i x2), (3, xm_i x3), (4, xm_i y3)]) C [1, 2, 3, 4, 0] rfl ?_
  exact hZ59 x1 x2 x3 y3 S h1
def wp_X7_withinReach_59B (h : Nat) (x1 : Int32) (x2 : Int32) (x3 : Int32) (x4 : Int32) (S : xm_S) (g : Int32 → xm_S → Prop) (Z48 : Int32 → Int32 → xm_S → Prop) (Z59 : Int32 → Int32 → Int32 → Int32 → xm_S → Prop) : Prop :=
  ((nI 24) ≤ x4 → (¬ x1 = x3 → ∀ y5, y5 = (x2 + (1 : Int32)) → Z48 x1 y5 S) ∧ (x1 = x3 → wp_X7_withinReach_124 h x1 S g)) ∧ (¬ (nI 24) ≤ x4 → (((x1 >>> (x4 &&& 31)) &&& (1 : Int32)) = 0 → wp_X7_withinReach_104 h x1 x2 x3 x4 S g Z48 Z59) ∧ (¬ ((x1 >>> (x4 &&& 31)) &&& (1 : Int32)) = 0 → st_t S h = some (7, 0) ∧ ∃ n8, (st_r S h 0) = some n8 ∧ ∃ z11, st_t S n8 = some (115, z11) ∧ vp_in (x4 / (nI 4)) z11 ∧ ∃ n13, (st_r S n8 ((x4 / (nI 4))).toNatClampNeg) = some n13 ∧ st_t S n13 = some (5, 0) ∧ ∃ n16, (st_r S n13 1) = some n16 ∧ ∃ z19, st_t S n16 = some (120, z19) ∧ vp_in (x4 - x4 / (nI 4) * (nI 4)) z19 ∧ wp_X7_leadingTo h (st_r S n16 ((x4 - x4 / (nI 4) * (nI 4))).toNatClampNeg) S (fun r22 S21 => st_t S21 h = some (7, 0) ∧ ∀ y24, y24 = (x1 ||| (r22 &&& (st_i S21 h 6))) → wp_X7_withinReach_104 h y24 x2 x3 x4 S21 g Z48 Z59)))
def wp_X7_withinReach_59 (h : Nat) (x1 : Int32) (x2 : Int32) (x3 : Int32) (x4 : Int32) (S : xm_S) (g : Int32 → xm_S → Prop) (Z48 : Int32 → Int32 → xm_S → Prop) : Prop :=
  ∀ Z59 : Int32 → Int32 → Int32 → Int32 → xm_S → Prop, (∀ x1 x2 x3 x4 S, wp_X7_withinReach_59B h x1 x2 x3 x4 S g Z48 Z59 → Z59 x1 x2 x3 x4 S) → Z59 x1 x2 x3 x4 S
set_option maxRecDepth 100000 in
set_option maxHeartbeats 4000000 in
theorem kp_X7_withinReach_59B {K : xm_K} (h : Nat) (x1 : Int32) (x2 : Int32) (x3 : Int32) (x4 : Int32) (S : xm_S) {g : Int32 → xm_S → Prop} {Z48 : Int32 → Int32 → xm_S → Prop} {Z59 : Int32 → Int32 → Int32 → Int32 → xm_S → Prop} (C : xm_Cx K cX7_withinReach RX7 5 (some (FieldType.int)) rm_X7_withinReach) (N : xm_Nx K) (hg : ∀ v S, g v S → xm_q K (some (xm_i v)) S) (hZ48 : ∀ x1 x2 S, Z48 x1 x2 S → xm_W K 0 0 48 [(0, xm_r (some h)), (1, xm_i x1), (2, xm_i x2)] [] S) (hZ59 : ∀ x1 x2 x3 x4 S, Z59 x1 x2 x3 x4 S → xm_W K 0 0 59 [(0, xm_r (some h)), (1, xm_i x1), (2, xm_i x2), (3, xm_i x3), (4, xm_i x4)] [] S) (h1 : wp_X7_withinReach_59B h x1 x2 x3 x4 S g Z48 Z59) : xm_W K 0 0 59 [(0, xm_r (some h)), (1, xm_i x1), (2, xm_i x2), (3, xm_i x3), (4, xm_i x4)] [] S := by
  unfold wp_X7_withinReach_59B at h1
  refine x_iload C 4 dX7_withinReach_59 rfl ?_
  refine x_bipush (v := (nI 24)) C dX7_withinReach_61 (by decide) ?_
  refine x_icmp_ge (tgt := 110) C dX7_withinReach_63 (by decide) (fun z9 => ?_) (fun z9 => ?_)
  · have h1 := h1.1 z9
    refine x_iload_n C 1 dX7_withinReach_110 rfl rfl ?_
    refine x_iload_n C 3 dX7_withinReach_111 rfl rfl ?_
    refine x_icmp_ne (tgt := 118) C dX7_withinReach_112 (by decide) (fun z9 => ?_) (fun z9 => ?_)
    · have h1 := h1.1 z9
      obtain ⟨y5, e6⟩ : ∃ y5, y5 = (x2 + (1 : Int32)) := ⟨_, rfl⟩
      have h1 := h1 y5 e6
      refine x_iinc (v := y5) (L' := [(2, xm_i y5), (0, xm_r (some h)), (1, xm_i x1), (3, xm_i x3), (4, xm_i x4)]) C 2 dX7_withinReach_118 rfl (by rw [e6]; rfl) (by decide) rfl ?_
      refine x_goto (tgt := 48) C dX7_withinReach_121 (by decide) ?_
      refine x_keep (L' := [(0, xm_r (some h)), (1, xm_i x1), (2, xm_i y5)]) C [1, 2, 0] rfl ?_
      exact hZ48 x1 y5 S h1
    · have h1 := h1.2 z9
      refine x_goto (tgt := 124) C dX7_withinReach_115 (by decide) ?_
      refine x_keep (L' := [(1, xm_i x1)]) C [1] rfl ?_
      exact kp_X7_withinReach_124 h x1 S C N hg  h1
  · have h1 := h1.2 z9
    refine x_iload_n C 1 dX7_withinReach_66 rfl rfl ?_
    refine x_iload C 4 dX7_withinReach_67 rfl ?_
    refine x_ishr C dX7_withinReach_69 ?_
    refine x_iconst (v := (1 : Int32)) C dX7_withinReach_70 (by decide) ?_
    refine x_iand C dX7_withinReach_71 ?_
    refine x_if_eq (tgt := 104) C dX7_withinReach_72 (by decide) (fun z9 => ?_) (fun z9 => ?_)
    · have h1 := h1.1 z9
      exact kp_X7_withinReach_104 h x1 x2 x3 x4 S C N hg hZ48 hZ59 h1
    · have h1 := h1.2 z9
      refine x_iload_n C 1 dX7_withinReach_75 rfl rfl ?_
      refine x_aload_n C 0 dX7_withinReach_76 rfl rfl ?_
      refine x_aload_n C 0 dX7_withinReach_77 rfl rfl ?_
      obtain ⟨ht7, h1⟩ := h1
      refine x_getf_r (n := h) C rfl ht7 fd_58 (by decide) dX7_withinReach_78 ?_
      refine x_iload C 4 dX7_withinReach_81 rfl ?_
      refine x_iconst (v := (nI 4)) C dX7_withinReach_83 (by decide) ?_
      refine x_idiv C dX7_withinReach_84 (by decide) ?_
      obtain ⟨n8, hr9, h1⟩ := h1
      obtain ⟨z11, ht10, h1⟩ := h1
      obtain ⟨hi12, h1⟩ := h1
      refine x_aald (n := n8) C hr9 (by decide) rfl ht10 hi12 dX7_withinReach_85 ?_
      obtain ⟨n13, hr14, h1⟩ := h1
      obtain ⟨ht15, h1⟩ := h1
      refine x_getf_r (n := n13) C hr14 ht15 fd_59 (by decide) dX7_withinReach_86 ?_
      refine x_iload C 4 dX7_withinReach_89 rfl ?_
      refine x_iconst (v := (nI 4)) C dX7_withinReach_91 (by decide) ?_
      refine x_irem C dX7_withinReach_92 (by decide) ?_
      obtain ⟨n16, hr17, h1⟩ := h1
      obtain ⟨z19, ht18, h1⟩ := h1
      obtain ⟨hi20, h1⟩ := h1
      refine x_aald (n := n16) C hr17 (by decide) rfl ht18 hi20 dX7_withinReach_93 ?_
      refine x_callV (rm' := rm_X7_leadingTo) (n := h) C (kp_X7_leadingTo_met h1) lk_34 gw_241 gw_242 xv_7 rfl rfl ht7 rfl (Nat.le_of_ble_eq_true rfl) ⟨Nat.le_of_ble_eq_true rfl, Nat.le_of_ble_eq_true rfl, (Nat.le_of_ble_eq_true rfl), (Nat.le_of_ble_eq_true rfl)⟩ dX7_withinReach_94 xm_kx (xm_ki (fun r22 S21 h1 => ?_))
      refine x_aload_n C 0 dX7_withinReach_97 rfl rfl ?_
      obtain ⟨ht23, h1⟩ := h1
      refine x_getf_i (n := h) C rfl ht23 fd_74 (by decide) dX7_withinReach_98 ?_
      refine x_iand C dX7_withinReach_101 ?_
      refine x_ior C dX7_withinReach_102 ?_
      refine x_topi (fun y24 e25 => ?_)
      have h1 := h1 y24 e25
      refine x_istore_n (L' := [(1, xm_i y24), (0, xm_r (some h)), (2, xm_i x2), (3, xm_i x3), (4, xm_i x4)]) C dX7_withinReach_103 rfl (by decide) rfl ?_
      refine x_keep (L' := [(0, xm_r (some h)), (1, xm_i y24), (2, xm_i x2), (3, xm_i x3), (4, xm_i x4)]) C [1, 0, 2, 3, 4] rfl ?_
      exact kp_X7_withinReach_104 h y24 x2 x3 x4 S21 C N hg hZ48 hZ59 h1
theorem kp_X7_withinReach_59 {K : xm_K} (h : Nat) (x1 : Int32) (x2 : Int32) (x3 : Int32) (x4 : Int32) (S : xm_S) {g : Int32 → xm_S → Prop} {Z48 : Int32 → Int32 → xm_S → Prop} (C : xm_Cx K cX7_withinReach RX7 5 (some (FieldType.int)) rm_X7_withinReach) (N : xm_Nx K) (hg : ∀ v S, g v S → xm_q K (some (xm_i v)) S) (hZ48 : ∀ x1 x2 S, Z48 x1 x2 S → xm_W K 0 0 48 [(0, xm_r (some h)), (1, xm_i x1), (2, xm_i x2)] [] S) (h1 : wp_X7_withinReach_59 h x1 x2 x3 x4 S g Z48) : xm_W K 0 0 59 [(0, xm_r (some h)), (1, xm_i x1), (2, xm_i x2), (3, xm_i x3), (4, xm_i x4)] [] S :=
  h1 (fun x1 x2 x3 x4 S => xm_W K 0 0 59 [(0, xm_r (some h)), (1, xm_i x1), (2, xm_i x2), (3, xm_i x3), (4, xm_i x4)] [] S) (fun x1 x2 x3 x4 S hb => kp_X7_withinReach_59B h x1 x2 x3 x4 S C N hg hZ48 (fun x1 x2 x3 x4 S hz => hz) hb)
def wp_X7_withinReach_48B (h : Nat) (x1 : Int32) (x2 : Int32) (S : xm_S) (g : Int32 → xm_S → Prop) (Z48 : Int32 → Int32 → xm_S → Prop) : Prop :=
  ((nI 64) ≤ x2 → wp_X7_withinReach_124 h x1 S g) ∧ (¬ (nI 64) ≤ x2 → wp_X7_withinReach_59 h x1 x2 x1 (0 : Int32) S g Z48)
def wp_X7_withinReach_48 (h : Nat) (x1 : Int32) (x2 : Int32) (S : xm_S) (g : Int32 → xm_S → Prop) : Prop :=
  ∀ Z48 : Int32 → Int32 → xm_S → Prop, (∀ x1 x2 S, wp_X7_withinReach_48B h x1 x2 S g Z48 → Z48 x1 x2 S) → Z48 x1 x2 S
set_option maxRecDepth 100000 in
set_option maxHeartbeats 4000000 in
theorem kp_X7_withinReach_48B {K : xm_K} (h : Nat) (x1 : Int32) (x2 : Int32) (S : xm_S) {g : Int32 → xm_S → Prop} {Z48 : Int32 → Int32 → xm_S → Prop} (C : xm_Cx K cX7_withinReach RX7 5 (some (FieldType.int)) rm_X7_withinReach) (N : xm_Nx K) (hg : ∀ v S, g v S → xm_q K (some (xm_i v)) S) (hZ48 : ∀ x1 x2 S, Z48 x1 x2 S → xm_W K 0 0 48 [(0, xm_r (some h)), (1, xm_i x1), (2, xm_i x2)] [] S) (h1 : wp_X7_withinReach_48B h x1 x2 S g Z48) : xm_W K 0 0 48 [(0, xm_r (some h)), (1, xm_i x1), (2, xm_i x2)] [] S := by
  unfold wp_X7_withinReach_48B at h1
  refine x_iload_n C 2 dX7_withinReach_48 rfl rfl ?_
  refine x_bipush (v := (nI 64)) C dX7_withinReach_49 (by decide) ?_
  refine x_icmp_ge (tgt := 124) C dX7_withinReach_51 (by decide) (fun z9 => ?_) (fun z9 => ?_)
  · have h1 := h1.1 z9
    refine x_keep (L' := [(1, xm_i x1)]) C [1] rfl ?_
    exact kp_X7_withinReach_124 h x1 S C N hg  h1
  · have h1 := h1.2 z9
    refine x_iload_n C 1 dX7_withinReach_54 rfl rfl ?_
    refine x_istore_n (L' := [(3, xm_i x1), (0, xm_r (some h)), (1, xm_i x1), (2, xm_i x2)]) C dX7_withinReach_55 rfl (by decide) rfl ?_
    refine x_iconst (v := (0 : Int32)) C dX7_withinReach_56 (by decide) ?_
    refine x_istore (L' := [(4, xm_i (0 : Int32)), (3, xm_i x1), (0, xm_r (some h)), (1, xm_i x1), (2, xm_i x2)]) C dX7_withinReach_57 (by decide) rfl ?_
    refine x_keep (L' := [(0, xm_r (some h)), (1, xm_i x1), (2, xm_i x2), (3, xm_i x1), (4, xm_i (0 : Int32))]) C [2, 3, 4, 1, 0] rfl ?_
    exact kp_X7_withinReach_59 h x1 x2 x1 (0 : Int32) S C N hg hZ48 h1
theorem kp_X7_withinReach_48 {K : xm_K} (h : Nat) (x1 : Int32) (x2 : Int32) (S : xm_S) {g : Int32 → xm_S → Prop} (C : xm_Cx K cX7_withinReach RX7 5 (some (FieldType.int)) rm_X7_withinReach) (N : xm_Nx K) (hg : ∀ v S, g v S → xm_q K (some (xm_i v)) S)  (h1 : wp_X7_withinReach_48 h x1 x2 S g) : xm_W K 0 0 48 [(0, xm_r (some h)), (1, xm_i x1), (2, xm_i x2)] [] S :=
  h1 (fun x1 x2 S => xm_W K 0 0 48 [(0, xm_r (some h)), (1, xm_i x1), (2, xm_i x2)] [] S) (fun x1 x2 S hb => kp_X7_withinReach_48B h x1 x2 S C N hg (fun x1 x2 S hz => hz) hb)
def wp_X7_withinReach_4B (h : Nat) (x1 : Int32) (x2 : Int32) (S : xm_S) (g : Int32 → xm_S → Prop) (Z4 : Int32 → Int32 → xm_S → Prop) : Prop :=
  st_t S h = some (7, 0) ∧ ((st_i S h 2) ≤ x2 → wp_X7_withinReach_48 h x1 (0 : Int32) S g) ∧ (¬ (st_i S h 2) ≤ x2 → ((((st_i S h 7) >>> (x2 &&& 31)) &&& (1 : Int32)) = 0 → wp_X7_withinReach_40 h x1 x2 S g Z4) ∧ (¬ (((st_i S h 7) >>> (x2 &&& 31)) &&& (1 : Int32)) = 0 → ∃ n27, (st_r S h 1) = some n27 ∧ ∃ z30, st_t S n27 = some (114, z30) ∧ vp_in x2 z30 ∧ ∃ n32, (st_r S n27 (x2).toNatClampNeg) = some n32 ∧ st_t S n32 = some (4, 0) ∧ ∀ y35, y35 = (x1 ||| ((st_i S n32 5) &&& (st_i S h 6))) → wp_X7_withinReach_40 h y35 x2 S g Z4))
def wp_X7_withinReach_4 (h : Nat) (x1 : Int32) (x2 : Int32) (S : xm_S) (g : Int32 → xm_S → Prop) : Prop :=
  ∀ Z4 : Int32 → Int32 → xm_S → Prop, (∀ x1 x2 S, wp_X7_withinReach_4B h x1 x2 S g Z4 → Z4 x1 x2 S) → Z4 x1 x2 S
set_option maxRecDepth 100000 in
set_option maxHeartbeats 4000000 in
theorem kp_X7_withinReach_4B {K : xm_K} (h : Nat) (x1 : Int32) (x2 : Int32) (S : xm_S) {g : Int32 → xm_S → Prop} {Z4 : Int32 → Int32 → xm_S → Prop} (C : xm_Cx K cX7_withinReach RX7 5 (some (FieldType.int)) rm_X7_withinReach) (N : xm_Nx K) (hg : ∀ v S, g v S → xm_q K (some (xm_i v)) S) (hZ4 : ∀ x1 x2 S, Z4 x1 x2 S → xm_W K 0 0 4 [(0, xm_r (some h)), (1, xm_i x1), (2, xm_i x2)] [] S) (h1 : wp_X7_withinReach_4B h x1 x2 S g Z4) : xm_W K 0 0 4 [(0, xm_r (some h)), (1, xm_i x1), (2, xm_i x2)] [] S := by
  unfold wp_X7_withinReach_4B at h1
  refine x_iload_n C 2 dX7_withinReach_4 rfl rfl ?_
  refine x_aload_n C 0 dX7_withinReach_5 rfl rfl ?_
  obtain ⟨ht26, h1⟩ := h1
  refine x_getf_i (n := h) C rfl ht26 fd_61 (by decide) dX7_withinReach_6 ?_
  refine x_icmp_ge (tgt := 46) C dX7_withinReach_9 (by decide) (fun z9 => ?_) (fun z9 => ?_)
  · have h1 := h1.1 z9
    refine x_iconst (v := (0 : Int32)) C dX7_withinReach_46 (by decide) ?_
    refine x_istore_n (L' := [(2, xm_i (0 : Int32)), (0, xm_r (some h)), (1, xm_i x1)]) C dX7_withinReach_47 rfl (by decide) rfl ?_
    refine x_keep (L' := [(0, xm_r (some h)), (1, xm_i x1), (2, xm_i (0 : Int32))]) C [1, 2, 0] rfl ?_
    exact kp_X7_withinReach_48 h x1 (0 : Int32) S C N hg  h1
  · have h1 := h1.2 z9
    refine x_aload_n C 0 dX7_withinReach_12 rfl rfl ?_
    refine x_getf_i (n := h) C rfl ht26 fd_62 (by decide) dX7_withinReach_13 ?_
    refine x_iload_n C 2 dX7_withinReach_16 rfl rfl ?_
    refine x_ishr C dX7_withinReach_17 ?_
    refine x_iconst (v := (1 : Int32)) C dX7_withinReach_18 (by decide) ?_
    refine x_iand C dX7_withinReach_19 ?_
    refine x_if_eq (tgt := 40) C dX7_withinReach_20 (by decide) (fun z9 => ?_) (fun z9 => ?_)
    · have h1 := h1.1 z9
      exact kp_X7_withinReach_40 h x1 x2 S C N hg hZ4 h1
    · have h1 := h1.2 z9
      refine x_iload_n C 1 dX7_withinReach_23 rfl rfl ?_
      refine x_aload_n C 0 dX7_withinReach_24 rfl rfl ?_
      refine x_getf_r (n := h) C rfl ht26 fd_63 (by decide) dX7_withinReach_25 ?_
      refine x_iload_n C 2 dX7_withinReach_28 rfl rfl ?_
      obtain ⟨n27, hr28, h1⟩ := h1
      obtain ⟨z30, ht29, h1⟩ := h1
      obtain ⟨hi31, h1⟩ := h1
      refine x_aald (n := n27) C hr28 (by decide) rfl ht29 hi31 dX7_withinReach_29 ?_
      obtain ⟨n32, hr33, h1⟩ := h1
      obtain ⟨ht34, h1⟩ := h1
      refine x_getf_i (n := n32) C hr33 ht34 fd_48 (by decide) dX7_withinReach_30 ?_
      refine x_aload_n C 0 dX7_withinReach_33 rfl rfl ?_
      refine x_getf_i (n := h) C rfl ht26 fd_74 (by decide) dX7_withinReach_34 ?_
      refine x_iand C dX7_withinReach_37 ?_
      refine x_ior C dX7_withinReach_38 ?_
      refine x_topi (fun y35 e36 => ?_)
      have h1 := h1 y35 e36
      refine x_istore_n (L' := [(1, xm_i y35), (0, xm_r (some h)), (2, xm_i x2)]) C dX7_withinReach_39 rfl (by decide) rfl ?_
      refine x_keep (L' := [(0, xm_r (some h)), (1, xm_i y35), (2, xm_i x2)]) C [1, 0, 2] rfl ?_
      exact kp_X7_withinReach_40 h y35 x2 S C N hg hZ4 h1
theorem kp_X7_withinReach_4 {K : xm_K} (h : Nat) (x1 : Int32) (x2 : Int32) (S : xm_S) {g : Int32 → xm_S → Prop} (C : xm_Cx K cX7_withinReach RX7 5 (some (FieldType.int)) rm_X7_withinReach) (N : xm_Nx K) (hg : ∀ v S, g v S → xm_q K (some (xm_i v)) S)  (h1 : wp_X7_withinReach_4 h x1 x2 S g) : xm_W K 0 0 4 [(0, xm_r (some h)), (1, xm_i x1), (2, xm_i x2)] [] S :=
  h1 (fun x1 x2 S => xm_W K 0 0 4 [(0, xm_r (some h)), (1, xm_i x1), (2, xm_i x2)] [] S) (fun x1 x2 S hb => kp_X7_withinReach_4B h x1 x2 S C N hg (fun x1 x2 S hz => hz) hb)
def wp_X7_withinReach (h : Nat)  (S : xm_S) (g : Int32 → xm_S → Prop) : Prop :=
  wp_X7_withinReach_4 h (0 : Int32) (0 : Int32) S g
set_option maxRecDepth 100000 in
set_option maxHeartbeats 4000000 in
theorem kp_X7_withinReach {K : xm_K} (h : Nat)  (S : xm_S) {g : Int32 → xm_S → Prop} (C : xm_Cx K cX7_withinReach RX7 5 (some (FieldType.int)) rm_X7_withinReach) (N : xm_Nx K) (hg : ∀ v S, g v S → xm_q K (some (xm_i v)) S)  (h1 : wp_X7_withinReach h  S g) : xm_W K 0 0 0 [(0, xm_r (some h))] [] S := by
  unfold wp_X7_withinReach at h1
  refine x_iconst (v := (0 : Int32)) C dX7_withinReach_0 (by decide) ?_
  refine x_istore_n (L' := [(1, xm_i (0 : Int32)), (0, xm_r (some h))]) C dX7_withinReach_1 rfl (by decide) rfl ?_
  refine x_iconst (v := (0 : Int32)) C dX7_withinReach_2 (by decide) ?_
  refine x_istore_n (L' := [(2, xm_i (0 : Int32)), (1, xm_i (0 : Int32)), (0, xm_r (some h))]) C dX7_withinReach_3 rfl (by decide) rfl ?_
  refine x_keep (L' := [(0, xm_r (some h)), (1, xm_i (0 : Int32)), (2, xm_i (0 : Int32))]) C [2, 1, 0] rfl ?_
  exact kp_X7_withinReach_4 h (0 : Int32) (0 : Int32) S C N hg  h1
theorem kp_X7_withinReach_met {h : Nat}  {S : xm_S} {g : Int32 → xm_S → Prop}  (h1 : wp_X7_withinReach h  S g) : xm_Met yX7_withinReach cX7_withinReach 5 (some (FieldType.int)) rm_X7_withinReach [xm_r (some h)] S (xm_qi g) xm_nox :=
  xm_ofW RX7 (by decide +kernel) rfl (Nat.le_of_ble_eq_true rfl) (fun K C N hq hx hi => kp_X7_withinReach h  S C N (fun v S h => by rw [hq]; exact ⟨v, rfl, h⟩)  h1)
def rm_X7_seek : Room := { frames := 37, cells := 0, slots := 0, locals := 2126 }
theorem dX7_seek_0 : decode cX7_seek 0 = .ok (.aload_n 0, 1) := by decide +kernel
theorem dX7_seek_1 : decode cX7_seek 1 = .ok (.iload_n 1, 1) := by decide +kernel
theorem dX7_seek_2 : decode cX7_seek 2 = .ok (.putfield 36, 3) := by decide +kernel
theorem dX7_seek_5 : decode cX7_seek 5 = .ok (.aload_n 0, 1) := by decide +kernel
theorem dX7_seek_6 : decode cX7_seek 6 = .ok (.iload_n 2, 1) := by decide +kernel
theorem dX7_seek_7 : decode cX7_seek 7 = .ok (.putfield 39, 3) := by decide +kernel
theorem dX7_seek_10 : decode cX7_seek 10 = .ok (.aload_n 0, 1) := by decide +kernel
theorem dX7_seek_11 : decode cX7_seek 11 = .ok (.iconst 0, 1) := by decide +kernel
theorem dX7_seek_12 : decode cX7_seek 12 = .ok (.putfield 57, 3) := by decide +kernel
theorem dX7_seek_15 : decode cX7_seek 15 = .ok (.aload_n 0, 1) := by decide +kernel
theorem dX7_seek_16 : decode cX7_seek 16 = .ok (.iconst 0, 1) := by decide +kernel
theorem dX7_seek_17 : decode cX7_seek 17 = .ok (.putfield 48, 3) := by decide +kernel
theorem dX7_seek_20 : decode cX7_seek 20 = .ok (.aload_n 0, 1) := by decide +kernel
theorem dX7_seek_21 : decode cX7_seek 21 = .ok (.invokevirtual 147, 3) := by decide +kernel
theorem dX7_seek_24 : decode cX7_seek 24 = .ok (.istore_n 3, 1) := by decide +kernel
theorem dX7_seek_25 : decode cX7_seek 25 = .ok (.aload_n 0, 1) := by decide +kernel
theorem dX7_seek_26 : decode cX7_seek 26 = .ok (.getfield 42, 3) := by decide +kernel
theorem dX7_seek_29 : decode cX7_seek 29 = .ok (.bipush 6, 2) := by decide +kernel
theorem dX7_seek_31 : decode cX7_seek 31 = .ok (.iconst 0, 1) := by decide +kernel
theorem dX7_seek_32 : decode cX7_seek 32 = .ok (.iastore, 1) := by decide +kernel
theorem dX7_seek_33 : decode cX7_seek 33 = .ok (.iconst 5, 1) := by decide +kernel
theorem dX7_seek_34 : decode cX7_seek 34 = .ok (.istore 4, 2) := by decide +kernel
theorem dX7_seek_36 : decode cX7_seek 36 = .ok (.iload 4, 2) := by decide +kernel
theorem dX7_seek_38 : decode cX7_seek 38 = .ok (.ifCond .lt 41, 3) := by decide +kernel
theorem dX7_seek_41 : decode cX7_seek 41 = .ok (.aload_n 0, 1) := by decide +kernel
theorem dX7_seek_42 : decode cX7_seek 42 = .ok (.getfield 45, 3) := by decide +kernel
theorem dX7_seek_45 : decode cX7_seek 45 = .ok (.iload 4, 2) := by decide +kernel
theorem dX7_seek_47 : decode cX7_seek 47 = .ok (.iconst (-1), 1) := by decide +kernel
theorem dX7_seek_48 : decode cX7_seek 48 = .ok (.iastore, 1) := by decide +kernel
theorem dX7_seek_49 : decode cX7_seek 49 = .ok (.aload_n 0, 1) := by decide +kernel
theorem dX7_seek_50 : decode cX7_seek 50 = .ok (.getfield 42, 3) := by decide +kernel
theorem dX7_seek_53 : decode cX7_seek 53 = .ok (.iload 4, 2) := by decide +kernel
theorem dX7_seek_55 : decode cX7_seek 55 = .ok (.aload_n 0, 1) := by decide +kernel
theorem dX7_seek_56 : decode cX7_seek 56 = .ok (.getfield 42, 3) := by decide +kernel
theorem dX7_seek_59 : decode cX7_seek 59 = .ok (.iload 4, 2) := by decide +kernel
theorem dX7_seek_61 : decode cX7_seek 61 = .ok (.iconst 1, 1) := by decide +kernel
theorem dX7_seek_62 : decode cX7_seek 62 = .ok (.iadd, 1) := by decide +kernel
theorem dX7_seek_63 : decode cX7_seek 63 = .ok (.iaload, 1) := by decide +kernel
theorem dX7_seek_64 : decode cX7_seek 64 = .ok (.iload_n 3, 1) := by decide +kernel
theorem dX7_seek_65 : decode cX7_seek 65 = .ok (.iload 4, 2) := by decide +kernel
theorem dX7_seek_67 : decode cX7_seek 67 = .ok (.invokestatic 101, 3) := by decide +kernel
theorem dX7_seek_70 : decode cX7_seek 70 = .ok (.iand, 1) := by decide +kernel
theorem dX7_seek_71 : decode cX7_seek 71 = .ok (.ior, 1) := by decide +kernel
theorem dX7_seek_72 : decode cX7_seek 72 = .ok (.iastore, 1) := by decide +kernel
theorem dX7_seek_73 : decode cX7_seek 73 = .ok (.iinc 4 (-1), 3) := by decide +kernel
theorem dX7_seek_76 : decode cX7_seek 76 = .ok (.goto (-40), 3) := by decide +kernel
theorem dX7_seek_79 : decode cX7_seek 79 = .ok (.aload_n 0, 1) := by decide +kernel
theorem dX7_seek_80 : decode cX7_seek 80 = .ok (.iconst 0, 1) := by decide +kernel
theorem dX7_seek_81 : decode cX7_seek 81 = .ok (.iconst 0, 1) := by decide +kernel
theorem dX7_seek_82 : decode cX7_seek 82 = .ok (.iconst 0, 1) := by decide +kernel
theorem dX7_seek_83 : decode cX7_seek 83 = .ok (.invokevirtual 151, 3) := by decide +kernel
theorem dX7_seek_86 : decode cX7_seek 86 = .ok (.aload_n 0, 1) := by decide +kernel
theorem dX7_seek_87 : decode cX7_seek 87 = .ok (.getfield 57, 3) := by decide +kernel
theorem dX7_seek_90 : decode cX7_seek 90 = .ok (.ireturn, 1) := by decide +kernel
def wp_X7_seek_36B (h : Nat) (x3 : Int32) (x4 : Int32) (S : xm_S) (g : Int32 → xm_S → Prop) (Z36 : Int32 → Int32 → xm_S → Prop) : Prop :=
  (x4 < 0 → st_t S h = some (7, 0) ∧ wz_X7_search 8 h (0 : Int32) (0 : Int32) (0 : Int32) S (fun S2 => st_t S2 h = some (7, 0) ∧ g (st_i S2 h 14) S2)) ∧ (¬ x4 < 0 → st_t S h = some (7, 0) ∧ ∃ n6, (st_r S h 10) = some n6 ∧ ∃ z9, st_t S n6 = some (100, z9) ∧ vp_in x4 z9 ∧ ∀ S11, S11 = st_pi S n6 (x4).toNatClampNeg (-1 : Int32) → ∃ n13, (st_r S11 h 9) = some n13 ∧ ∃ z16, st_t S11 n13 = some (100, z16) ∧ vp_in (x4 + (1 : Int32)) z16 ∧ wp_X7_bitsOf x4 S11 (fun r19 S18 => ∃ n20, (st_r S11 h 9) = some n20 ∧ ∃ z23, st_t S18 n20 = some (100, z23) ∧ vp_in x4 z23 ∧ ∀ S25, S25 = st_pi S18 n20 (x4).toNatClampNeg ((st_i S11 n13 ((x4 + (1 : Int32))).toNatClampNeg) ||| (x3 &&& r19)) → ∀ y27, y27 = (x4 + (-1 : Int32)) → Z36 x3 y27 S25))
def wp_X7_seek_36 (h : Nat) (x3 : Int32) (x4 : Int32) (S : xm_S) (g : Int32 → xm_S → Prop) : Prop :=
  ∀ Z36 : Int32 → Int32 → xm_S → Prop, (∀ x3 x4 S, wp_X7_seek_36B h x3 x4 S g Z36 → Z36 x3 x4 S) → Z36 x3 x4 S
set_option maxRecDepth 100000 in
set_option maxHeartbeats 4000000 in
theorem kp_X7_seek_36B {K : xm_K} (h : Nat) (x3 : Int32) (x4 : Int32) (S : xm_S) {g : Int32 → xm_S → Prop} {Z36 : Int32 → Int32 → xm_S → Prop} (C : xm_Cx K cX7_seek RX7 5 (some (FieldType.int)) rm_X7_seek) (N : xm_Nx K) (hg : ∀ v S, g v S → xm_q K (some (xm_i v)) S) (hZ36 : ∀ x3 x4 S, Z36 x3 x4 S → xm_W K 0 0 36 [(0, xm_r (some h)), (3, xm_i x3), (4, xm_i x4)] [] S) (h1 : wp_X7_seek_36B h x3 x4 S g Z36) : xm_W K 0 0 36 [(0, xm_r (some h)), (3, xm_i x3), (4, xm_i x4)] [] S := by
  unfold wp_X7_seek_36B at h1
  refine x_iload C 2 dX7_seek_36 rfl ?_
  refine x_if_lt (tgt := 79) C dX7_seek_38 (by decide) (fun z9 => ?_) (fun z9 => ?_)
  · have h1 := h1.1 z9
    refine x_aload_n C 0 dX7_seek_79 rfl rfl ?_
    refine x_iconst (v := (0 : Int32)) C dX7_seek_80 (by decide) ?_
    refine x_iconst (v := (0 : Int32)) C dX7_seek_81 (by decide) ?_
    refine x_iconst (v := (0 : Int32)) C dX7_seek_82 (by decide) ?_
    obtain ⟨ht1, h1⟩ := h1
    refine x_callV (rm' := (rm_X7_search 8)) (n := h) C (kz_X7_search_met h1) lk_24 gw_188 gw_189 xv_7 rfl rfl ht1 rfl (Nat.le_of_ble_eq_true rfl) ⟨Nat.le_of_ble_eq_true rfl, Nat.le_of_ble_eq_true rfl, (Nat.le_of_ble_eq_true rfl), (Nat.le_of_ble_eq_true rfl)⟩ dX7_seek_83 xm_kx (xm_kv (fun S2 h1 => ?_))
    refine x_aload_n C 0 dX7_seek_86 rfl rfl ?_
    obtain ⟨ht4, h1⟩ := h1
    refine x_getf_i (n := h) C rfl ht4 fd_65 (by decide) dX7_seek_87 ?_
    exact x_iret C (Nat.le_of_ble_eq_true rfl) (Nat.le_of_ble_eq_true rfl) rfl dX7_seek_90 (hg _ _ h1)
  · have h1 := h1.2 z9
    refine x_aload_n C 0 dX7_seek_41 rfl rfl ?_
    obtain ⟨ht5, h1⟩ := h1
    refine x_getf_r (n := h) C rfl ht5 fd_60 (by decide) dX7_seek_42 ?_
    refine x_iload C 2 dX7_seek_45 rfl ?_
    refine x_iconst (v := (-1 : Int32)) C dX7_seek_47 (by decide) ?_
    obtain ⟨n6, hr7, h1⟩ := h1
    obtain ⟨z9, ht8, h1⟩ := h1
    obtain ⟨hi10, h1⟩ := h1
    refine x_iast (n := n6) C hr7 ht8 hi10 dX7_seek_48 ?_
    refine x_topS (fun S11 e12 => ?_)
    have h1 := h1 S11 e12
    refine x_aload_n C 0 dX7_seek_49 rfl rfl ?_
    refine x_getf_r (n := h) C rfl (tk_p e12 ht5) fd_73 (by decide) dX7_seek_50 ?_
    refine x_iload C 2 dX7_seek_53 rfl ?_
    refine x_aload_n C 0 dX7_seek_55 rfl rfl ?_
    refine x_getf_r (n := h) C rfl (tk_p e12 ht5) fd_73 (by decide) dX7_seek_56 ?_
    refine x_iload C 2 dX7_seek_59 rfl ?_
    refine x_iconst (v := (1 : Int32)) C dX7_seek_61 (by decide) ?_
    refine x_iadd C dX7_seek_62 ?_
    obtain ⟨n13, hr14, h1⟩ := h1
    obtain ⟨z16, ht15, h1⟩ := h1
    obtain ⟨hi17, h1⟩ := h1
    refine x_iald (n := n13) C hr14 ht15 hi17 dX7_seek_63 ?_
    refine x_iload_n C 1 dX7_seek_64 rfl rfl ?_
    refine x_iload C 2 dX7_seek_65 rfl ?_
    refine x_callS (rm' := rm_X7_bitsOf) C (kp_X7_bitsOf_met h1) lk_29 gw_212 rfl (Nat.le_of_ble_eq_true rfl) ⟨Nat.le_of_ble_eq_true rfl, Nat.le_of_ble_eq_true rfl, (Nat.le_of_ble_eq_true rfl), (Nat.le_of_ble_eq_true rfl)⟩ dX7_seek_67 xm_kx (xm_ki (fun r19 S18 h1 => ?_))
    refine x_iand C dX7_seek_70 ?_
    refine x_ior C dX7_seek_71 ?_
    obtain ⟨n20, hr21, h1⟩ := h1
    obtain ⟨z23, ht22, h1⟩ := h1
    obtain ⟨hi24, h1⟩ := h1
    refine x_iast (n := n20) C hr21 ht22 hi24 dX7_seek_72 ?_
    refine x_topS (fun S25 e26 => ?_)
    have h1 := h1 S25 e26
    obtain ⟨y27, e28⟩ : ∃ y27, y27 = (x4 + (-1 : Int32)) := ⟨_, rfl⟩
    have h1 := h1 y27 e28
    refine x_iinc (v := y27) (L' := [(4, xm_i y27), (0, xm_r (some h)), (3, xm_i x3)]) C 2 dX7_seek_73 rfl (by rw [e28]; rfl) (by decide) rfl ?_
    refine x_goto (tgt := 36) C dX7_seek_76 (by decide) ?_
    refine x_keep (L' := [(0, xm_r (some h)), (3, xm_i x3), (4, xm_i y27)]) C [1, 2, 0] rfl ?_
    exact hZ36 x3 y27 S25 h1
theorem kp_X7_seek_36 {K : xm_K} (h : Nat) (x3 : Int32) (x4 : Int32) (S : xm_S) {g : Int32 → xm_S → Prop} (C : xm_Cx K cX7_seek RX7 5 (some (FieldType.int)) rm_X7_seek) (N : xm_Nx K) (hg : ∀ v S, g v S → xm_q K (some (xm_i v)) S)  (h1 : wp_X7_seek_36 h x3 x4 S g) : xm_W K 0 0 36 [(0, xm_r (some h)), (3, xm_i x3), (4, xm_i x4)] [] S :=
  h1 (fun x3 x4 S => xm_W K 0 0 36 [(0, xm_r (some h)), (3, xm_i x3), (4, xm_i x4)] [] S) (fun x3 x4 S hb => kp_X7_seek_36B h x3 x4 S C N hg (fun x3 x4 S hz => hz) hb)
def wp_X7_seek (h : Nat) (x1 : Int32) (x2 : Int32) (S : xm_S) (g : Int32 → xm_S → Prop) : Prop :=
  st_t S h = some (7, 0) ∧ ∀ S30, S30 = st_pi S h 7 x1 → ∀ S32, S32 = st_pi S30 h 8 x2 → ∀ S34, S34 = st_pi S32 h 14 (0 : Int32) → ∀ S36, S36 = st_pi S34 h 11 (0 : Int32) → wp_X7_withinReach h S36 (fun r39 S38 => st_t S38 h = some (7, 0) ∧ ∃ n41, (st_r S38 h 9) = some n41 ∧ ∃ z44, st_t S38 n41 = some (100, z44) ∧ vp_in (nI 6) z44 ∧ ∀ S46, S46 = st_pi S38 n41 ((nI 6)).toNatClampNeg (0 : Int32) → wp_X7_seek_36 h r39 (nI 5) S46 g)
set_option maxRecDepth 100000 in
set_option maxHeartbeats 4000000 in
theorem kp_X7_seek {K : xm_K} (h : Nat) (x1 : Int32) (x2 : Int32) (S : xm_S) {g : Int32 → xm_S → Prop} (C : xm_Cx K cX7_seek RX7 5 (some (FieldType.int)) rm_X7_seek) (N : xm_Nx K) (hg : ∀ v S, g v S → xm_q K (some (xm_i v)) S)  (h1 : wp_X7_seek h x1 x2 S g) : xm_W K 0 0 0 [(0, xm_r (some h)), (1, xm_i x1), (2, xm_i x2)] [] S := by
  unfold wp_X7_seek at h1
  refine x_aload_n C 0 dX7_seek_0 rfl rfl ?_
  refine x_iload_n C 1 dX7_seek_1 rfl rfl ?_
  obtain ⟨ht29, h1⟩ := h1
  refine x_putf_i (n := h) C rfl ht29 fd_62 xc_7 (by decide) rfl ⟨rfl, rfl⟩ dX7_seek_2 ?_
  refine x_topS (fun S30 e31 => ?_)
  have h1 := h1 S30 e31
  refine x_aload_n C 0 dX7_seek_5 rfl rfl ?_
  refine x_iload_n C 2 dX7_seek_6 rfl rfl ?_
  refine x_putf_i (n := h) C rfl (tk_p e31 ht29) fd_66 xc_7 (by decide) rfl ⟨rfl, rfl⟩ dX7_seek_7 ?_
  refine x_topS (fun S32 e33 => ?_)
  have h1 := h1 S32 e33
  refine x_aload_n C 0 dX7_seek_10 rfl rfl ?_
  refine x_iconst (v := (0 : Int32)) C dX7_seek_11 (by decide) ?_
  refine x_putf_i (n := h) C rfl (tk_p e33 (tk_p e31 ht29)) fd_65 xc_7 (by decide) rfl ⟨rfl, rfl⟩ dX7_seek_12 ?_
  refine x_topS (fun S34 e35 => ?_)
  have h1 := h1 S34 e35
  refine x_aload_n C 0 dX7_seek_15 rfl rfl ?_
  refine x_iconst (v := (0 : Int32)) C dX7_seek_16 (by decide) ?_
  refine x_putf_i (n := h) C rfl (tk_p e35 (tk_p e33 (tk_p e31 ht29))) fd_70 xc_7 (by decide) rfl ⟨rfl, rfl⟩ dX7_seek_17 ?_
  refine x_topS (fun S36 e37 => ?_)
  have h1 := h1 S36 e37
  refine x_aload_n C 0 dX7_seek_20 rfl rfl ?_
  refine x_callV (rm' := rm_X7_withinReach) (n := h) C (kp_X7_withinReach_met h1) lk_35 gw_245 gw_246 xv_7 rfl rfl (tk_p e37 (tk_p e35 (tk_p e33 (tk_p e31 ht29)))) rfl (Nat.le_of_ble_eq_true rfl) ⟨Nat.le_of_ble_eq_true rfl, Nat.le_of_ble_eq_true rfl, (Nat.le_of_ble_eq_true rfl), (Nat.le_of_ble_eq_true rfl)⟩ dX7_seek_21 xm_kx (xm_ki (fun r39 S38 h1 => ?_))
  refine x_istore_n (L' := [(3, xm_i r39), (0, xm_r (some h)), (1, xm_i x1), (2, xm_i x2)]) C dX7_seek_24 rfl (by decide) rfl ?_
  refine x_aload_n C 1 dX7_seek_25 rfl rfl ?_
  obtain ⟨ht40, h1⟩ := h1
  refine x_getf_r (n := h) C rfl ht40 fd_73 (by decide) dX7_seek_26 ?_
  refine x_bipush (v := (nI 6)) C dX7_seek_29 (by decide) ?_
  refine x_iconst (v := (0 : Int32)) C dX7_seek_31 (by decide) ?_
  obtain ⟨n41, hr42, h1⟩ := h1
  obtain ⟨z44, ht43, h1⟩ := h1
  obtain ⟨hi45, h1⟩ := h1
  refine x_iast (n := n41) C hr42 ht43 hi45 dX7_seek_32 ?_
  refine x_topS (fun S46 e47 => ?_)
  have h1 := h1 S46 e47
  refine x_iconst (v := (nI 5)) C dX7_seek_33 (by decide) ?_
  refine x_istore (L' := [(4, xm_i (nI 5)), (3, xm_i r39), (0, xm_r (some h)), (1, xm_i x1), (2, xm_i x2)]) C dX7_seek_34 (by decide) rfl ?_
  refine x_keep (L' := [(0, xm_r (some h)), (3, xm_i r39), (4, xm_i (nI 5))]) C [2, 1, 0] rfl ?_
  exact kp_X7_seek_36 h r39 (nI 5) S46 C N hg  h1
theorem kp_X7_seek_met {h : Nat} {x1 : Int32} {x2 : Int32} {S : xm_S} {g : Int32 → xm_S → Prop}  (h1 : wp_X7_seek h x1 x2 S g) : xm_Met yX7_seek cX7_seek 5 (some (FieldType.int)) rm_X7_seek [xm_r (some h), xm_i x1, xm_i x2] S (xm_qi g) xm_nox :=
  xm_ofW RX7 (by decide +kernel) rfl (Nat.le_of_ble_eq_true rfl) (fun K C N hq hx hi => kp_X7_seek h x1 x2 S C N (fun v S h => by rw [hq]; exact ⟨v, rfl, h⟩)  h1)
def rm_X7_study : Room := { frames := 5, cells := 0, slots := 0, locals := 120 }
theorem dX7_study_0 : decode cX7_study 0 = .ok (.aload_n 0, 1) := by decide +kernel
theorem dX7_study_1 : decode cX7_study 1 = .ok (.aload_n 1, 1) := by decide +kernel
theorem dX7_study_2 : decode cX7_study 2 = .ok (.putfield 9, 3) := by decide +kernel
theorem dX7_study_5 : decode cX7_study 5 = .ok (.aload_n 0, 1) := by decide +kernel
theorem dX7_study_6 : decode cX7_study 6 = .ok (.aload_n 2, 1) := by decide +kernel
theorem dX7_study_7 : decode cX7_study 7 = .ok (.putfield 15, 3) := by decide +kernel
theorem dX7_study_10 : decode cX7_study 10 = .ok (.aload_n 0, 1) := by decide +kernel
theorem dX7_study_11 : decode cX7_study 11 = .ok (.iload_n 3, 1) := by decide +kernel
theorem dX7_study_12 : decode cX7_study 12 = .ok (.putfield 19, 3) := by decide +kernel
theorem dX7_study_15 : decode cX7_study 15 = .ok (.aload_n 0, 1) := by decide +kernel
theorem dX7_study_16 : decode cX7_study 16 = .ok (.iconst 1, 1) := by decide +kernel
theorem dX7_study_17 : decode cX7_study 17 = .ok (.iload 4, 2) := by decide +kernel
theorem dX7_study_19 : decode cX7_study 19 = .ok (.ishl, 1) := by decide +kernel
theorem dX7_study_20 : decode cX7_study 20 = .ok (.putfield 23, 3) := by decide +kernel
theorem dX7_study_23 : decode cX7_study 23 = .ok (.iconst 0, 1) := by decide +kernel
theorem dX7_study_24 : decode cX7_study 24 = .ok (.istore 5, 2) := by decide +kernel
theorem dX7_study_26 : decode cX7_study 26 = .ok (.iload 5, 2) := by decide +kernel
theorem dX7_study_28 : decode cX7_study 28 = .ok (.bipush 24, 2) := by decide +kernel
theorem dX7_study_30 : decode cX7_study 30 = .ok (.if_icmp .ge 17, 3) := by decide +kernel
theorem dX7_study_33 : decode cX7_study 33 = .ok (.aload_n 0, 1) := by decide +kernel
theorem dX7_study_34 : decode cX7_study 34 = .ok (.getfield 26, 3) := by decide +kernel
theorem dX7_study_37 : decode cX7_study 37 = .ok (.iload 5, 2) := by decide +kernel
theorem dX7_study_39 : decode cX7_study 39 = .ok (.iconst 0, 1) := by decide +kernel
theorem dX7_study_40 : decode cX7_study 40 = .ok (.iastore, 1) := by decide +kernel
theorem dX7_study_41 : decode cX7_study 41 = .ok (.iinc 5 1, 3) := by decide +kernel
theorem dX7_study_44 : decode cX7_study 44 = .ok (.goto (-18), 3) := by decide +kernel
theorem dX7_study_47 : decode cX7_study 47 = .ok (.iconst 0, 1) := by decide +kernel
theorem dX7_study_48 : decode cX7_study 48 = .ok (.istore 5, 2) := by decide +kernel
theorem dX7_study_50 : decode cX7_study 50 = .ok (.iload 5, 2) := by decide +kernel
theorem dX7_study_52 : decode cX7_study 52 = .ok (.iload_n 3, 1) := by decide +kernel
theorem dX7_study_53 : decode cX7_study 53 = .ok (.if_icmp .ge 24, 3) := by decide +kernel
theorem dX7_study_56 : decode cX7_study 56 = .ok (.aload_n 2, 1) := by decide +kernel
theorem dX7_study_57 : decode cX7_study 57 = .ok (.iload 5, 2) := by decide +kernel
theorem dX7_study_59 : decode cX7_study 59 = .ok (.aaload, 1) := by decide +kernel
theorem dX7_study_60 : decode cX7_study 60 = .ok (.aload_n 0, 1) := by decide +kernel
theorem dX7_study_61 : decode cX7_study 61 = .ok (.aload_n 2, 1) := by decide +kernel
theorem dX7_study_62 : decode cX7_study 62 = .ok (.iload 5, 2) := by decide +kernel
theorem dX7_study_64 : decode cX7_study 64 = .ok (.aaload, 1) := by decide +kernel
theorem dX7_study_65 : decode cX7_study 65 = .ok (.invokevirtual 69, 3) := by decide +kernel
theorem dX7_study_68 : decode cX7_study 68 = .ok (.putfield 73, 3) := by decide +kernel
theorem dX7_study_71 : decode cX7_study 71 = .ok (.iinc 5 1, 3) := by decide +kernel
theorem dX7_study_74 : decode cX7_study 74 = .ok (.goto (-24), 3) := by decide +kernel
theorem dX7_study_77 : decode cX7_study 77 = .ok (.iconst 0, 1) := by decide +kernel
theorem dX7_study_78 : decode cX7_study 78 = .ok (.istore 5, 2) := by decide +kernel
theorem dX7_study_80 : decode cX7_study 80 = .ok (.iload 5, 2) := by decide +kernel
theorem dX7_study_82 : decode cX7_study 82 = .ok (.bipush 6, 2) := by decide +kernel
theorem dX7_study_84 : decode cX7_study 84 = .ok (.if_icmp .ge 131, 3) := by decide +kernel
theorem dX7_study_87 : decode cX7_study 87 = .ok (.iconst 0, 1) := by decide +kernel
theorem dX7_study_88 : decode cX7_study 88 = .ok (.istore 6, 2) := by decide +kernel
theorem dX7_study_90 : decode cX7_study 90 = .ok (.iload 6, 2) := by decide +kernel
theorem dX7_study_92 : decode cX7_study 92 = .ok (.aload_n 1, 1) := by decide +kernel
theorem dX7_study_93 : decode cX7_study 93 = .ok (.iload 5, 2) := by decide +kernel
theorem dX7_study_95 : decode cX7_study 95 = .ok (.aaload, 1) := by decide +kernel
theorem dX7_study_96 : decode cX7_study 96 = .ok (.getfield 78, 3) := by decide +kernel
theorem dX7_study_99 : decode cX7_study 99 = .ok (.if_icmp .ge 110, 3) := by decide +kernel
theorem dX7_study_102 : decode cX7_study 102 = .ok (.aload_n 1, 1) := by decide +kernel
theorem dX7_study_103 : decode cX7_study 103 = .ok (.iload 5, 2) := by decide +kernel
theorem dX7_study_105 : decode cX7_study 105 = .ok (.aaload, 1) := by decide +kernel
theorem dX7_study_106 : decode cX7_study 106 = .ok (.getfield 83, 3) := by decide +kernel
theorem dX7_study_109 : decode cX7_study 109 = .ok (.iload 6, 2) := by decide +kernel
theorem dX7_study_111 : decode cX7_study 111 = .ok (.aaload, 1) := by decide +kernel
theorem dX7_study_112 : decode cX7_study 112 = .ok (.astore 7, 2) := by decide +kernel
theorem dX7_study_114 : decode cX7_study 114 = .ok (.iconst 0, 1) := by decide +kernel
theorem dX7_study_115 : decode cX7_study 115 = .ok (.istore 8, 2) := by decide +kernel
theorem dX7_study_117 : decode cX7_study 117 = .ok (.iload 8, 2) := by decide +kernel
theorem dX7_study_119 : decode cX7_study 119 = .ok (.aload 7, 2) := by decide +kernel
theorem dX7_study_121 : decode cX7_study 121 = .ok (.getfield 87, 3) := by decide +kernel
theorem dX7_study_124 : decode cX7_study 124 = .ok (.if_icmp .ge 32, 3) := by decide +kernel
theorem dX7_study_127 : decode cX7_study 127 = .ok (.aload 7, 2) := by decide +kernel
theorem dX7_study_129 : decode cX7_study 129 = .ok (.getfield 92, 3) := by decide +kernel
theorem dX7_study_132 : decode cX7_study 132 = .ok (.iload 8, 2) := by decide +kernel
theorem dX7_study_134 : decode cX7_study 134 = .ok (.aaload, 1) := by decide +kernel
theorem dX7_study_135 : decode cX7_study 135 = .ok (.aload_n 0, 1) := by decide +kernel
theorem dX7_study_136 : decode cX7_study 136 = .ok (.aload 7, 2) := by decide +kernel
theorem dX7_study_138 : decode cX7_study 138 = .ok (.getfield 92, 3) := by decide +kernel
theorem dX7_study_141 : decode cX7_study 141 = .ok (.iload 8, 2) := by decide +kernel
theorem dX7_study_143 : decode cX7_study 143 = .ok (.aaload, 1) := by decide +kernel
theorem dX7_study_144 : decode cX7_study 144 = .ok (.invokevirtual 69, 3) := by decide +kernel
theorem dX7_study_147 : decode cX7_study 147 = .ok (.putfield 73, 3) := by decide +kernel
theorem dX7_study_150 : decode cX7_study 150 = .ok (.iinc 8 1, 3) := by decide +kernel
theorem dX7_study_153 : decode cX7_study 153 = .ok (.goto (-36), 3) := by decide +kernel
theorem dX7_study_156 : decode cX7_study 156 = .ok (.iconst 0, 1) := by decide +kernel
theorem dX7_study_157 : decode cX7_study 157 = .ok (.istore 8, 2) := by decide +kernel
theorem dX7_study_159 : decode cX7_study 159 = .ok (.iload 8, 2) := by decide +kernel
theorem dX7_study_161 : decode cX7_study 161 = .ok (.aload 7, 2) := by decide +kernel
theorem dX7_study_163 : decode cX7_study 163 = .ok (.getfield 95, 3) := by decide +kernel
theorem dX7_study_166 : decode cX7_study 166 = .ok (.if_icmp .ge 37, 3) := by decide +kernel
theorem dX7_study_169 : decode cX7_study 169 = .ok (.aload_n 0, 1) := by decide +kernel
theorem dX7_study_170 : decode cX7_study 170 = .ok (.iload 5, 2) := by decide +kernel
theorem dX7_study_172 : decode cX7_study 172 = .ok (.iload 6, 2) := by decide +kernel
theorem dX7_study_174 : decode cX7_study 174 = .ok (.aload_n 0, 1) := by decide +kernel
theorem dX7_study_175 : decode cX7_study 175 = .ok (.aload 7, 2) := by decide +kernel
theorem dX7_study_177 : decode cX7_study 177 = .ok (.getfield 98, 3) := by decide +kernel
theorem dX7_study_180 : decode cX7_study 180 = .ok (.iload 8, 2) := by decide +kernel
theorem dX7_study_182 : decode cX7_study 182 = .ok (.aaload, 1) := by decide +kernel
theorem dX7_study_183 : decode cX7_study 183 = .ok (.invokevirtual 69, 3) := by decide +kernel
theorem dX7_study_186 : decode cX7_study 186 = .ok (.iload 5, 2) := by decide +kernel
theorem dX7_study_188 : decode cX7_study 188 = .ok (.invokestatic 101, 3) := by decide +kernel
theorem dX7_study_191 : decode cX7_study 191 = .ok (.iconst (-1), 1) := by decide +kernel
theorem dX7_study_192 : decode cX7_study 192 = .ok (.ixor, 1) := by decide +kernel
theorem dX7_study_193 : decode cX7_study 193 = .ok (.iand, 1) := by decide +kernel
theorem dX7_study_194 : decode cX7_study 194 = .ok (.invokevirtual 105, 3) := by decide +kernel
theorem dX7_study_197 : decode cX7_study 197 = .ok (.iinc 8 1, 3) := by decide +kernel
theorem dX7_study_200 : decode cX7_study 200 = .ok (.goto (-41), 3) := by decide +kernel
theorem dX7_study_203 : decode cX7_study 203 = .ok (.iinc 6 1, 3) := by decide +kernel
theorem dX7_study_206 : decode cX7_study 206 = .ok (.goto (-116), 3) := by decide +kernel
theorem dX7_study_209 : decode cX7_study 209 = .ok (.iinc 5 1, 3) := by decide +kernel
theorem dX7_study_212 : decode cX7_study 212 = .ok (.goto (-132), 3) := by decide +kernel
theorem dX7_study_215 : decode cX7_study 215 = .ok (.return_, 1) := by decide +kernel
def wp_X7_study_159B (h : Nat) (x1 : Option Nat) (x5 : Int32) (x6 : Int32) (x7 : Option Nat) (x8 : Int32) (S : xm_S) (g : xm_S → Prop) (Z80 : Option Nat → Int32 → xm_S → Prop) (Z90 : Option Nat → Int32 → Int32 → xm_S → Prop) (Z159 : Option Nat → Int32 → Int32 → Option Nat → Int32 → xm_S → Prop) : Prop :=
  ∃ n1, x7 = some n1 ∧ st_t S n1 = some (10, 0) ∧ ((st_i S n1 9) ≤ x8 → ∀ y4, y4 = (x6 + (1 : Int32)) → Z90 x1 x5 y4 S) ∧ (¬ (st_i S n1 9) ≤ x8 → ∃ n6, x7 = some n6 ∧ st_t S n6 = some (10, 0) ∧ ∃ n9, (st_r S n6 8) = some n9 ∧ ∃ z12, st_t S n9 = some (114, z12) ∧ vp_in x8 z12 ∧ st_t S h = some (7, 0) ∧ wp_X7_meeting h (st_r S n9 (x8).toNatClampNeg) S (fun r16 S15 => wp_X7_bitsOf x5 S15 (fun r18 S17 => st_t S17 h = some (7, 0) ∧ wp_X7_part h x5 x6 (r16 &&& (r18 ^^^ (-1 : Int32))) S17 (fun S20 => ∀ y22, y22 = (x8 + (1 : Int32)) → Z159 x1 x5 x6 x7 y22 S20))))
def wp_X7_study_159 (h : Nat) (x1 : Option Nat) (x5 : Int32) (x6 : Int32) (x7 : Option Nat) (x8 : Int32) (S : xm_S) (g : xm_S → Prop) (Z80 : Option Nat → Int32 → xm_S → Prop) (Z90 : Option Nat → Int32 → Int32 → xm_S → Prop) : Prop :=
  ∀ Z159 : Option Nat → Int32 → Int32 → Option Nat → Int32 → xm_S → Prop, (∀ x1 x5 x6 x7 x8 S, wp_X7_study_159B h x1 x5 x6 x7 x8 S g Z80 Z90 Z159 → Z159 x1 x5 x6 x7 x8 S) → Z159 x1 x5 x6 x7 x8 S
set_option maxRecDepth 100000 in
set_option maxHeartbeats 4000000 in
theorem kp_X7_study_159B {K : xm_K} (h : Nat) (x1 : Option Nat) (x5 : Int32) (x6 : Int32) (x7 : Option Nat) (x8 : Int32) (S : xm_S) {g : xm_S → Prop} {Z80 : Option Nat → Int32 → xm_S → Prop} {Z90 : Option Nat → Int32 → Int32 → xm_S → Prop} {Z159 : Option Nat → Int32 → Int32 → Option Nat → Int32 → xm_S → Prop} (C : xm_Cx K cX7_study RX7 9 none rm_X7_study) (N : xm_Nx K) (hg : ∀ S, g S → xm_q K none S) (hZ80 : ∀ x1 x5 S, Z80 x1 x5 S → xm_W K 0 0 80 [(0, xm_r (some h)), (1, xm_r x1), (5, xm_i x5)] [] S) (hZ90 : ∀ x1 x5 x6 S, Z90 x1 x5 x6 S → xm_W K 0 0 90 [(0, xm_r (some h)), (1, xm_r x1), (5, xm_i x5), (6, xm_i x6)] [] S) (hZ159 : ∀ x1 x5 x6 x7 x8 S, Z159 x1 x5 x6 x7 x8 S → xm_W K 0 0 159 [(0, xm_r (some h)), (1, xm_r x1), (5, xm_i x5), (6, xm_i x6), (7, xm_r x7), (8, xm_i x8)] [] S) (h1 : wp_X7_study_159B h x1 x5 x6 x7 x8 S g Z80 Z90 Z159) : xm_W K 0 0 159 [(0, xm_r (some h)), (1, xm_r x1), (5, xm_i x5), (6, xm_i x6), (7, xm_r x7), (8, xm_i x8)] [] S := by
  unfold wp_X7_study_159B at h1
  refine x_iload C 5 dX7_study_159 rfl ?_
  refine x_aload C 4 dX7_study_161 rfl ?_
  obtain ⟨n1, hr2, h1⟩ := h1
  obtain ⟨ht3, h1⟩ := h1
  refine x_getf_i (n := n1) C hr2 ht3 fd_84 (by decide) dX7_study_163 ?_
  refine x_icmp_ge (tgt := 203) C dX7_study_166 (by decide) (fun z9 => ?_) (fun z9 => ?_)
  · have h1 := h1.1 z9
    obtain ⟨y4, e5⟩ : ∃ y4, y4 = (x6 + (1 : Int32)) := ⟨_, rfl⟩
    have h1 := h1 y4 e5
    refine x_iinc (v := y4) (L' := [(6, xm_i y4), (0, xm_r (some h)), (1, xm_r x1), (5, xm_i x5), (7, xm_r x7), (8, xm_i x8)]) C 3 dX7_study_203 rfl (by rw [e5]; rfl) (by decide) rfl ?_
    refine x_goto (tgt := 90) C dX7_study_206 (by decide) ?_
    refine x_keep (L' := [(0, xm_r (some h)), (1, xm_r x1), (5, xm_i x5), (6, xm_i y4)]) C [1, 2, 3, 0] rfl ?_
    exact hZ90 x1 x5 y4 S h1
  · have h1 := h1.2 z9
    refine x_aload_n C 0 dX7_study_169 rfl rfl ?_
    refine x_iload C 2 dX7_study_170 rfl ?_
    refine x_iload C 3 dX7_study_172 rfl ?_
    refine x_aload_n C 0 dX7_study_174 rfl rfl ?_
    refine x_aload C 4 dX7_study_175 rfl ?_
    obtain ⟨n6, hr7, h1⟩ := h1
    obtain ⟨ht8, h1⟩ := h1
    refine x_getf_r (n := n6) C hr7 ht8 fd_85 (by decide) dX7_study_177 ?_
    refine x_iload C 5 dX7_study_180 rfl ?_
    obtain ⟨n9, hr10, h1⟩ := h1
    obtain ⟨z12, ht11, h1⟩ := h1
    obtain ⟨hi13, h1⟩ := h1
    refine x_aald (n := n9) C hr10 (by decide) rfl ht11 hi13 dX7_study_182 ?_
    obtain ⟨ht14, h1⟩ := h1
    refine x_callV (rm' := rm_X7_meeting) (n := h) C (kp_X7_meeting_met h1) lk_36 gw_251 gw_252 xv_7 rfl rfl ht14 rfl (Nat.le_of_ble_eq_true rfl) ⟨Nat.le_of_ble_eq_true rfl, Nat.le_of_ble_eq_true rfl, (Nat.le_of_ble_eq_true rfl), (Nat.le_of_ble_eq_true rfl)⟩ dX7_study_183 xm_kx (xm_ki (fun r16 S15 h1 => ?_))
    refine x_iload C 2 dX7_study_186 rfl ?_
    refine x_callS (rm' := rm_X7_bitsOf) C (kp_X7_bitsOf_met h1) lk_29 gw_212 rfl (Nat.le_of_ble_eq_true rfl) ⟨Nat.le_of_ble_eq_true rfl, Nat.le_of_ble_eq_true rfl, (Nat.le_of_ble_eq_true rfl), (Nat.le_of_ble_eq_true rfl)⟩ dX7_study_188 xm_kx (xm_ki (fun r18 S17 h1 => ?_))
    refine x_iconst (v := (-1 : Int32)) C dX7_study_191 (by decide) ?_
    refine x_ixor C dX7_study_192 ?_
    refine x_iand C dX7_study_193 ?_
    obtain ⟨ht19, h1⟩ := h1
    refine x_callV (rm' := rm_X7_part) (n := h) C (kp_X7_part_met h1) lk_37 gw_255 gw_256 xv_7 rfl rfl ht19 rfl (Nat.le_of_ble_eq_true rfl) ⟨Nat.le_of_ble_eq_true rfl, Nat.le_of_ble_eq_true rfl, (Nat.le_of_ble_eq_true rfl), (Nat.le_of_ble_eq_true rfl)⟩ dX7_study_194 xm_kx (xm_kv (fun S20 h1 => ?_))
    obtain ⟨y22, e23⟩ : ∃ y22, y22 = (x8 + (1 : Int32)) := ⟨_, rfl⟩
    have h1 := h1 y22 e23
    refine x_iinc (v := y22) (L' := [(8, xm_i y22), (0, xm_r (some h)), (1, xm_r x1), (5, xm_i x5), (6, xm_i x6), (7, xm_r x7)]) C 5 dX7_study_197 rfl (by rw [e23]; rfl) (by decide) rfl ?_
    refine x_goto (tgt := 159) C dX7_study_200 (by decide) ?_
    refine x_keep (L' := [(0, xm_r (some h)), (1, xm_r x1), (5, xm_i x5), (6, xm_i x6), (7, xm_r x7), (8, xm_i y22)]) C [1, 2, 3, 4, 5, 0] rfl ?_
    exact hZ159 x1 x5 x6 x7 y22 S20 h1
theorem kp_X7_study_159 {K : xm_K} (h : Nat) (x1 : Option Nat) (x5 : Int32) (x6 : Int32) (x7 : Option Nat) (x8 : Int32) (S : xm_S) {g : xm_S → Prop} {Z80 : Option Nat → Int32 → xm_S → Prop} {Z90 : Option Nat → Int32 → Int32 → xm_S → Prop} (C : xm_Cx K cX7_study RX7 9 none rm_X7_study) (N : xm_Nx K) (hg : ∀ S, g S → xm_q K none S) (hZ80 : ∀ x1 x5 S, Z80 x1 x5 S → xm_W K 0 0 80 [(0, xm_r (some h)), (1, xm_r x1), (5, xm_i x5)] [] S) (hZ90 : ∀ x1 x5 x6 S, Z90 x1 x5 x6 S → xm_W K 0 0 90 [(0, xm_r (some h)), (1, xm_r x1), (5, xm_i x5), (6, xm_i x6)] [] S) (h1 : wp_X7_study_159 h x1 x5 x6 x7 x8 S g Z80 Z90) : xm_W K 0 0 159 [(0, xm_r (some h)), (1, xm_r x1), (5, xm_i x5), (6, xm_i x6), (7, xm_r x7), (8, xm_i x8)] [] S :=
  h1 (fun x1 x5 x6 x7 x8 S => xm_W K 0 0 159 [(0, xm_r (some h)), (1, xm_r x1), (5, xm_i x5), (6, xm_i x6), (7, xm_r x7), (8, xm_i x8)] [] S) (fun x1 x5 x6 x7 x8 S hb => kp_X7_study_159B h x1 x5 x6 x7 x8 S C N hg hZ80 hZ90 (fun x1 x5 x6 x7 x8 S hz => hz) hb)
def wp_X7_study_117B (h : Nat) (x1 : Option Nat) (x5 : Int32) (x6 : Int32) (x7 : Option Nat) (x8 : Int32) (S : xm_S) (g : xm_S → Prop) (Z80 : Option Nat → Int32 → xm_S → Prop) (Z90 : Option Nat → Int32 → Int32 → xm_S → Prop) (Z117 : Option Nat → Int32 → Int32 → Option Nat → Int32 → xm_S → Prop) : Prop :=
  ∃ n24, x7 = some n24 ∧ st_t S n24 = some (10, 0) ∧ ((st_i S n24 7) ≤ x8 → wp_X7_study_159 h x1 x5 x6 x7 (0 : Int32) S g Z80 Z90) ∧ (¬ (st_i S n24 7) ≤ x8 → ∃ n27, x7 = some n27 ∧ st_t S n27 = some (10, 0) ∧ ∃ n30, (st_r S n27 6) = some n30 ∧ ∃ z33, st_t S n30 = some (114, z33) ∧ vp_in x8 z33 ∧ ∃ n35, x7 = some n35 ∧ st_t S n35 = some (10, 0) ∧ ∃ n38, (st_r S n35 6) = some n38 ∧ ∃ z41, st_t S n38 = some (114, z41) ∧ vp_in x8 z41 ∧ st_t S h = some (7, 0) ∧ wp_X7_meeting h (st_r S n38 (x8).toNatClampNeg) S (fun r45 S44 => ∃ n46, (st_r S n30 (x8).toNatClampNeg) = some n46 ∧ st_t S44 n46 = some (4, 0) ∧ ∀ S49, S49 = st_pi S44 n46 5 r45 → ∀ y51, y51 = (x8 + (1 : Int32)) → Z117 x1 x5 x6 x7 y51 S49))
def wp_X7_study_117 (h : Nat) (x1 : Option Nat) (x5 : Int32) (x6 : Int32) (x7 : Option Nat) (x8 : Int32) (S : xm_S) (g : xm_S → Prop) (Z80 : Option Nat → Int32 → xm_S → Prop) (Z90 : Option Nat → Int32 → Int32 → xm_S → Prop) : Prop :=
  ∀ Z117 : Option Nat → Int32 → Int32 → Option Nat → Int32 → xm_S → Prop, (∀ x1 x5 x6 x7 x8 S, wp_X7_study_117B h x1 x5 x6 x7 x8 S g Z80 Z90 Z117 → Z117 x1 x5 x6 x7 x8 S) → Z117 x1 x5 x6 x7 x8 S
set_option maxRecDepth 100000 in
set_option maxHeartbeats 4000000 in
theorem kp_X7_study_117B {K : xm_K} (h : Nat) (x1 : Option Nat) (x5 : Int32) (x6 : Int32) (x7 : Option Nat) (x8 : Int32) (S : xm_S) {g : xm_S → Prop} {Z80 : Option Nat → Int32 → xm_S → Prop} {Z90 : Option Nat → Int32 → Int32 → xm_S → Prop} {Z117 : Option Nat → Int32 → Int32 → Option Nat → Int32 → xm_S → Prop} (C : xm_Cx K cX7_study RX7 9 none rm_X7_study) (N : xm_Nx K) (hg : ∀ S, g S → xm_q K none S) (hZ80 : ∀ x1 x5 S, Z80 x1 x5 S → xm_W K 0 0 80 [(0, xm_r (some h)), (1, xm_r x1), (5, xm_i x5)] [] S) (hZ90 : ∀ x1 x5 x6 S, Z90 x1 x5 x6 S → xm_W K 0 0 90 [(0, xm_r (some h)), (1, xm_r x1), (5, xm_i x5), (6, xm_i x6)] [] S) (hZ117 : ∀ x1 x5 x6 x7 x8 S, Z117 x1 x5 x6 x7 x8 S → xm_W K 0 0 117 [(0, xm_r (some h)), (1, xm_r x1), (5, xm_i x5), (6, xm_i x6), (7, xm_r x7), (8, xm_i x8)] [] S) (h1 : wp_X7_study_117B h x1 x5 x6 x7 x8 S g Z80 Z90 Z117) : xm_W K 0 0 117 [(0, xm_r (some h)), (1, xm_r x1), (5, xm_i x5), (6, xm_i x6), (7, xm_r x7), (8, xm_i x8)] [] S := by
  unfold wp_X7_study_117B at h1
  refine x_iload C 5 dX7_study_117 rfl ?_
  refine x_aload C 4 dX7_study_119 rfl ?_
  obtain ⟨n24, hr25, h1⟩ := h1
  obtain ⟨ht26, h1⟩ := h1
  refine x_getf_i (n := n24) C hr25 ht26 fd_55 (by decide) dX7_study_121 ?_
  refine x_icmp_ge (tgt := 156) C dX7_study_124 (by decide) (fun z9 => ?_) (fun z9 => ?_)
  · have h1 := h1.1 z9
    refine x_iconst (v := (0 : Int32)) C dX7_study_156 (by decide) ?_
    refine x_istore (L' := [(8, xm_i (0 : Int32)), (0, xm_r (some h)), (1, xm_r x1), (5, xm_i x5), (6, xm_i x6), (7, xm_r x7)]) C dX7_study_157 (by decide) rfl ?_
    refine x_keep (L' := [(0, xm_r (some h)), (1, xm_r x1), (5, xm_i x5), (6, xm_i x6), (7, xm_r x7), (8, xm_i (0 : Int32))]) C [1, 2, 3, 4, 5, 0] rfl ?_
    exact kp_X7_study_159 h x1 x5 x6 x7 (0 : Int32) S C N hg hZ80 hZ90 h1
  · have h1 := h1.2 z9
    refine x_aload C 4 dX7_study_127 rfl ?_
    obtain ⟨n27, hr28, h1⟩ := h1
    obtain ⟨ht29, h1⟩ := h1
    refine x_getf_r (n := n27) C hr28 ht29 fd_56 (by decide) dX7_study_129 ?_
    refine x_iload C 5 dX7_study_132 rfl ?_
    obtain ⟨n30, hr31, h1⟩ := h1
    obtain ⟨z33, ht32, h1⟩ := h1
    obtain ⟨hi34, h1⟩ := h1
    refine x_aald (n := n30) C hr31 (by decide) rfl ht32 hi34 dX7_study_134 ?_
    refine x_aload_n C 0 dX7_study_135 rfl rfl ?_
    refine x_aload C 4 dX7_study_136 rfl ?_
    obtain ⟨n35, hr36, h1⟩ := h1
    obtain ⟨ht37, h1⟩ := h1
    refine x_getf_r (n := n35) C hr36 ht37 fd_56 (by decide) dX7_study_138 ?_
    refine x_iload C 5 dX7_study_141 rfl ?_
    obtain ⟨n38, hr39, h1⟩ := h1
    obtain ⟨z41, ht40, h1⟩ := h1
    obtain ⟨hi42, h1⟩ := h1
    refine x_aald (n := n38) C hr39 (by decide) rfl ht40 hi42 dX7_study_143 ?_
    obtain ⟨ht43, h1⟩ := h1
    refine x_callV (rm' := rm_X7_meeting) (n := h) C (kp_X7_meeting_met h1) lk_36 gw_251 gw_252 xv_7 rfl rfl ht43 rfl (Nat.le_of_ble_eq_true rfl) ⟨Nat.le_of_ble_eq_true rfl, Nat.le_of_ble_eq_true rfl, (Nat.le_of_ble_eq_true rfl), (Nat.le_of_ble_eq_true rfl)⟩ dX7_study_144 xm_kx (xm_ki (fun r45 S44 h1 => ?_))
    obtain ⟨n46, hr47, h1⟩ := h1
    obtain ⟨ht48, h1⟩ := h1
    refine x_putf_i (n := n46) C hr47 ht48 fd_48 xc_4 (by decide) rfl ⟨rfl, rfl⟩ dX7_study_147 ?_
    refine x_topS (fun S49 e50 => ?_)
    have h1 := h1 S49 e50
    obtain ⟨y51, e52⟩ : ∃ y51, y51 = (x8 + (1 : Int32)) := ⟨_, rfl⟩
    have h1 := h1 y51 e52
    refine x_iinc (v := y51) (L' := [(8, xm_i y51), (0, xm_r (some h)), (1, xm_r x1), (5, xm_i x5), (6, xm_i x6), (7, xm_r x7)]) C 5 dX7_study_150 rfl (by rw [e52]; rfl) (by decide) rfl ?_
    refine x_goto (tgt := 117) C dX7_study_153 (by decide) ?_
    refine x_keep (L' := [(0, xm_r (some h)), (1, xm_r x1), (5, xm_i x5), (6, xm_i x6), (7, xm_r x7), (8, xm_i y51)]) C [1, 2, 3, 4, 5, 0] rfl ?_
    exact hZ117 x1 x5 x6 x7 y51 S49 h1
theorem kp_X7_study_117 {K : xm_K} (h : Nat) (x1 : Option Nat) (x5 : Int32) (x6 : Int32) (x7 : Option Nat) (x8 : Int32) (S : xm_S) {g : xm_S → Prop} {Z80 : Option Nat → Int32 → xm_S → Prop} {Z90 : Option Nat → Int32 → Int32 → xm_S → Prop} (C : xm_Cx K cX7_study RX7 9 none rm_X7_study) (N : xm_Nx K) (hg : ∀ S, g S → xm_q K none S) (hZ80 : ∀ x1 x5 S, Z80 x1 x5 S → xm_W K 0 0 80 [(0, xm_r (some h)), (1, xm_r x1), (5, xm_i x5)] [] S) (hZ90 : ∀ x1 x5 x6 S, Z90 x1 x5 x6 S → xm_W K 0 0 90 [(0, xm_r (some h)), (1, xm_r x1), (5, xm_i x5), (6, xm_i x6)] [] S) (h1 : wp_X7_study_117 h x1 x5 x6 x7 x8 S g Z80 Z90) : xm_W K 0 0 117 [(0, xm_r (some h)), (1, xm_r x1), (5, xm_i x5), (6, xm_i x6), (7, xm_r x7), (8, xm_i x8)] [] S :=
  h1 (fun x1 x5 x6 x7 x8 S => xm_W K 0 0 117 [(0, xm_r (some h)), (1, xm_r x1), (5, xm_i x5), (6, xm_i x6), (7, xm_r x7), (8, xm_i x8)] [] S) (fun x1 x5 x6 x7 x8 S hb => kp_X7_study_117B h x1 x5 x6 x7 x8 S C N hg hZ80 hZ90 (fun x1 x5 x6 x7 x8 S hz => hz) hb)
def wp_X7_study_90B (h : Nat) (x1 : Option Nat) (x5 : Int32) (x6 : Int32) (S : xm_S) (g : xm_S → Prop) (Z80 : Option Nat → Int32 → xm_S → Prop) (Z90 : Option Nat → Int32 → Int32 → xm_S → Prop) : Prop :=
  ∃ n53, x1 = some n53 ∧ ∃ z56, st_t S n53 = some (115, z56) ∧ vp_in x5 z56 ∧ ∃ n58, (st_r S n53 (x5).toNatClampNeg) = some n58 ∧ st_t S n58 = some (5, 0) ∧ ((st_i S n58 2) ≤ x6 → ∀ y61, y61 = (x5 + (1 : Int32)) → Z80 x1 y61 S) ∧ (¬ (st_i S n58 2) ≤ x6 → ∃ n63, x1 = some n63 ∧ ∃ z66, st_t S n63 = some (115, z66) ∧ vp_in x5 z66 ∧ ∃ n68, (st_r S n63 (x5).toNatClampNeg) = some n68 ∧ st_t S n68 = some (5, 0) ∧ ∃ n71, (st_r S n68 1) = some n71 ∧ ∃ z74, st_t S n71 = some (120, z74) ∧ vp_in x6 z74 ∧ wp_X7_study_117 h x1 x5 x6 (st_r S n71 (x6).toNatClampNeg) (0 : Int32) S g Z80 Z90)
def wp_X7_study_90 (h : Nat) (x1 : Option Nat) (x5 : Int32) (x6 : Int32) (S : xm_S) (g : xm_S → Prop) (Z80 : Option Nat → Int32 → xm_S → Prop) : Prop :=
  ∀ Z90 : Option Nat → Int32 → Int32 → xm_S → Prop, (∀ x1 x5 x6 S, wp_X7_study_90B h x1 x5 x6 S g Z80 Z90 → Z90 x1 x5 x6 S) → Z90 x1 x5 x6 S
set_option maxRecDepth 100000 in
set_option maxHeartbeats 4000000 in
theorem kp_X7_study_90B {K : xm_K} (h : Nat) (x1 : Option Nat) (x5 : Int32) (x6 : Int32) (S : xm_S) {g : xm_S → Prop} {Z80 : Option Nat → Int32 → xm_S → Prop} {Z90 : Option Nat → Int32 → Int32 → xm_S → Prop} (C : xm_Cx K cX7_study RX7 9 none rm_X7_study) (N : xm_Nx K) (hg : ∀ S, g S → xm_q K none S) (hZ80 : ∀ x1 x5 S, Z80 x1 x5 S → xm_W K 0 0 80 [(0, xm_r (some h)), (1, xm_r x1), (5, xm_i x5)] [] S) (hZ90 : ∀ x1 x5 x6 S, Z90 x1 x5 x6 S → xm_W K 0 0 90 [(0, xm_r (some h)), (1, xm_r x1), (5, xm_i x5), (6, xm_i x6)] [] S) (h1 : wp_X7_study_90B h x1 x5 x6 S g Z80 Z90) : xm_W K 0 0 90 [(0, xm_r (some h)), (1, xm_r x1), (5, xm_i x5), (6, xm_i x6)] [] S := by
  unfold wp_X7_study_90B at h1
  refine x_iload C 3 dX7_study_90 rfl ?_
  refine x_aload_n C 1 dX7_study_92 rfl rfl ?_
  refine x_iload C 2 dX7_study_93 rfl ?_
  obtain ⟨n53, hr54, h1⟩ := h1
  obtain ⟨z56, ht55, h1⟩ := h1
  obtain ⟨hi57, h1⟩ := h1
  refine x_aald (n := n53) C hr54 (by decide) rfl ht55 hi57 dX7_study_95 ?_
  obtain ⟨n58, hr59, h1⟩ := h1
  obtain ⟨ht60, h1⟩ := h1
  refine x_getf_i (n := n58) C hr59 ht60 fd_64 (by decide) dX7_study_96 ?_
  refine x_icmp_ge (tgt := 209) C dX7_study_99 (by decide) (fun z9 => ?_) (fun z9 => ?_)
  · have h1 := h1.1 z9
    obtain ⟨y61, e62⟩ : ∃ y61, y61 = (x5 + (1 : Int32)) := ⟨_, rfl⟩
    have h1 := h1 y61 e62
    refine x_iinc (v := y61) (L' := [(5, xm_i y61), (0, xm_r (some h)), (1, xm_r x1), (6, xm_i x6)]) C 2 dX7_study_209 rfl (by rw [e62]; rfl) (by decide) rfl ?_
    refine x_goto (tgt := 80) C dX7_study_212 (by decide) ?_
    refine x_keep (L' := [(0, xm_r (some h)), (1, xm_r x1), (5, xm_i y61)]) C [1, 2, 0] rfl ?_
    exact hZ80 x1 y61 S h1
  · have h1 := h1.2 z9
    refine x_aload_n C 1 dX7_study_102 rfl rfl ?_
    refine x_iload C 2 dX7_study_103 rfl ?_
    obtain ⟨n63, hr64, h1⟩ := h1
    obtain ⟨z66, ht65, h1⟩ := h1
    obtain ⟨hi67, h1⟩ := h1
    refine x_aald (n := n63) C hr64 (by decide) rfl ht65 hi67 dX7_study_105 ?_
    obtain ⟨n68, hr69, h1⟩ := h1
    obtain ⟨ht70, h1⟩ := h1
    refine x_getf_r (n := n68) C hr69 ht70 fd_59 (by decide) dX7_study_106 ?_
    refine x_iload C 3 dX7_study_109 rfl ?_
    obtain ⟨n71, hr72, h1⟩ := h1
    obtain ⟨z74, ht73, h1⟩ := h1
    obtain ⟨hi75, h1⟩ := h1
    refine x_aald (n := n71) C hr72 (by decide) rfl ht73 hi75 dX7_study_111 ?_
    refine x_astore (L' := [(7, xm_r (st_r S n71 (x6).toNatClampNeg)), (0, xm_r (some h)), (1, xm_r x1), (5, xm_i x5), (6, xm_i x6)]) C dX7_study_112 (by decide) rfl ?_
    refine x_iconst (v := (0 : Int32)) C dX7_study_114 (by decide) ?_
    refine x_istore (L' := [(8, xm_i (0 : Int32)), (7, xm_r (st_r S n71 (x6).toNatClampNeg)), (0, xm_r (some h)), (1, xm_r x1), (5, xm_i x5), (6, xm_i x6)]) C dX7_study_115 (by decide) rfl ?_
    refine x_keep (L' := [(0, xm_r (some h)), (1, xm_r x1), (5, xm_i x5), (6, xm_i x6), (7, xm_r (st_r S n71 (x6).toNatClampNeg)), (8, xm_i (0 : Int32))]) C [2, 3, 4, 5, 1, 0] rfl ?_
    exact kp_X7_study_117 h x1 x5 x6 (st_r S n71 (x6).toNatClampNeg) (0 : Int32) S C N hg hZ80 hZ90 h1
theorem kp_X7_study_90 {K : xm_K} (h : Nat) (x1 : Option Nat) (x5 : Int32) (x6 : Int32) (S : xm_S) {g : xm_S → Prop} {Z80 : Option Nat → Int32 → xm_S → Prop} (C : xm_Cx K cX7_study RX7 9 none rm_X7_study) (N : xm_Nx K) (hg : ∀ S, g S → xm_q K none S) (hZ80 : ∀ x1 x5 S, Z80 x1 x5 S → xm_W K 0 0 80 [(0, xm_r (some h)), (1, xm_r x1), (5, xm_i x5)] [] S) (h1 : wp_X7_study_90 h x1 x5 x6 S g Z80) : xm_W K 0 0 90 [(0, xm_r (some h)), (1, xm_r x1), (5, xm_i x5), (6, xm_i x6)] [] S :=
  h1 (fun x1 x5 x6 S => xm_W K 0 0 90 [(0, xm_r (some h)), (1, xm_r x1), (5, xm_i x5), (6, xm_i x6)] [] S) (fun x1 x5 x6 S hb => kp_X7_study_90B h x1 x5 x6 S C N hg hZ80 (fun x1 x5 x6 S hz => hz) hb)
def wp_X7_study_80B (h : Nat) (x1 : Option Nat) (x5 : Int32) (S : xm_S) (g : xm_S → Prop) (Z80 : Option Nat → Int32 → xm_S → Prop) : Prop :=
  ((nI 6) ≤ x5 → g S) ∧ (¬ (nI 6) ≤ x5 → wp_X7_study_90 h x1 x5 (0 : Int32) S g Z80)
def wp_X7_study_80 (h : Nat) (x1 : Option Nat) (x5 : Int32) (S : xm_S) (g : xm_S → Prop) : Prop :=
  ∀ Z80 : Option Nat → Int32 → xm_S → Prop, (∀ x1 x5 S, wp_X7_study_80B h x1 x5 S g Z80 → Z80 x1 x5 S) → Z80 x1 x5 S
set_option maxRecDepth 100000 in
set_option maxHeartbeats 4000000 in
theorem kp_X7_study_80B {K : xm_K} (h : Nat) (x1 : Option Nat) (x5 : Int32) (S : xm_S) {g : xm_S → Prop} {Z80 : Option Nat → Int32 → xm_S → Prop} (C : xm_Cx K cX7_study RX7 9 none rm_X7_study) (N : xm_Nx K) (hg : ∀ S, g S → xm_q K none S) (hZ80 : ∀ x1 x5 S, Z80 x1 x5 S → xm_W K 0 0 80 [(0, xm_r (some h)), (1, xm_r x1), (5, xm_i x5)] [] S) (h1 : wp_X7_study_80B h x1 x5 S g Z80) : xm_W K 0 0 80 [(0, xm_r (some h)), (1, xm_r x1), (5, xm_i x5)] [] S := by
  unfold wp_X7_study_80B at h1
  refine x_iload C 2 dX7_study_80 rfl ?_
  refine x_bipush (v := (nI 6)) C dX7_study_82 (by decide) ?_
  refine x_icmp_ge (tgt := 215) C dX7_study_84 (by decide) (fun z9 => ?_) (fun z9 => ?_)
  · have h1 := h1.1 z9
    exact x_vret C (Nat.le_of_ble_eq_true rfl) (Nat.le_of_ble_eq_true rfl) rfl dX7_study_215 (hg _ h1)
  · have h1 := h1.2 z9
    refine x_iconst (v := (0 : Int32)) C dX7_study_87 (by decide) ?_
    refine x_istore (L' := [(6, xm_i (0 : Int32)), (0, xm_r (some h)), (1, xm_r x1), (5, xm_i x5)]) C dX7_study_88 (by decide) rfl ?_
    refine x_keep (L' := [(0, xm_r (some h)), (1, xm_r x1), (5, xm_i x5), (6, xm_i (0 : Int32))]) C [1, 2, 3, 0] rfl ?_
    exact kp_X7_study_90 h x1 x5 (0 : Int32) S C N hg hZ80 h1
theorem kp_X7_study_80 {K : xm_K} (h : Nat) (x1 : Option Nat) (x5 : Int32) (S : xm_S) {g : xm_S → Prop} (C : xm_Cx K cX7_study RX7 9 none rm_X7_study) (N : xm_Nx K) (hg : ∀ S, g S → xm_q K none S)  (h1 : wp_X7_study_80 h x1 x5 S g) : xm_W K 0 0 80 [(0, xm_r (some h)), (1, xm_r x1), (5, xm_i x5)] [] S :=
  h1 (fun x1 x5 S => xm_W K 0 0 80 [(0, xm_r (some h)), (1, xm_r x1), (5, xm_i x5)] [] S) (fun x1 x5 S hb => kp_X7_study_80B h x1 x5 S C N hg (fun x1 x5 S hz => hz) hb)
def wp_X7_study_50B (h : Nat) (x1 : Option Nat) (x2 : Option Nat) (x3 : Int32) (x5 : Int32) (S : xm_S) (g : xm_S → Prop) (Z50 : Option Nat → Option Nat → Int32 → Int32 → xm_S → Prop) : Prop :=
  (x3 ≤ x5 → wp_X7_study_80 h x1 (0 : Int32) S g) ∧ (¬ x3 ≤ x5 → ∃ n76, x2 = some n76 ∧ ∃ z79, st_t S n76 = some (114, z79) ∧ vp_in x5 z79 ∧ ∃ n81, x2 = some n81 ∧ ∃ z84, st_t S n81 = some (114, z84) ∧ vp_in x5 z84 ∧ st_t S h = some (7, 0) ∧ wp_X7_meeting h (st_r S n81 (x5).toNatClampNeg) S (fun r88 S87 => ∃ n89, (st_r S n76 (x5).toNatClampNeg) = some n89 ∧ st_t S87 n89 = some (4, 0) ∧ ∀ S92, S92 = st_pi S87 n89 5 r88 → ∀ y94, y94 = (x5 + (1 : Int32)) → Z50 x1 x2 x3 y94 S92))
def wp_X7_study_50 (h : Nat) (x1 : Option Nat) (x2 : Option Nat) (x3 : Int32) (x5 : Int32) (S : xm_S) (g : xm_S → Prop) : Prop :=
  ∀ Z50 : Option Nat → Option Nat → Int32 → Int32 → xm_S → Prop, (∀ x1 x2 x3 x5 S, wp_X7_study_50B h x1 x2 x3 x5 S g Z50 → Z50 x1 x2 x3 x5 S) → Z50 x1 x2 x3 x5 S
set_option maxRecDepth 100000 in
set_option maxHeartbeats 4000000 in
theorem kp_X7_study_50B {K : xm_K} (h : Nat) (x1 : Option Nat) (x2 : Option Nat) (x3 : Int32) (x5 : Int32) (S : xm_S) {g : xm_S → Prop} {Z50 : Option Nat → Option Nat → Int32 → Int32 → xm_S → Prop} (C : xm_Cx K cX7_study RX7 9 none rm_X7_study) (N : xm_Nx K) (hg : ∀ S, g S → xm_q K none S) (hZ50 : ∀ x1 x2 x3 x5 S, Z50 x1 x2 x3 x5 S → xm_W K 0 0 50 [(0, xm_r (some h)), (1, xm_r x1), (2, xm_r x2), (3, xm_i x3), (5, xm_i x5)] [] S) (h1 : wp_X7_study_50B h x1 x2 x3 x5 S g Z50) : xm_W K 0 0 50 [(0, xm_r (some h)), (1, xm_r x1), (2, xm_r x2), (3, xm_i x3), (5, xm_i x5)] [] S := by
  unfold wp_X7_study_50B at h1
  refine x_iload C 4 dX7_study_50 rfl ?_
  refine x_iload_n C 3 dX7_study_52 rfl rfl ?_
  refine x_icmp_ge (tgt := 77) C dX7_study_53 (by decide) (fun z9 => ?_) (fun z9 => ?_)
  · have h1 := h1.1 z9
    refine x_iconst (v := (0 : Int32)) C dX7_study_77 (by decide) ?_
    refine x_istore (L' := [(5, xm_i (0 : Int32)), (0, xm_r (some h)), (1, xm_r x1), (2, xm_r x2), (3, xm_i x3)]) C dX7_study_78 (by decide) rfl ?_
    refine x_keep (L' := [(0, xm_r (some h)), (1, xm_r x1), (5, xm_i (0 : Int32))]) C [1, 2, 0] rfl ?_
    exact kp_X7_study_80 h x1 (0 : Int32) S C N hg  h1
  · have h1 := h1.2 z9
    refine x_aload_n C 2 dX7_study_56 rfl rfl ?_
    refine x_iload C 4 dX7_study_57 rfl ?_
    obtain ⟨n76, hr77, h1⟩ := h1
    obtain ⟨z79, ht78, h1⟩ := h1
    obtain ⟨hi80, h1⟩ := h1
    refine x_aald (n := n76) C hr77 (by decide) rfl ht78 hi80 dX7_study_59 ?_
    refine x_aload_n C 0 dX7_study_60 rfl rfl ?_
    refine x_aload_n C 2 dX7_study_61 rfl rfl ?_
    refine x_iload C 4 dX7_study_62 rfl ?_
    obtain ⟨n81, hr82, h1⟩ := h1
    obtain ⟨z84, ht83, h1⟩ := h1
    obtain ⟨hi85, h1⟩ := h1
    refine x_aald (n := n81) C hr82 (by decide) rfl ht83 hi85 dX7_study_64 ?_
    obtain ⟨ht86, h1⟩ := h1
    refine x_callV (rm' := rm_X7_meeting) (n := h) C (kp_X7_meeting_met h1) lk_36 gw_251 gw_252 xv_7 rfl rfl ht86 rfl (Nat.le_of_ble_eq_true rfl) ⟨Nat.le_of_ble_eq_true rfl, Nat.le_of_ble_eq_true rfl, (Nat.le_of_ble_eq_true rfl), (Nat.le_of_ble_eq_true rfl)⟩ dX7_study_65 xm_kx (xm_ki (fun r88 S87 h1 => ?_))
    obtain ⟨n89, hr90, h1⟩ := h1
    obtain ⟨ht91, h1⟩ := h1
    refine x_putf_i (n := n89) C hr90 ht91 fd_48 xc_4 (by decide) rfl ⟨rfl, rfl⟩ dX7_study_68 ?_
    refine x_topS (fun S92 e93 => ?_)
    have h1 := h1 S92 e93
    obtain ⟨y94, e95⟩ : ∃ y94, y94 = (x5 + (1 : Int32)) := ⟨_, rfl⟩
    have h1 := h1 y94 e95
    refine x_iinc (v := y94) (L' := [(5, xm_i y94), (0, xm_r (some h)), (1, xm_r x1), (2, xm_r x2), (3, xm_i x3)]) C 4 dX7_study_71 rfl (by rw [e95]; rfl) (by decide) rfl ?_
    refine x_goto (tgt := 50) C dX7_study_74 (by decide) ?_
    refine x_keep (L' := [(0, xm_r (some h)), (1, xm_r x1), (2, xm_r x2), (3, xm_i x3), (5, xm_i y94)]) C [1, 2, 3, 4, 0] rfl ?_
    exact hZ50 x1 x2 x3 y94 S92 h1
theorem kp_X7_study_50 {K : xm_K} (h : Nat) (x1 : Option Nat) (x2 : Option Nat) (x3 : Int32) (x5 : Int32) (S : xm_S) {g : xm_S → Prop} (C : xm_Cx K cX7_study RX7 9 none rm_X7_study) (N : xm_Nx K) (hg : ∀ S, g S → xm_q K none S)  (h1 : wp_X7_study_50 h x1 x2 x3 x5 S g) : xm_W K 0 0 50 [(0, xm_r (some h)), (1, xm_r x1), (2, xm_r x2), (3, xm_i x3), (5, xm_i x5)] [] S :=
  h1 (fun x1 x2 x3 x5 S => xm_W K 0 0 50 [(0, xm_r (some h)), (1, xm_r x1), (2, xm_r x2), (3, xm_i x3), (5, xm_i x5)] [] S) (fun x1 x2 x3 x5 S hb => kp_X7_study_50B h x1 x2 x3 x5 S C N hg (fun x1 x2 x3 x5 S hz => hz) hb)
def wp_X7_study_26B (h : Nat) (x1 : Option Nat) (x2 : Option Nat) (x3 : Int32) (x5 : Int32) (S : xm_S) (g : xm_S → Prop) (Z26 : Option Nat → Option Nat → Int32 → Int32 → xm_S → Prop) : Prop :=
  ((nI 24) ≤ x5 → wp_X7_study_50 h x1 x2 x3 (0 : Int32) S g) ∧ (¬ (nI 24) ≤ x5 → st_t S h = some (7, 0) ∧ ∃ n97, (st_r S h 4) = some n97 ∧ ∃ z100, st_t S n97 = some (100, z100) ∧ vp_in x5 z100 ∧ ∀ S102, S102 = st_pi S n97 (x5).toNatClampNeg (0 : Int32) → ∀ y104, y104 = (x5 + (1 : Int32)) → Z26 x1 x2 x3 y104 S102)
def wp_X7_study_26 (h : Nat) (x1 : Option Nat) (x2 : Option Nat) (x3 : Int32) (x5 : Int32) (S : xm_S) (g : xm_S → Prop) : Prop :=
  ∀ Z26 : Option Nat → Option Nat → Int32 → Int32 → xm_S → Prop, (∀ x1 x2 x3 x5 S, wp_X7_study_26B h x1 x2 x3 x5 S g Z26 → Z26 x1 x2 x3 x5 S) → Z26 x1 x2 x3 x5 S
set_option maxRecDepth 100000 in
set_option maxHeartbeats 4000000 in
theorem kp_X7_study_26B {K : xm_K} (h : Nat) (x1 : Option Nat) (x2 : Option Nat) (x3 : Int32) (x5 : Int32) (S : xm_S) {g : xm_S → Prop} {Z26 : Option Nat → Option Nat → Int32 → Int32 → xm_S → Prop} (C : xm_Cx K cX7_study RX7 9 none rm_X7_study) (N : xm_Nx K) (hg : ∀ S, g S → xm_q K none S) (hZ26 : ∀ x1 x2 x3 x5 S, Z26 x1 x2 x3 x5 S → xm_W K 0 0 26 [(0, xm_r (some h)), (1, xm_r x1), (2, xm_r x2), (3, xm_i x3), (5, xm_i x5)] [] S) (h1 : wp_X7_study_26B h x1 x2 x3 x5 S g Z26) : xm_W K 0 0 26 [(0, xm_r (some h)), (1, xm_r x1), (2, xm_r x2), (3, xm_i x3), (5, xm_i x5)] [] S := by
  unfold wp_X7_study_26B at h1
  refine x_iload C 4 dX7_study_26 rfl ?_
  refine x_bipush (v := (nI 24)) C dX7_study_28 (by decide) ?_
  refine x_icmp_ge (tgt := 47) C dX7_study_30 (by decide) (fun z9 => ?_) (fun z9 => ?_)
  · have h1 := h1.1 z9
    refine x_iconst (v := (0 : Int32)) C dX7_study_47 (by decide) ?_
    refine x_istore (L' := [(5, xm_i (0 : Int32)), (0, xm_r (some h)), (1, xm_r x1), (2, xm_r x2), (3, xm_i x3)]) C dX7_study_48 (by decide) rfl ?_
    refine x_keep (L' := [(0, xm_r (some h)), (1, xm_r x1), (2, xm_r x2), (3, xm_i x3), (5, xm_i (0 : Int32))]) C [1, 2, 3, 4, 0] rfl ?_
    exact kp_X7_study_50 h x1 x2 x3 (0 : Int32) S C N hg  h1
  · have h1 := h1.2 z9
    refine x_aload_n C 0 dX7_study_33 rfl rfl ?_
    obtain ⟨ht96, h1⟩ := h1
    refine x_getf_r (n := h) C rfl ht96 fd_72 (by decide) dX7_study_34 ?_
    refine x_iload C 4 dX7_study_37 rfl ?_
    refine x_iconst (v := (0 : Int32)) C dX7_study_39 (by decide) ?_
    obtain ⟨n97, hr98, h1⟩ := h1
    obtain ⟨z100, ht99, h1⟩ := h1
    obtain ⟨hi101, h1⟩ := h1
    refine x_iast (n := n97) C hr98 ht99 hi101 dX7_study_40 ?_
    refine x_topS (fun S102 e103 => ?_)
    have h1 := h1 S102 e103
    obtain ⟨y104, e105⟩ : ∃ y104, y104 = (x5 + (1 : Int32)) := ⟨_, rfl⟩
    have h1 := h1 y104 e105
    refine x_iinc (v := y104) (L' := [(5, xm_i y104), (0, xm_r (some h)), (1, xm_r x1), (2, xm_r x2), (3, xm_i x3)]) C 4 dX7_study_41 rfl (by rw [e105]; rfl) (by decide) rfl ?_
    refine x_goto (tgt := 26) C dX7_study_44 (by decide) ?_
    refine x_keep (L' := [(0, xm_r (some h)), (1, xm_r x1), (2, xm_r x2), (3, xm_i x3), (5, xm_i y104)]) C [1, 2, 3, 4, 0] rfl ?_
    exact hZ26 x1 x2 x3 y104 S102 h1
theorem kp_X7_study_26 {K : xm_K} (h : Nat) (x1 : Option Nat) (x2 : Option Nat) (x3 : Int32) (x5 : Int32) (S : xm_S) {g : xm_S → Prop} (C : xm_Cx K cX7_study RX7 9 none rm_X7_study) (N : xm_Nx K) (hg : ∀ S, g S → xm_q K none S)  (h1 : wp_X7_study_26 h x1 x2 x3 x5 S g) : xm_W K 0 0 26 [(0, xm_r (some h)), (1, xm_r x1), (2, xm_r x2), (3, xm_i x3), (5, xm_i x5)] [] S :=
  h1 (fun x1 x2 x3 x5 S => xm_W K 0 0 26 [(0, xm_r (some h)), (1, xm_r x1), (2, xm_r x2), (3, xm_i x3), (5, xm_i x5)] [] S) (fun x1 x2 x3 x5 S hb => kp_X7_study_26B h x1 x2 x3 x5 S C N hg (fun x1 x2 x3 x5 S hz => hz) hb)
def wp_X7_study (h : Nat) (x1 : Option Nat) (x2 : Option Nat) (x3 : Int32) (x4 : Int32) (S : xm_S) (g : xm_S → Prop) : Prop :=
  st_t S h = some (7, 0) ∧ ∀ S107, S107 = st_pr S h 0 x1 → ∀ S109, S109 = st_pr S107 h 1 x2 → ∀ S111, S111 = st_pi S109 h 2 x3 → ∀ S113, S113 = st_pi S111 h 3 ((1 : Int32) <<< (x4 &&& 31)) → wp_X7_study_26 h x1 x2 x3 (0 : Int32) S113 g
set_option maxRecDepth 100000 in
set_option maxHeartbeats 4000000 in
theorem kp_X7_study {K : xm_K} (h : Nat) (x1 : Option Nat) (x2 : Option Nat) (x3 : Int32) (x4 : Int32) (S : xm_S) {g : xm_S → Prop} (C : xm_Cx K cX7_study RX7 9 none rm_X7_study) (N : xm_Nx K) (hg : ∀ S, g S → xm_q K none S)  (h1 : wp_X7_study h x1 x2 x3 x4 S g) : xm_W K 0 0 0 [(0, xm_r (some h)), (1, xm_r x1), (2, xm_r x2), (3, xm_i x3), (4, xm_i x4)] [] S := by
  unfold wp_X7_study at h1
  refine x_aload_n C 0 dX7_study_0 rfl rfl ?_
  refine x_aload_n C 1 dX7_study_1 rfl rfl ?_
  obtain ⟨ht106, h1⟩ := h1
  refine x_putf_r (n := h) C rfl ht106 fd_58 xc_7 (by decide) rfl (xm_nr rfl) dX7_study_2 ?_
  refine x_topS (fun S107 e108 => ?_)
  have h1 := h1 S107 e108
  refine x_aload_n C 0 dX7_study_5 rfl rfl ?_
  refine x_aload_n C 2 dX7_study_6 rfl rfl ?_
  refine x_putf_r (n := h) C rfl (tk_p e108 ht106) fd_63 xc_7 (by decide) rfl (xm_nr rfl) dX7_study_7 ?_
  refine x_topS (fun S109 e110 => ?_)
  have h1 := h1 S109 e110
  refine x_aload_n C 0 dX7_study_10 rfl rfl ?_
  refine x_iload_n C 3 dX7_study_11 rfl rfl ?_
  refine x_putf_i (n := h) C rfl (tk_p e110 (tk_p e108 ht106)) fd_61 xc_7 (by decide) rfl ⟨rfl, rfl⟩ dX7_study_12 ?_
  refine x_topS (fun S111 e112 => ?_)
  have h1 := h1 S111 e112
  refine x_aload_n C 0 dX7_study_15 rfl rfl ?_
  refine x_iconst (v := (1 : Int32)) C dX7_study_16 (by decide) ?_
  refine x_iload C 4 dX7_study_17 rfl ?_
  refine x_ishl C dX7_study_19 ?_
  refine x_putf_i (n := h) C rfl (tk_p e112 (tk_p e110 (tk_p e108 ht106))) fd_54 xc_7 (by decide) rfl ⟨rfl, rfl⟩ dX7_study_20 ?_
  refine x_topS (fun S113 e114 => ?_)
  have h1 := h1 S113 e114
  refine x_iconst (v := (0 : Int32)) C dX7_study_23 (by decide) ?_
  refine x_istore (L' := [(5, xm_i (0 : Int32)), (0, xm_r (some h)), (1, xm_r x1), (2, xm_r x2), (3, xm_i x3), (4, xm_i x4)]) C dX7_study_24 (by decide) rfl ?_
  refine x_keep (L' := [(0, xm_r (some h)), (1, xm_r x1), (2, xm_r x2), (3, xm_i x3), (5, xm_i (0 : Int32))]) C [1, 2, 3, 4, 0] rfl ?_
  exact kp_X7_study_26 h x1 x2 x3 (0 : Int32) S113 C N hg  h1
theorem kp_X7_study_met {h : Nat} {x1 : Option Nat} {x2 : Option Nat} {x3 : Int32} {x4 : Int32} {S : xm_S} {g : xm_S → Prop}  (h1 : wp_X7_study h x1 x2 x3 x4 S g) : xm_Met yX7_study cX7_study 9 none rm_X7_study [xm_r (some h), xm_r x1, xm_r x2, xm_i x3, xm_i x4] S (xm_qv g) xm_nox :=
  xm_ofW RX7 (by decide +kernel) rfl (Nat.le_of_ble_eq_true rfl) (fun K C N hq hx hi => kp_X7_study h x1 x2 x3 x4 S C N (fun S h => by rw [hq]; exact ⟨rfl, h⟩)  h1)
def rm_X8_append : Room := { frames := 1, cells := 0, slots := 0, locals := 20 }
theorem dX8_append_0 : decode cX8_append 0 = .ok (.aload_n 0, 1) := by decide +kernel
theorem dX8_append_1 : decode cX8_append 1 = .ok (.getfield 15, 3) := by decide +kernel
theorem dX8_append_4 : decode cX8_append 4 = .ok (.bipush 40, 2) := by decide +kernel
theorem dX8_append_6 : decode cX8_append 6 = .ok (.if_icmp .ge 23, 3) := by decide +kernel
theorem dX8_append_9 : decode cX8_append 9 = .ok (.aload_n 0, 1) := by decide +kernel
theorem dX8_append_10 : decode cX8_append 10 = .ok (.getfield 9, 3) := by decide +kernel
theorem dX8_append_13 : decode cX8_append 13 = .ok (.aload_n 0, 1) := by decide +kernel
theorem dX8_append_14 : decode cX8_append 14 = .ok (.getfield 15, 3) := by decide +kernel
theorem dX8_append_17 : decode cX8_append 17 = .ok (.iload_n 1, 1) := by decide +kernel
theorem dX8_append_18 : decode cX8_append 18 = .ok (.castore, 1) := by decide +kernel
theorem dX8_append_19 : decode cX8_append 19 = .ok (.aload_n 0, 1) := by decide +kernel
theorem dX8_append_20 : decode cX8_append 20 = .ok (.dup, 1) := by decide +kernel
theorem dX8_append_21 : decode cX8_append 21 = .ok (.getfield 15, 3) := by decide +kernel
theorem dX8_append_24 : decode cX8_append 24 = .ok (.iconst 1, 1) := by decide +kernel
theorem dX8_append_25 : decode cX8_append 25 = .ok (.iadd, 1) := by decide +kernel
theorem dX8_append_26 : decode cX8_append 26 = .ok (.putfield 15, 3) := by decide +kernel
theorem dX8_append_29 : decode cX8_append 29 = .ok (.return_, 1) := by decide +kernel
def wp_X8_append_29 (h : Nat)  (S : xm_S) (g : xm_S → Prop) : Prop :=
  g S
set_option maxRecDepth 100000 in
set_option maxHeartbeats 4000000 in
theorem kp_X8_append_29 {K : xm_K} (h : Nat)  (S : xm_S) {g : xm_S → Prop} (C : xm_Cx K cX8_append RX8 2 none rm_X8_append) (N : xm_Nx K) (hg : ∀ S, g S → xm_q K none S)  (h1 : wp_X8_append_29 h  S g) : xm_W K 0 0 29 [] [] S := by
  unfold wp_X8_append_29 at h1
  exact x_vret C (Nat.le_of_ble_eq_true rfl) (Nat.le_of_ble_eq_true rfl) rfl dX8_append_29 (hg _ h1)
def wp_X8_append (h : Nat) (x1 : Int32) (S : xm_S) (g : xm_S → Prop) : Prop :=
  st_t S h = some (8, 0) ∧ ((nI 40) ≤ (st_i S h 1) → wp_X8_append_29 h S g) ∧ (¬ (nI 40) ≤ (st_i S h 1) → ∃ n2, (st_r S h 0) = some n2 ∧ ∃ z5, st_t S n2 = some (102, z5) ∧ vp_in (st_i S h 1) z5 ∧ narrow .char (.int x1) = .int x1 ∧ ∀ S8, S8 = st_pi S n2 ((st_i S h 1)).toNatClampNeg x1 → ∀ S10, S10 = st_pi S8 h 1 ((st_i S8 h 1) + (1 : Int32)) → wp_X8_append_29 h S10 g)
set_option maxRecDepth 100000 in
set_option maxHeartbeats 4000000 in
theorem kp_X8_append {K : xm_K} (h : Nat) (x1 : Int32) (S : xm_S) {g : xm_S → Prop} (C : xm_Cx K cX8_append RX8 2 none rm_X8_append) (N : xm_Nx K) (hg : ∀ S, g S → xm_q K none S)  (h1 : wp_X8_append h x1 S g) : xm_W K 0 0 0 [(0, xm_r (some h)), (1, xm_i x1)] [] S := by
  unfold wp_X8_append at h1
  refine x_aload_n C 0 dX8_append_0 rfl rfl ?_
  obtain ⟨ht1, h1⟩ := h1
  refine x_getf_i (n := h) C rfl ht1 fd_86 (by decide) dX8_append_1 ?_
  refine x_bipush (v := (nI 40)) C dX8_append_4 (by decide) ?_
  refine x_icmp_ge (tgt := 29) C dX8_append_6 (by decide) (fun z9 => ?_) (fun z9 => ?_)
  · have h1 := h1.1 z9
    refine x_keep (L' := []) C [] rfl ?_
    exact kp_X8_append_29 h S C N hg  h1
  · have h1 := h1.2 z9
    refine x_aload_n C 0 dX8_append_9 rfl rfl ?_
    refine x_getf_r (n := h) C rfl ht1 fd_87 (by decide) dX8_append_10 ?_
    refine x_aload_n C 0 dX8_append_13 rfl rfl ?_
    refine x_getf_i (n := h) C rfl ht1 fd_86 (by decide) dX8_append_14 ?_
    refine x_iload_n C 1 dX8_append_17 rfl rfl ?_
    obtain ⟨n2, hr3, h1⟩ := h1
    obtain ⟨z5, ht4, h1⟩ := h1
    obtain ⟨hi6, h1⟩ := h1
    obtain ⟨hz7, h1⟩ := h1
    refine x_cast (n := n2) C hr3 ht4 hi6 hz7 dX8_append_18 ?_
    refine x_topS (fun S8 e9 => ?_)
    have h1 := h1 S8 e9
    refine x_aload_n C 0 dX8_append_19 rfl rfl ?_
    refine x_dup_r C dX8_append_20 ?_
    refine x_getf_i (n := h) C rfl (tk_p e9 ht1) fd_86 (by decide) dX8_append_21 ?_
    refine x_iconst (v := (1 : Int32)) C dX8_append_24 (by decide) ?_
    refine x_iadd C dX8_append_25 ?_
    refine x_putf_i (n := h) C rfl (tk_p e9 ht1) fd_86 xc_8 (by decide) rfl ⟨rfl, rfl⟩ dX8_append_26 ?_
    refine x_topS (fun S10 e11 => ?_)
    have h1 := h1 S10 e11
    refine x_keep (L' := []) C [] rfl ?_
    exact kp_X8_append_29 h S10 C N hg  h1
theorem kp_X8_append_met {h : Nat} {x1 : Int32} {S : xm_S} {g : xm_S → Prop}  (h1 : wp_X8_append h x1 S g) : xm_Met yX8_append cX8_append 2 none rm_X8_append [xm_r (some h), xm_i x1] S (xm_qv g) xm_nox :=
  xm_ofW RX8 (by decide +kernel) rfl (Nat.le_of_ble_eq_true rfl) (fun K C N hq hx hi => kp_X8_append h x1 S C N (fun S h => by rw [hq]; exact ⟨rfl, h⟩)  h1)
def rm_X8_clear : Room := { frames := 1, cells := 0, slots := 0, locals := 20 }
theorem dX8_clear_0 : decode cX8_clear 0 = .ok (.aload_n 0, 1) := by decide +kernel
theorem dX8_clear_1 : decode cX8_clear 1 = .ok (.iconst 0, 1) := by decide +kernel
theorem dX8_clear_2 : decode cX8_clear 2 = .ok (.putfield 15, 3) := by decide +kernel
theorem dX8_clear_5 : decode cX8_clear 5 = .ok (.return_, 1) := by decide +kernel
def wp_X8_clear (h : Nat)  (S : xm_S) (g : xm_S → Prop) : Prop :=
  st_t S h = some (8, 0) ∧ ∀ S2, S2 = st_pi S h 1 (0 : Int32) → g S2
set_option maxRecDepth 100000 in
set_option maxHeartbeats 4000000 in
theorem kp_X8_clear {K : xm_K} (h : Nat)  (S : xm_S) {g : xm_S → Prop} (C : xm_Cx K cX8_clear RX8 1 none rm_X8_clear) (N : xm_Nx K) (hg : ∀ S, g S → xm_q K none S)  (h1 : wp_X8_clear h  S g) : xm_W K 0 0 0 [(0, xm_r (some h))] [] S := by
  unfold wp_X8_clear at h1
  refine x_aload_n C 0 dX8_clear_0 rfl rfl ?_
  refine x_iconst (v := (0 : Int32)) C dX8_clear_1 (by decide) ?_
  obtain ⟨ht1, h1⟩ := h1
  refine x_putf_i (n := h) C rfl ht1 fd_86 xc_8 (by decide) rfl ⟨rfl, rfl⟩ dX8_clear_2 ?_
  refine x_topS (fun S2 e3 => ?_)
  have h1 := h1 S2 e3
  exact x_vret C (Nat.le_of_ble_eq_true rfl) (Nat.le_of_ble_eq_true rfl) rfl dX8_clear_5 (hg _ h1)
theorem kp_X8_clear_met {h : Nat}  {S : xm_S} {g : xm_S → Prop}  (h1 : wp_X8_clear h  S g) : xm_Met yX8_clear cX8_clear 1 none rm_X8_clear [xm_r (some h)] S (xm_qv g) xm_nox :=
  xm_ofW RX8 (by decide +kernel) rfl (Nat.le_of_ble_eq_true rfl) (fun K C N hq hx hi => kp_X8_clear h  S C N (fun S h => by rw [hq]; exact ⟨rfl, h⟩)  h1)
def rm_X8_takes : Room := { frames := 1, cells := 0, slots := 0, locals := 20 }
theorem dX8_takes_0 : decode cX8_takes 0 = .ok (.aload_n 0, 1) := by decide +kernel
theorem dX8_takes_1 : decode cX8_takes 1 = .ok (.getfield 22, 3) := by decide +kernel
theorem dX8_takes_4 : decode cX8_takes 4 = .ok (.ifCond .ne 27, 3) := by decide +kernel
theorem dX8_takes_7 : decode cX8_takes 7 = .ok (.aload_n 0, 1) := by decide +kernel
theorem dX8_takes_8 : decode cX8_takes 8 = .ok (.getfield 19, 3) := by decide +kernel
theorem dX8_takes_11 : decode cX8_takes 11 = .ok (.aload_n 0, 1) := by decide +kernel
theorem dX8_takes_12 : decode cX8_takes 12 = .ok (.getfield 15, 3) := by decide +kernel
theorem dX8_takes_15 : decode cX8_takes 15 = .ok (.if_icmp .ge 16, 3) := by decide +kernel
theorem dX8_takes_18 : decode cX8_takes 18 = .ok (.aload_n 0, 1) := by decide +kernel
theorem dX8_takes_19 : decode cX8_takes 19 = .ok (.getfield 9, 3) := by decide +kernel
theorem dX8_takes_22 : decode cX8_takes 22 = .ok (.aload_n 0, 1) := by decide +kernel
theorem dX8_takes_23 : decode cX8_takes 23 = .ok (.getfield 19, 3) := by decide +kernel
theorem dX8_takes_26 : decode cX8_takes 26 = .ok (.caload, 1) := by decide +kernel
theorem dX8_takes_27 : decode cX8_takes 27 = .ok (.iload_n 1, 1) := by decide +kernel
theorem dX8_takes_28 : decode cX8_takes 28 = .ok (.if_icmp .eq 5, 3) := by decide +kernel
theorem dX8_takes_31 : decode cX8_takes 31 = .ok (.iconst 0, 1) := by decide +kernel
theorem dX8_takes_32 : decode cX8_takes 32 = .ok (.ireturn, 1) := by decide +kernel
theorem dX8_takes_33 : decode cX8_takes 33 = .ok (.aload_n 0, 1) := by decide +kernel
theorem dX8_takes_34 : decode cX8_takes 34 = .ok (.dup, 1) := by decide +kernel
theorem dX8_takes_35 : decode cX8_takes 35 = .ok (.getfield 19, 3) := by decide +kernel
theorem dX8_takes_38 : decode cX8_takes 38 = .ok (.iconst 1, 1) := by decide +kernel
theorem dX8_takes_39 : decode cX8_takes 39 = .ok (.iadd, 1) := by decide +kernel
theorem dX8_takes_40 : decode cX8_takes 40 = .ok (.putfield 19, 3) := by decide +kernel
theorem dX8_takes_43 : decode cX8_takes 43 = .ok (.iconst 1, 1) := by decide +kernel
theorem dX8_takes_44 : decode cX8_takes 44 = .ok (.ireturn, 1) := by decide +kernel
def wp_X8_takes_31 (h : Nat)  (S : xm_S) (g : Int32 → xm_S → Prop) : Prop :=
  g (0 : Int32) S
set_option maxRecDepth 100000 in
set_option maxHeartbeats 4000000 in
theorem kp_X8_takes_31 {K : xm_K} (h : Nat)  (S : xm_S) {g : Int32 → xm_S → Prop} (C : xm_Cx K cX8_takes RX8 2 (some (FieldType.boolean)) rm_X8_takes) (N : xm_Nx K) (hg : ∀ v S, g v S → xm_q K (some (xm_i v)) S)  (h1 : wp_X8_takes_31 h  S g) : xm_W K 0 0 31 [] [] S := by
  unfold wp_X8_takes_31 at h1
  refine x_iconst (v := (0 : Int32)) C dX8_takes_31 (by decide) ?_
  exact x_zret C (Nat.le_of_ble_eq_true rfl) (Nat.le_of_ble_eq_true rfl) rfl (by decide) dX8_takes_32 (hg _ _ h1)
def wp_X8_takes (h : Nat) (x1 : Int32) (S : xm_S) (g : Int32 → xm_S → Prop) : Prop :=
  st_t S h = some (8, 0) ∧ (¬ (st_i S h 3) = 0 → wp_X8_takes_31 h S g) ∧ ((st_i S h 3) = 0 → ((st_i S h 1) ≤ (st_i S h 2) → wp_X8_takes_31 h S g) ∧ (¬ (st_i S h 1) ≤ (st_i S h 2) → ∃ n2, (st_r S h 0) = some n2 ∧ ∃ z5, st_t S n2 = some (102, z5) ∧ vp_in (st_i S h 2) z5 ∧ ((st_i S n2 ((st_i S h 2)).toNatClampNeg) = x1 → ∀ S7, S7 = st_pi S h 2 ((st_i S h 2) + (1 : Int32)) → g (1 : Int32) S7) ∧ (¬ (st_i S n2 ((st_i S h 2)).toNatClampNeg) = x1 → wp_X8_takes_31 h S g)))
set_option maxRecDepth 100000 in
set_option maxHeartbeats 4000000 in
theorem kp_X8_takes {K : xm_K} (h : Nat) (x1 : Int32) (S : xm_S) {g : Int32 → xm_S → Prop} (C : xm_Cx K cX8_takes RX8 2 (some (FieldType.boolean)) rm_X8_takes) (N : xm_Nx K) (hg : ∀ v S, g v S → xm_q K (some (xm_i v)) S)  (h1 : wp_X8_takes h x1 S g) : xm_W K 0 0 0 [(0, xm_r (some h)), (1, xm_i x1)] [] S := by
  unfold wp_X8_takes at h1
  refine x_aload_n C 0 dX8_takes_0 rfl rfl ?_
  obtain ⟨ht1, h1⟩ := h1
  refine x_getf_i (n := h) C rfl ht1 fd_88 (by decide) dX8_takes_1 ?_
  refine x_if_ne (tgt := 31) C dX8_takes_4 (by decide) (fun z9 => ?_) (fun z9 => ?_)
  · have h1 := h1.1 z9
    refine x_keep (L' := []) C [] rfl ?_
    exact kp_X8_takes_31 h S C N hg  h1
  · have h1 := h1.2 z9
    refine x_aload_n C 0 dX8_takes_7 rfl rfl ?_
    refine x_getf_i (n := h) C rfl ht1 fd_89 (by decide) dX8_takes_8 ?_
    refine x_aload_n C 0 dX8_takes_11 rfl rfl ?_
    refine x_getf_i (n := h) C rfl ht1 fd_86 (by decide) dX8_takes_12 ?_
    refine x_icmp_ge (tgt := 31) C dX8_takes_15 (by decide) (fun z9 => ?_) (fun z9 => ?_)
    · have h1 := h1.1 z9
      refine x_keep (L' := []) C [] rfl ?_
      exact kp_X8_takes_31 h S C N hg  h1
    · have h1 := h1.2 z9
      refine x_aload_n C 0 dX8_takes_18 rfl rfl ?_
      refine x_getf_r (n := h) C rfl ht1 fd_87 (by decide) dX8_takes_19 ?_
      refine x_aload_n C 0 dX8_takes_22 rfl rfl ?_
      refine x_getf_i (n := h) C rfl ht1 fd_89 (by decide) dX8_takes_23 ?_
      obtain ⟨n2, hr3, h1⟩ := h1
      obtain ⟨z5, ht4, h1⟩ := h1
      obtain ⟨hi6, h1⟩ := h1
      refine x_cald (n := n2) C hr3 ht4 hi6 dX8_takes_26 ?_
      refine x_iload_n C 1 dX8_takes_27 rfl rfl ?_
      refine x_icmp_eq (tgt := 33) C dX8_takes_28 (by decide) (fun z9 => ?_) (fun z9 => ?_)
      · have h1 := h1.1 z9
        refine x_aload_n C 0 dX8_takes_33 rfl rfl ?_
        refine x_dup_r C dX8_takes_34 ?_
        refine x_getf_i (n := h) C rfl ht1 fd_89 (by decide) dX8_takes_35 ?_
        refine x_iconst (v := (1 : Int32)) C dX8_takes_38 (by decide) ?_
        refine x_iadd C dX8_takes_39 ?_
        refine x_putf_i (n := h) C rfl ht1 fd_89 xc_8 (by decide) rfl ⟨rfl, rfl⟩ dX8_takes_40 ?_
        refine x_topS (fun S7 e8 => ?_)
        have h1 := h1 S7 e8
        refine x_iconst (v := (1 : Int32)) C dX8_takes_43 (by decide) ?_
        exact x_zret C (Nat.le_of_ble_eq_true rfl) (Nat.le_of_ble_eq_true rfl) rfl (by decide) dX8_takes_44 (hg _ _ h1)
      · have h1 := h1.2 z9
        refine x_keep (L' := []) C [] rfl ?_
        exact kp_X8_takes_31 h S C N hg  h1
theorem kp_X8_takes_met {h : Nat} {x1 : Int32} {S : xm_S} {g : Int32 → xm_S → Prop}  (h1 : wp_X8_takes h x1 S g) : xm_Met yX8_takes cX8_takes 2 (some (FieldType.boolean)) rm_X8_takes [xm_r (some h), xm_i x1] S (xm_qi g) xm_nox :=
  xm_ofW RX8 (by decide +kernel) rfl (Nat.le_of_ble_eq_true rfl) (fun K C N hq hx hi => kp_X8_takes h x1 S C N (fun v S h => by rw [hq]; exact ⟨v, rfl, h⟩)  h1)
def rm_X8_readDigit : Room := { frames := 2, cells := 0, slots := 0, locals := 41 }
theorem dX8_readDigit_0 : decode cX8_readDigit 0 = .ok (.bipush 48, 2) := by decide +kernel
theorem dX8_readDigit_2 : decode cX8_readDigit 2 = .ok (.istore_n 1, 1) := by decide +kernel
theorem dX8_readDigit_3 : decode cX8_readDigit 3 = .ok (.iload_n 1, 1) := by decide +kernel
theorem dX8_readDigit_4 : decode cX8_readDigit 4 = .ok (.bipush 57, 2) := by decide +kernel
theorem dX8_readDigit_6 : decode cX8_readDigit 6 = .ok (.if_icmp .gt 24, 3) := by decide +kernel
theorem dX8_readDigit_9 : decode cX8_readDigit 9 = .ok (.aload_n 0, 1) := by decide +kernel
theorem dX8_readDigit_10 : decode cX8_readDigit 10 = .ok (.iload_n 1, 1) := by decide +kernel
theorem dX8_readDigit_11 : decode cX8_readDigit 11 = .ok (.invokevirtual 33, 3) := by decide +kernel
theorem dX8_readDigit_14 : decode cX8_readDigit 14 = .ok (.ifCond .eq 8, 3) := by decide +kernel
theorem dX8_readDigit_17 : decode cX8_readDigit 17 = .ok (.iload_n 1, 1) := by decide +kernel
theorem dX8_readDigit_18 : decode cX8_readDigit 18 = .ok (.bipush 48, 2) := by decide +kernel
theorem dX8_readDigit_20 : decode cX8_readDigit 20 = .ok (.isub, 1) := by decide +kernel
theorem dX8_readDigit_21 : decode cX8_readDigit 21 = .ok (.ireturn, 1) := by decide +kernel
theorem dX8_readDigit_22 : decode cX8_readDigit 22 = .ok (.iload_n 1, 1) := by decide +kernel
theorem dX8_readDigit_23 : decode cX8_readDigit 23 = .ok (.iconst 1, 1) := by decide +kernel
theorem dX8_readDigit_24 : decode cX8_readDigit 24 = .ok (.iadd, 1) := by decide +kernel
theorem dX8_readDigit_25 : decode cX8_readDigit 25 = .ok (.i2c, 1) := by decide +kernel
theorem dX8_readDigit_26 : decode cX8_readDigit 26 = .ok (.istore_n 1, 1) := by decide +kernel
theorem dX8_readDigit_27 : decode cX8_readDigit 27 = .ok (.goto (-24), 3) := by decide +kernel
theorem dX8_readDigit_30 : decode cX8_readDigit 30 = .ok (.aload_n 0, 1) := by decide +kernel
theorem dX8_readDigit_31 : decode cX8_readDigit 31 = .ok (.iconst 1, 1) := by decide +kernel
theorem dX8_readDigit_32 : decode cX8_readDigit 32 = .ok (.putfield 22, 3) := by decide +kernel
theorem dX8_readDigit_35 : decode cX8_readDigit 35 = .ok (.iconst 0, 1) := by decide +kernel
theorem dX8_readDigit_36 : decode cX8_readDigit 36 = .ok (.ireturn, 1) := by decide +kernel
def wp_X8_readDigit_3B (h : Nat) (x1 : Int32) (S : xm_S) (g : Int32 → xm_S → Prop) (Z3 : Int32 → xm_S → Prop) : Prop :=
  ((nI 57) < x1 → st_t S h = some (8, 0) ∧ ∀ S2, S2 = st_pi S h 3 (1 : Int32) → g (0 : Int32) S2) ∧ (¬ (nI 57) < x1 → st_t S h = some (8, 0) ∧ wp_X8_takes h x1 S (fun r6 S5 => (r6 = 0 → ∀ y7, y7 = ((((x1 + (1 : Int32))).toUInt32 % 65536).toInt32) → Z3 y7 S5) ∧ (¬ r6 = 0 → g (x1 - (nI 48)) S5)))
def wp_X8_readDigit_3 (h : Nat) (x1 : Int32) (S : xm_S) (g : Int32 → xm_S → Prop) : Prop :=
  ∀ Z3 : Int32 → xm_S → Prop, (∀ x1 S, wp_X8_readDigit_3B h x1 S g Z3 → Z3 x1 S) → Z3 x1 S
set_option maxRecDepth 100000 in
set_option maxHeartbeats 4000000 in
theorem kp_X8_readDigit_3B {K : xm_K} (h : Nat) (x1 : Int32) (S : xm_S) {g : Int32 → xm_S → Prop} {Z3 : Int32 → xm_S → Prop} (C : xm_Cx K cX8_readDigit RX8 2 (some (FieldType.int)) rm_X8_readDigit) (N : xm_Nx K) (hg : ∀ v S, g v S → xm_q K (some (xm_i v)) S) (hZ3 : ∀ x1 S, Z3 x1 S → xm_W K 0 0 3 [(0, xm_r (some h)), (1, xm_i x1)] [] S) (h1 : wp_X8_readDigit_3B h x1 S g Z3) : xm_W K 0 0 3 [(0, xm_r (some h)), (1, xm_i x1)] [] S := by
  unfold wp_X8_readDigit_3B at h1
  refine x_iload_n C 1 dX8_readDigit_3 rfl rfl ?_
  refine x_bipush (v := (nI 57)) C dX8_readDigit_4 (by decide) ?_
  refine x_icmp_gt (tgt := 30) C dX8_readDigit_6 (by decide) (fun z9 => ?_) (fun z9 => ?_)
  · have h1 := h1.1 z9
    refine x_aload_n C 0 dX8_readDigit_30 rfl rfl ?_
    refine x_iconst (v := (1 : Int32)) C dX8_readDigit_31 (by decide) ?_
    obtain ⟨ht1, h1⟩ := h1
    refine x_putf_i (n := h) C rfl ht1 fd_88 xc_8 (by decide) rfl (xm_nz (by decide)) dX8_readDigit_32 ?_
    refine x_topS (fun S2 e3 => ?_)
    have h1 := h1 S2 e3
    refine x_iconst (v := (0 : Int32)) C dX8_readDigit_35 (by decide) ?_
    exact x_iret C (Nat.le_of_ble_eq_true rfl) (Nat.le_of_ble_eq_true rfl) rfl dX8_readDigit_36 (hg _ _ h1)
  · have h1 := h1.2 z9
    refine x_aload_n C 0 dX8_readDigit_9 rfl rfl ?_
    refine x_iload_n C 1 dX8_readDigit_10 rfl rfl ?_
    obtain ⟨ht4, h1⟩ := h1
    refine x_callV (rm' := rm_X8_takes) (n := h) C (kp_X8_takes_met h1) lk_38 gw_264 gw_265 xv_8 rfl rfl ht4 rfl (Nat.le_of_ble_eq_true rfl) ⟨Nat.le_of_ble_eq_true rfl, Nat.le_of_ble_eq_true rfl, (Nat.le_of_ble_eq_true rfl), (Nat.le_of_ble_eq_true rfl)⟩ dX8_readDigit_11 xm_kx (xm_ki (fun r6 S5 h1 => ?_))
    refine x_if_eq (tgt := 22) C dX8_readDigit_14 (by decide) (fun z9 => ?_) (fun z9 => ?_)
    · have h1 := h1.1 z9
      refine x_iload_n C 1 dX8_readDigit_22 rfl rfl ?_
      refine x_iconst (v := (1 : Int32)) C dX8_readDigit_23 (by decide) ?_
      refine x_iadd C dX8_readDigit_24 ?_
      refine x_i2c C dX8_readDigit_25 ?_
      refine x_topi (fun y7 e8 => ?_)
      have h1 := h1 y7 e8
      refine x_istore_n (L' := [(1, xm_i y7), (0, xm_r (some h))]) C dX8_readDigit_26 rfl (by decide) rfl ?_
      refine x_goto (tgt := 3) C dX8_readDigit_27 (by decide) ?_
      refine x_keep (L' := [(0, xm_r (some h)), (1, xm_i y7)]) C [1, 0] rfl ?_
      exact hZ3 y7 S5 h1
    · have h1 := h1.2 z9
      refine x_iload_n C 1 dX8_readDigit_17 rfl rfl ?_
      refine x_bipush (v := (nI 48)) C dX8_readDigit_18 (by decide) ?_
      refine x_isub C dX8_readDigit_20 ?_
      exact x_iret C (Nat.le_of_ble_eq_true rfl) (Nat.le_of_ble_eq_true rfl) rfl dX8_readDigit_21 (hg _ _ h1)
theorem kp_X8_readDigit_3 {K : xm_K} (h : Nat) (x1 : Int32) (S : xm_S) {g : Int32 → xm_S → Prop} (C : xm_Cx K cX8_readDigit RX8 2 (some (FieldType.int)) rm_X8_readDigit) (N : xm_Nx K) (hg : ∀ v S, g v S → xm_q K (some (xm_i v)) S)  (h1 : wp_X8_readDigit_3 h x1 S g) : xm_W K 0 0 3 [(0, xm_r (some h)), (1, xm_i x1)] [] S :=
  h1 (fun x1 S => xm_W K 0 0 3 [(0, xm_r (some h)), (1, xm_i x1)] [] S) (fun x1 S hb => kp_X8_readDigit_3B h x1 S C N hg (fun x1 S hz => hz) hb)
def wp_X8_readDigit (h : Nat)  (S : xm_S) (g : Int32 → xm_S → Prop) : Prop :=
  wp_X8_readDigit_3 h (nI 48) S g
set_option maxRecDepth 100000 in
set_option maxHeartbeats 4000000 in
theorem kp_X8_readDigit {K : xm_K} (h : Nat)  (S : xm_S) {g : Int32 → xm_S → Prop} (C : xm_Cx K cX8_readDigit RX8 2 (some (FieldType.int)) rm_X8_readDigit) (N : xm_Nx K) (hg : ∀ v S, g v S → xm_q K (some (xm_i v)) S)  (h1 : wp_X8_readDigit h  S g) : xm_W K 0 0 0 [(0, xm_r (some h))] [] S := by
  unfold wp_X8_readDigit at h1
  refine x_bipush (v := (nI 48)) C dX8_readDigit_0 (by decide) ?_
  refine x_istore_n (L' := [(1, xm_i (nI 48)), (0, xm_r (some h))]) C dX8_readDigit_2 rfl (by decide) rfl ?_
  refine x_keep (L' := [(0, xm_r (some h)), (1, xm_i (nI 48))]) C [1, 0] rfl ?_
  exact kp_X8_readDigit_3 h (nI 48) S C N hg  h1
theorem kp_X8_readDigit_met {h : Nat}  {S : xm_S} {g : Int32 → xm_S → Prop}  (h1 : wp_X8_readDigit h  S g) : xm_Met yX8_readDigit cX8_readDigit 2 (some (FieldType.int)) rm_X8_readDigit [xm_r (some h)] S (xm_qi g) xm_nox :=
  xm_ofW RX8 (by decide +kernel) rfl (Nat.le_of_ble_eq_true rfl) (fun K C N hq hx hi => kp_X8_readDigit h  S C N (fun v S h => by rw [hq]; exact ⟨v, rfl, h⟩)  h1)
