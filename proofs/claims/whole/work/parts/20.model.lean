/-! PadeWorkbenchModel.<init>()V -/
theorem md_M_init_0 : decode prog_14_method_1_code 0 = .ok (.aload_n 0, 1) := by decide +kernel
theorem md_M_init_1 : decode prog_14_method_1_code 1 = .ok (.invokespecial 1, 3) := by decide +kernel
theorem md_M_init_4 : decode prog_14_method_1_code 4 = .ok (.aload_n 0, 1) := by decide +kernel
theorem md_M_init_5 : decode prog_14_method_1_code 5 = .ok (.bipush 86, 2) := by decide +kernel
theorem md_M_init_7 : decode prog_14_method_1_code 7 = .ok (.newarray .int, 2) := by decide +kernel
theorem md_M_init_9 : decode prog_14_method_1_code 9 = .ok (.putfield 7, 3) := by decide +kernel
theorem md_M_init_12 : decode prog_14_method_1_code 12 = .ok (.aload_n 0, 1) := by decide +kernel
theorem md_M_init_13 : decode prog_14_method_1_code 13 = .ok (.sipush 344, 3) := by decide +kernel
theorem md_M_init_16 : decode prog_14_method_1_code 16 = .ok (.newarray .int, 2) := by decide +kernel
theorem md_M_init_18 : decode prog_14_method_1_code 18 = .ok (.putfield 13, 3) := by decide +kernel
theorem md_M_init_21 : decode prog_14_method_1_code 21 = .ok (.aload_n 0, 1) := by decide +kernel
theorem md_M_init_22 : decode prog_14_method_1_code 22 = .ok (.iconst 3, 1) := by decide +kernel
theorem md_M_init_23 : decode prog_14_method_1_code 23 = .ok (.newarray .int, 2) := by decide +kernel
theorem md_M_init_25 : decode prog_14_method_1_code 25 = .ok (.putfield 16, 3) := by decide +kernel
theorem md_M_init_28 : decode prog_14_method_1_code 28 = .ok (.aload_n 0, 1) := by decide +kernel
theorem md_M_init_29 : decode prog_14_method_1_code 29 = .ok (.bipush 80, 2) := by decide +kernel
theorem md_M_init_31 : decode prog_14_method_1_code 31 = .ok (.newarray .int, 2) := by decide +kernel
theorem md_M_init_33 : decode prog_14_method_1_code 33 = .ok (.putfield 19, 3) := by decide +kernel
theorem md_M_init_36 : decode prog_14_method_1_code 36 = .ok (.aload_n 0, 1) := by decide +kernel
theorem md_M_init_37 : decode prog_14_method_1_code 37 = .ok (.bipush 16, 2) := by decide +kernel
theorem md_M_init_39 : decode prog_14_method_1_code 39 = .ok (.newarray .int, 2) := by decide +kernel
theorem md_M_init_41 : decode prog_14_method_1_code 41 = .ok (.putfield 22, 3) := by decide +kernel
theorem md_M_init_44 : decode prog_14_method_1_code 44 = .ok (.aload_n 0, 1) := by decide +kernel
theorem md_M_init_45 : decode prog_14_method_1_code 45 = .ok (.bipush 16, 2) := by decide +kernel
theorem md_M_init_47 : decode prog_14_method_1_code 47 = .ok (.newarray .int, 2) := by decide +kernel
theorem md_M_init_49 : decode prog_14_method_1_code 49 = .ok (.putfield 25, 3) := by decide +kernel
theorem md_M_init_52 : decode prog_14_method_1_code 52 = .ok (.aload_n 0, 1) := by decide +kernel
theorem md_M_init_53 : decode prog_14_method_1_code 53 = .ok (.bipush 16, 2) := by decide +kernel
theorem md_M_init_55 : decode prog_14_method_1_code 55 = .ok (.newarray .int, 2) := by decide +kernel
theorem md_M_init_57 : decode prog_14_method_1_code 57 = .ok (.putfield 28, 3) := by decide +kernel
theorem md_M_init_60 : decode prog_14_method_1_code 60 = .ok (.aload_n 0, 1) := by decide +kernel
theorem md_M_init_61 : decode prog_14_method_1_code 61 = .ok (.sipush 324, 3) := by decide +kernel
theorem md_M_init_64 : decode prog_14_method_1_code 64 = .ok (.newarray .int, 2) := by decide +kernel
theorem md_M_init_66 : decode prog_14_method_1_code 66 = .ok (.putfield 31, 3) := by decide +kernel
theorem md_M_init_69 : decode prog_14_method_1_code 69 = .ok (.aload_n 0, 1) := by decide +kernel
theorem md_M_init_70 : decode prog_14_method_1_code 70 = .ok (.bipush 18, 2) := by decide +kernel
theorem md_M_init_72 : decode prog_14_method_1_code 72 = .ok (.newarray .int, 2) := by decide +kernel
theorem md_M_init_74 : decode prog_14_method_1_code 74 = .ok (.putfield 34, 3) := by decide +kernel
theorem md_M_init_77 : decode prog_14_method_1_code 77 = .ok (.aload_n 0, 1) := by decide +kernel
theorem md_M_init_78 : decode prog_14_method_1_code 78 = .ok (.bipush 18, 2) := by decide +kernel
theorem md_M_init_80 : decode prog_14_method_1_code 80 = .ok (.newarray .int, 2) := by decide +kernel
theorem md_M_init_82 : decode prog_14_method_1_code 82 = .ok (.putfield 37, 3) := by decide +kernel
theorem md_M_init_85 : decode prog_14_method_1_code 85 = .ok (.aload_n 0, 1) := by decide +kernel
theorem md_M_init_86 : decode prog_14_method_1_code 86 = .ok (.bipush 18, 2) := by decide +kernel
theorem md_M_init_88 : decode prog_14_method_1_code 88 = .ok (.newarray .int, 2) := by decide +kernel
theorem md_M_init_90 : decode prog_14_method_1_code 90 = .ok (.putfield 40, 3) := by decide +kernel
theorem md_M_init_93 : decode prog_14_method_1_code 93 = .ok (.aload_n 0, 1) := by decide +kernel
theorem md_M_init_94 : decode prog_14_method_1_code 94 = .ok (.bipush 18, 2) := by decide +kernel
theorem md_M_init_96 : decode prog_14_method_1_code 96 = .ok (.newarray .int, 2) := by decide +kernel
theorem md_M_init_98 : decode prog_14_method_1_code 98 = .ok (.putfield 43, 3) := by decide +kernel
theorem md_M_init_101 : decode prog_14_method_1_code 101 = .ok (.aload_n 0, 1) := by decide +kernel
theorem md_M_init_102 : decode prog_14_method_1_code 102 = .ok (.bipush 18, 2) := by decide +kernel
theorem md_M_init_104 : decode prog_14_method_1_code 104 = .ok (.newarray .int, 2) := by decide +kernel
theorem md_M_init_106 : decode prog_14_method_1_code 106 = .ok (.putfield 46, 3) := by decide +kernel
theorem md_M_init_109 : decode prog_14_method_1_code 109 = .ok (.aload_n 0, 1) := by decide +kernel
theorem md_M_init_110 : decode prog_14_method_1_code 110 = .ok (.bipush 18, 2) := by decide +kernel
theorem md_M_init_112 : decode prog_14_method_1_code 112 = .ok (.newarray .int, 2) := by decide +kernel
theorem md_M_init_114 : decode prog_14_method_1_code 114 = .ok (.putfield 49, 3) := by decide +kernel
theorem md_M_init_117 : decode prog_14_method_1_code 117 = .ok (.aload_n 0, 1) := by decide +kernel
theorem md_M_init_118 : decode prog_14_method_1_code 118 = .ok (.bipush 18, 2) := by decide +kernel
theorem md_M_init_120 : decode prog_14_method_1_code 120 = .ok (.newarray .int, 2) := by decide +kernel
theorem md_M_init_122 : decode prog_14_method_1_code 122 = .ok (.putfield 52, 3) := by decide +kernel
theorem md_M_init_125 : decode prog_14_method_1_code 125 = .ok (.aload_n 0, 1) := by decide +kernel
theorem md_M_init_126 : decode prog_14_method_1_code 126 = .ok (.sipush 170, 3) := by decide +kernel
theorem md_M_init_129 : decode prog_14_method_1_code 129 = .ok (.newarray .int, 2) := by decide +kernel
theorem md_M_init_131 : decode prog_14_method_1_code 131 = .ok (.putfield 55, 3) := by decide +kernel
theorem md_M_init_134 : decode prog_14_method_1_code 134 = .ok (.aload_n 0, 1) := by decide +kernel
theorem md_M_init_135 : decode prog_14_method_1_code 135 = .ok (.sipush 170, 3) := by decide +kernel
theorem md_M_init_138 : decode prog_14_method_1_code 138 = .ok (.newarray .int, 2) := by decide +kernel
theorem md_M_init_140 : decode prog_14_method_1_code 140 = .ok (.putfield 58, 3) := by decide +kernel
theorem md_M_init_143 : decode prog_14_method_1_code 143 = .ok (.aload_n 0, 1) := by decide +kernel
theorem md_M_init_144 : decode prog_14_method_1_code 144 = .ok (.getfield 7, 3) := by decide +kernel
theorem md_M_init_147 : decode prog_14_method_1_code 147 = .ok (.iconst 0, 1) := by decide +kernel
theorem md_M_init_148 : decode prog_14_method_1_code 148 = .ok (.bipush 101, 2) := by decide +kernel
theorem md_M_init_150 : decode prog_14_method_1_code 150 = .ok (.iastore, 1) := by decide +kernel
theorem md_M_init_151 : decode prog_14_method_1_code 151 = .ok (.return_, 1) := by decide +kernel
def mf_M_init (x0 : Nat) (σ : pw_Sto) : Option (Unit × pw_Sto) := pw_bd (pw_na 86 σ) (fun v1 s2 => (pw_pr 10 x0 0 v1 s2).bind (fun s3 => pw_bd (pw_na 344 s3) (fun v4 s5 => (pw_pr 10 x0 1 v4 s5).bind (fun s6 => pw_bd (pw_na 3 s6) (fun v7 s8 => (pw_pr 10 x0 3 v7 s8).bind (fun s9 => pw_bd (pw_na 80 s9) (fun v10 s11 => (pw_pr 10 x0 4 v10 s11).bind (fun s12 => pw_bd (pw_na 16 s12) (fun v13 s14 => (pw_pr 10 x0 6 v13 s14).bind (fun s15 => pw_bd (pw_na 16 s15) (fun v16 s17 => (pw_pr 10 x0 7 v16 s17).bind (fun s18 => pw_bd (pw_na 16 s18) (fun v19 s20 => (pw_pr 10 x0 8 v19 s20).bind (fun s21 => pw_bd (pw_na 324 s21) (fun v22 s23 => (pw_pr 10 x0 10 v22 s23).bind (fun s24 => pw_bd (pw_na 18 s24) (fun v25 s26 => (pw_pr 10 x0 11 v25 s26).bind (fun s27 => pw_bd (pw_na 18 s27) (fun v28 s29 => (pw_pr 10 x0 12 v28 s29).bind (fun s30 => pw_bd (pw_na 18 s30) (fun v31 s32 => (pw_pr 10 x0 13 v31 s32).bind (fun s33 => pw_bd (pw_na 18 s33) (fun v34 s35 => (pw_pr 10 x0 14 v34 s35).bind (fun s36 => pw_bd (pw_na 18 s36) (fun v37 s38 => (pw_pr 10 x0 15 v37 s38).bind (fun s39 => pw_bd (pw_na 18 s39) (fun v40 s41 => (pw_pr 10 x0 16 v40 s41).bind (fun s42 => pw_bd (pw_na 18 s42) (fun v43 s44 => (pw_pr 10 x0 17 v43 s44).bind (fun s45 => pw_bd (pw_na 170 s45) (fun v46 s47 => (pw_pr 10 x0 18 v46 s47).bind (fun s48 => pw_bd (pw_na 170 s48) (fun v49 s50 => (pw_pr 10 x0 19 v49 s50).bind (fun s51 => (pw_gr 10 x0 0 s51).bind (fun v52 => (pw_si v52 (0 : Int) (101 : Int) s51).bind (fun s53 => some ((), s53)))))))))))))))))))))))))))))))))))))
set_option maxHeartbeats 4000000 in
set_option maxRecDepth 20000 in
theorem mc_M_init {l : Launch} {E : pw_E} {σ : pw_Sto} {x0 : Nat} {out : Unit × pw_Sto} (h : mf_M_init x0 σ = some out) : pw_CV l E my_M_init prog_14_method_1_code 1 none mr_M_init [.ref x0] σ out := by
  unfold mf_M_init at h
  refine pw_entryV (by decide) (Nat.le_of_ble_eq_true rfl) h (fun X hX hR hI => ?_)
  change pw_Ok X prog_14_method_1_code "PadeWorkbenchModel" mr_M_init 1 at hX
  show pw_Sp X 0 0 0 [(0, Value.ref x0)] [] σ _
  refine sp_aload_n (pc := 0) (k := 0) (i := 0) hX rfl 0 rfl md_M_init_0 ?_
  refine sp_objInit (pc := 1) (idx := 1) hX mq_798 mq_90 mq_91 (Nat.le_of_ble_eq_true rfl) (Nat.le_of_ble_eq_true rfl) md_M_init_1 ?_
  refine sp_aload_n (pc := 4) (k := 0) (i := 0) hX rfl 0 rfl md_M_init_4 ?_
  refine sp_bipush (pc := 5) hX (by decide) md_M_init_5 ?_
  refine sp_newa (pc := 7) (n := 86) (slots' := 86) hX mq_125 (Nat.le_of_ble_eq_true rfl) (Nat.le_of_ble_eq_true rfl) rfl md_M_init_7 (fun v1 s2 => ?_)
  refine sp_putRF (pc := 9) (ci := 10) (k := 0) (idx := 7) hX mcl_10 (by decide) mq_799 rfl rfl hI rfl mty_10_0 md_M_init_9 (fun s3 => ?_)
  refine sp_aload_n (pc := 12) (k := 0) (i := 0) hX rfl 0 rfl md_M_init_12 ?_
  refine sp_sipush (pc := 13) hX (by decide) md_M_init_13 ?_
  refine sp_newa (pc := 16) (n := 344) (slots' := 430) hX mq_125 (Nat.le_of_ble_eq_true rfl) (Nat.le_of_ble_eq_true rfl) rfl md_M_init_16 (fun v4 s5 => ?_)
  refine sp_putRF (pc := 18) (ci := 10) (k := 1) (idx := 13) hX mcl_10 (by decide) mq_800 rfl rfl hI rfl mty_10_1 md_M_init_18 (fun s6 => ?_)
  refine sp_aload_n (pc := 21) (k := 0) (i := 0) hX rfl 0 rfl md_M_init_21 ?_
  refine sp_iconst (pc := 22) hX md_M_init_22 ?_
  refine sp_newa (pc := 23) (n := 3) (slots' := 433) hX mq_125 (Nat.le_of_ble_eq_true rfl) (Nat.le_of_ble_eq_true rfl) rfl md_M_init_23 (fun v7 s8 => ?_)
  refine sp_putRF (pc := 25) (ci := 10) (k := 3) (idx := 16) hX mcl_10 (by decide) mq_802 rfl rfl hI rfl mty_10_3 md_M_init_25 (fun s9 => ?_)
  refine sp_aload_n (pc := 28) (k := 0) (i := 0) hX rfl 0 rfl md_M_init_28 ?_
  refine sp_bipush (pc := 29) hX (by decide) md_M_init_29 ?_
  refine sp_newa (pc := 31) (n := 80) (slots' := 513) hX mq_125 (Nat.le_of_ble_eq_true rfl) (Nat.le_of_ble_eq_true rfl) rfl md_M_init_31 (fun v10 s11 => ?_)
  refine sp_putRF (pc := 33) (ci := 10) (k := 4) (idx := 19) hX mcl_10 (by decide) mq_803 rfl rfl hI rfl mty_10_4 md_M_init_33 (fun s12 => ?_)
  refine sp_aload_n (pc := 36) (k := 0) (i := 0) hX rfl 0 rfl md_M_init_36 ?_
  refine sp_bipush (pc := 37) hX (by decide) md_M_init_37 ?_
  refine sp_newa (pc := 39) (n := 16) (slots' := 529) hX mq_125 (Nat.le_of_ble_eq_true rfl) (Nat.le_of_ble_eq_true rfl) rfl md_M_init_39 (fun v13 s14 => ?_)
  refine sp_putRF (pc := 41) (ci := 10) (k := 6) (idx := 22) hX mcl_10 (by decide) mq_805 rfl rfl hI rfl mty_10_6 md_M_init_41 (fun s15 => ?_)
  refine sp_aload_n (pc := 44) (k := 0) (i := 0) hX rfl 0 rfl md_M_init_44 ?_
  refine sp_bipush (pc := 45) hX (by decide) md_M_init_45 ?_
  refine sp_newa (pc := 47) (n := 16) (slots' := 545) hX mq_125 (Nat.le_of_ble_eq_true rfl) (Nat.le_of_ble_eq_true rfl) rfl md_M_init_47 (fun v16 s17 => ?_)
  refine sp_putRF (pc := 49) (ci := 10) (k := 7) (idx := 25) hX mcl_10 (by decide) mq_806 rfl rfl hI rfl mty_10_7 md_M_init_49 (fun s18 => ?_)
  refine sp_aload_n (pc := 52) (k := 0) (i := 0) hX rfl 0 rfl md_M_init_52 ?_
  refine sp_bipush (pc := 53) hX (by decide) md_M_init_53 ?_
  refine sp_newa (pc := 55) (n := 16) (slots' := 561) hX mq_125 (Nat.le_of_ble_eq_true rfl) (Nat.le_of_ble_eq_true rfl) rfl md_M_init_55 (fun v19 s20 => ?_)
  refine sp_putRF (pc := 57) (ci := 10) (k := 8) (idx := 28) hX mcl_10 (by decide) mq_807 rfl rfl hI rfl mty_10_8 md_M_init_57 (fun s21 => ?_)
  refine sp_aload_n (pc := 60) (k := 0) (i := 0) hX rfl 0 rfl md_M_init_60 ?_
  refine sp_sipush (pc := 61) hX (by decide) md_M_init_61 ?_
  refine sp_newa (pc := 64) (n := 324) (slots' := 885) hX mq_125 (Nat.le_of_ble_eq_true rfl) (Nat.le_of_ble_eq_true rfl) rfl md_M_init_64 (fun v22 s23 => ?_)
  refine sp_putRF (pc := 66) (ci := 10) (k := 10) (idx := 31) hX mcl_10 (by decide) mq_809 rfl rfl hI rfl mty_10_10 md_M_init_66 (fun s24 => ?_)
  refine sp_aload_n (pc := 69) (k := 0) (i := 0) hX rfl 0 rfl md_M_init_69 ?_
  refine sp_bipush (pc := 70) hX (by decide) md_M_init_70 ?_
  refine sp_newa (pc := 72) (n := 18) (slots' := 903) hX mq_125 (Nat.le_of_ble_eq_true rfl) (Nat.le_of_ble_eq_true rfl) rfl md_M_init_72 (fun v25 s26 => ?_)
  refine sp_putRF (pc := 74) (ci := 10) (k := 11) (idx := 34) hX mcl_10 (by decide) mq_810 rfl rfl hI rfl mty_10_11 md_M_init_74 (fun s27 => ?_)
  refine sp_aload_n (pc := 77) (k := 0) (i := 0) hX rfl 0 rfl md_M_init_77 ?_
  refine sp_bipush (pc := 78) hX (by decide) md_M_init_78 ?_
  refine sp_newa (pc := 80) (n := 18) (slots' := 921) hX mq_125 (Nat.le_of_ble_eq_true rfl) (Nat.le_of_ble_eq_true rfl) rfl md_M_init_80 (fun v28 s29 => ?_)
  refine sp_putRF (pc := 82) (ci := 10) (k := 12) (idx := 37) hX mcl_10 (by decide) mq_811 rfl rfl hI rfl mty_10_12 md_M_init_82 (fun s30 => ?_)
  refine sp_aload_n (pc := 85) (k := 0) (i := 0) hX rfl 0 rfl md_M_init_85 ?_
  refine sp_bipush (pc := 86) hX (by decide) md_M_init_86 ?_
  refine sp_newa (pc := 88) (n := 18) (slots' := 939) hX mq_125 (Nat.le_of_ble_eq_true rfl) (Nat.le_of_ble_eq_true rfl) rfl md_M_init_88 (fun v31 s32 => ?_)
  refine sp_putRF (pc := 90) (ci := 10) (k := 13) (idx := 40) hX mcl_10 (by decide) mq_812 rfl rfl hI rfl mty_10_13 md_M_init_90 (fun s33 => ?_)
  refine sp_aload_n (pc := 93) (k := 0) (i := 0) hX rfl 0 rfl md_M_init_93 ?_
  refine sp_bipush (pc := 94) hX (by decide) md_M_init_94 ?_
  refine sp_newa (pc := 96) (n := 18) (slots' := 957) hX mq_125 (Nat.le_of_ble_eq_true rfl) (Nat.le_of_ble_eq_true rfl) rfl md_M_init_96 (fun v34 s35 => ?_)
  refine sp_putRF (pc := 98) (ci := 10) (k := 14) (idx := 43) hX mcl_10 (by decide) mq_813 rfl rfl hI rfl mty_10_14 md_M_init_98 (fun s36 => ?_)
  refine sp_aload_n (pc := 101) (k := 0) (i := 0) hX rfl 0 rfl md_M_init_101 ?_
  refine sp_bipush (pc := 102) hX (by decide) md_M_init_102 ?_
  refine sp_newa (pc := 104) (n := 18) (slots' := 975) hX mq_125 (Nat.le_of_ble_eq_true rfl) (Nat.le_of_ble_eq_true rfl) rfl md_M_init_104 (fun v37 s38 => ?_)
  refine sp_putRF (pc := 106) (ci := 10) (k := 15) (idx := 46) hX mcl_10 (by decide) mq_814 rfl rfl hI rfl mty_10_15 md_M_init_106 (fun s39 => ?_)
  refine sp_aload_n (pc := 109) (k := 0) (i := 0) hX rfl 0 rfl md_M_init_109 ?_
  refine sp_bipush (pc := 110) hX (by decide) md_M_init_110 ?_
  refine sp_newa (pc := 112) (n := 18) (slots' := 993) hX mq_125 (Nat.le_of_ble_eq_true rfl) (Nat.le_of_ble_eq_true rfl) rfl md_M_init_112 (fun v40 s41 => ?_)
  refine sp_putRF (pc := 114) (ci := 10) (k := 16) (idx := 49) hX mcl_10 (by decide) mq_815 rfl rfl hI rfl mty_10_16 md_M_init_114 (fun s42 => ?_)
  refine sp_aload_n (pc := 117) (k := 0) (i := 0) hX rfl 0 rfl md_M_init_117 ?_
  refine sp_bipush (pc := 118) hX (by decide) md_M_init_118 ?_
  refine sp_newa (pc := 120) (n := 18) (slots' := 1011) hX mq_125 (Nat.le_of_ble_eq_true rfl) (Nat.le_of_ble_eq_true rfl) rfl md_M_init_120 (fun v43 s44 => ?_)
  refine sp_putRF (pc := 122) (ci := 10) (k := 17) (idx := 52) hX mcl_10 (by decide) mq_816 rfl rfl hI rfl mty_10_17 md_M_init_122 (fun s45 => ?_)
  refine sp_aload_n (pc := 125) (k := 0) (i := 0) hX rfl 0 rfl md_M_init_125 ?_
  refine sp_sipush (pc := 126) hX (by decide) md_M_init_126 ?_
  refine sp_newa (pc := 129) (n := 170) (slots' := 1181) hX mq_125 (Nat.le_of_ble_eq_true rfl) (Nat.le_of_ble_eq_true rfl) rfl md_M_init_129 (fun v46 s47 => ?_)
  refine sp_putRF (pc := 131) (ci := 10) (k := 18) (idx := 55) hX mcl_10 (by decide) mq_817 rfl rfl hI rfl mty_10_18 md_M_init_131 (fun s48 => ?_)
  refine sp_aload_n (pc := 134) (k := 0) (i := 0) hX rfl 0 rfl md_M_init_134 ?_
  refine sp_sipush (pc := 135) hX (by decide) md_M_init_135 ?_
  refine sp_newa (pc := 138) (n := 170) (slots' := 1351) hX mq_125 (Nat.le_of_ble_eq_true rfl) (Nat.le_of_ble_eq_true rfl) rfl md_M_init_138 (fun v49 s50 => ?_)
  refine sp_putRF (pc := 140) (ci := 10) (k := 19) (idx := 58) hX mcl_10 (by decide) mq_818 rfl rfl hI rfl mty_10_19 md_M_init_140 (fun s51 => ?_)
  refine sp_aload_n (pc := 143) (k := 0) (i := 0) hX rfl 0 rfl md_M_init_143 ?_
  refine sp_getR (pc := 144) (ci := 10) (k := 0) (idx := 7) hX mcl_10 (by decide) mq_799 rfl md_M_init_144 (fun v52 => ?_)
  refine sp_iconst (pc := 147) hX md_M_init_147 ?_
  refine sp_bipush (pc := 148) hX (by decide) md_M_init_148 ?_
  refine sp_iastore (pc := 150) hX md_M_init_150 (fun s53 => ?_)
  exact sp_vret (pc := 151) hX hR rfl (Nat.le_of_ble_eq_true rfl) md_M_init_151
/-! PadeWorkbenchModel.in(III)Z -/
theorem md_M_in_0 : decode prog_14_method_2_code 0 = .ok (.iload_n 0, 1) := by decide +kernel
theorem md_M_in_1 : decode prog_14_method_2_code 1 = .ok (.iload_n 1, 1) := by decide +kernel
theorem md_M_in_2 : decode prog_14_method_2_code 2 = .ok (.if_icmp .lt 12, 3) := by decide +kernel
theorem md_M_in_14 : decode prog_14_method_2_code 14 = .ok (.iconst 0, 1) := by decide +kernel
theorem md_M_in_15 : decode prog_14_method_2_code 15 = .ok (.ireturn, 1) := by decide +kernel
theorem md_M_in_5 : decode prog_14_method_2_code 5 = .ok (.iload_n 0, 1) := by decide +kernel
theorem md_M_in_6 : decode prog_14_method_2_code 6 = .ok (.iload_n 2, 1) := by decide +kernel
theorem md_M_in_7 : decode prog_14_method_2_code 7 = .ok (.if_icmp .gt 7, 3) := by decide +kernel
theorem md_M_in_10 : decode prog_14_method_2_code 10 = .ok (.iconst 1, 1) := by decide +kernel
theorem md_M_in_11 : decode prog_14_method_2_code 11 = .ok (.goto 4, 3) := by decide +kernel
def mf_M_in (x0 : Int) (x1 : Int) (x2 : Int) (σ : pw_Sto) : Option (Int × pw_Sto) := pw_ck x0 x1 (if x0 < x1 then some ((0 : Int), σ) else pw_ck x0 x2 (if x2 < x0 then some ((0 : Int), σ) else some ((1 : Int), σ)))
set_option maxHeartbeats 4000000 in
set_option maxRecDepth 20000 in
theorem mc_M_in {l : Launch} {E : pw_E} {σ : pw_Sto} {x0 : Int} {x1 : Int} {x2 : Int} {out : Int × pw_Sto} (h : mf_M_in x0 x1 x2 σ = some out) : pw_CI l E my_M_in prog_14_method_2_code 3 (some .boolean) mr_M_in [.int (iI x0), .int (iI x1), .int (iI x2)] σ out := by
  unfold mf_M_in at h
  refine pw_entryZ (by decide) (Nat.le_of_ble_eq_true rfl) h (fun X hX hR hI => ?_)
  change pw_Ok X prog_14_method_2_code "PadeWorkbenchModel" mr_M_in 3 at hX
  show pw_Sp X 0 0 0 [(0, Value.int (iI x0)), (1, Value.int (iI x1)), (2, Value.int (iI x2))] [] σ _
  refine sp_iload_n (pc := 0) (k := 0) (i := 0) hX rfl 0 rfl md_M_in_0 ?_
  refine sp_iload_n (pc := 1) (k := 1) (i := 1) hX rfl 1 rfl md_M_in_1 ?_
  refine sp_icmp_lt (pc := 2) hX 14 (by decide) md_M_in_2 (fun _ => ?_) (fun _ => ?_)
  · refine sp_iconst (pc := 14) hX md_M_in_14 ?_
    exact sp_zret (pc := 15) hX hR (by decide) rfl (Nat.le_of_ble_eq_true rfl) md_M_in_15
  · refine sp_iload_n (pc := 5) (k := 0) (i := 0) hX rfl 0 rfl md_M_in_5 ?_
    refine sp_iload_n (pc := 6) (k := 2) (i := 2) hX rfl 2 rfl md_M_in_6 ?_
    refine sp_icmp_gt (pc := 7) hX 14 (by decide) md_M_in_7 (fun _ => ?_) (fun _ => ?_)
    · refine sp_iconst (pc := 14) hX md_M_in_14 ?_
      exact sp_zret (pc := 15) hX hR (by decide) rfl (Nat.le_of_ble_eq_true rfl) md_M_in_15
    · refine sp_iconst (pc := 10) hX md_M_in_10 ?_
      refine sp_goto (pc := 11) hX 15 (by decide) md_M_in_11 ?_
      exact sp_zret (pc := 15) hX hR (by decide) rfl (Nat.le_of_ble_eq_true rfl) md_M_in_15
/-! PadeWorkbenchModel.fail(I)I -/
theorem md_M_fail_0 : decode prog_14_method_3_code 0 = .ok (.aload_n 0, 1) := by decide +kernel
theorem md_M_fail_1 : decode prog_14_method_3_code 1 = .ok (.getfield 16, 3) := by decide +kernel
theorem md_M_fail_4 : decode prog_14_method_3_code 4 = .ok (.bipush (-2), 2) := by decide +kernel
theorem md_M_fail_6 : decode prog_14_method_3_code 6 = .ok (.iload_n 1, 1) := by decide +kernel
theorem md_M_fail_7 : decode prog_14_method_3_code 7 = .ok (.isub, 1) := by decide +kernel
theorem md_M_fail_8 : decode prog_14_method_3_code 8 = .ok (.dup2, 1) := by decide +kernel
theorem md_M_fail_9 : decode prog_14_method_3_code 9 = .ok (.iaload, 1) := by decide +kernel
theorem md_M_fail_10 : decode prog_14_method_3_code 10 = .ok (.iconst 1, 1) := by decide +kernel
theorem md_M_fail_11 : decode prog_14_method_3_code 11 = .ok (.iadd, 1) := by decide +kernel
theorem md_M_fail_12 : decode prog_14_method_3_code 12 = .ok (.iastore, 1) := by decide +kernel
theorem md_M_fail_13 : decode prog_14_method_3_code 13 = .ok (.iload_n 1, 1) := by decide +kernel
theorem md_M_fail_14 : decode prog_14_method_3_code 14 = .ok (.ireturn, 1) := by decide +kernel
def mf_M_fail (x0 : Nat) (x1 : Int) (σ : pw_Sto) : Option (Int × pw_Sto) := pw_gd 10 x0 σ ((pw_gr 10 x0 3 σ).bind (fun v1 => (pw_ai v1 ((-2 : Int) - x1) σ).bind (fun v2 => (pw_si v1 ((-2 : Int) - x1) (v2 + (1 : Int)) σ).bind (fun s3 => some (x1, s3)))))
set_option maxHeartbeats 4000000 in
set_option maxRecDepth 20000 in
theorem mc_M_fail {l : Launch} {E : pw_E} {σ : pw_Sto} {x0 : Nat} {x1 : Int} {out : Int × pw_Sto} (h : mf_M_fail x0 x1 σ = some out) : pw_CI l E my_M_fail prog_14_method_3_code 2 (some .int) mr_M_fail [.ref x0, .int (iI x1)] σ out := by
  unfold mf_M_fail at h
  refine pw_entryI (by decide) (Nat.le_of_ble_eq_true rfl) (pw_gd_val h) (fun X hX hR hI => ?_)
  change pw_Ok X prog_14_method_3_code "PadeWorkbenchModel" mr_M_fail 2 at hX
  show pw_Sp X 0 0 0 [(0, Value.ref x0), (1, Value.int (iI x1))] [] σ _
  refine sp_aload_n (pc := 0) (k := 0) (i := 0) hX rfl 0 rfl md_M_fail_0 ?_
  refine sp_getR (pc := 1) (ci := 10) (k := 3) (idx := 16) hX mcl_10 (by decide) mq_802 rfl md_M_fail_1 (fun v1 => ?_)
  refine sp_bipush (pc := 4) hX (by decide) md_M_fail_4 ?_
  refine sp_iload_n (pc := 6) (k := 1) (i := 1) hX rfl 1 rfl md_M_fail_6 ?_
  refine sp_isub (pc := 7) hX md_M_fail_7 ?_
  refine sp_dup2 (pc := 8) hX rfl rfl md_M_fail_8 ?_
  refine sp_iaload (pc := 9) hX md_M_fail_9 (fun v2 => ?_)
  refine sp_iconst (pc := 10) hX md_M_fail_10 ?_
  refine sp_iadd (pc := 11) hX md_M_fail_11 ?_
  refine sp_iastore (pc := 12) hX md_M_fail_12 (fun s3 => ?_)
  refine sp_iload_n (pc := 13) (k := 1) (i := 1) hX rfl 1 rfl md_M_fail_13 ?_
  exact sp_iret (pc := 14) hX hR rfl (Nat.le_of_ble_eq_true rfl) md_M_fail_14
/-! PadeWorkbenchModel.prime()I -/
theorem md_M_prime_0 : decode prog_14_method_4_code 0 = .ok (.aload_n 0, 1) := by decide +kernel
theorem md_M_prime_1 : decode prog_14_method_4_code 1 = .ok (.getfield 7, 3) := by decide +kernel
theorem md_M_prime_4 : decode prog_14_method_4_code 4 = .ok (.iconst 0, 1) := by decide +kernel
theorem md_M_prime_5 : decode prog_14_method_4_code 5 = .ok (.iaload, 1) := by decide +kernel
theorem md_M_prime_6 : decode prog_14_method_4_code 6 = .ok (.ireturn, 1) := by decide +kernel
def mf_M_prime (x0 : Nat) (σ : pw_Sto) : Option (Int × pw_Sto) := pw_gd 10 x0 σ ((pw_gr 10 x0 0 σ).bind (fun v1 => (pw_ai v1 (0 : Int) σ).bind (fun v2 => some (v2, σ))))
set_option maxHeartbeats 4000000 in
set_option maxRecDepth 20000 in
theorem mc_M_prime {l : Launch} {E : pw_E} {σ : pw_Sto} {x0 : Nat} {out : Int × pw_Sto} (h : mf_M_prime x0 σ = some out) : pw_CI l E my_M_prime prog_14_method_4_code 1 (some .int) mr_M_prime [.ref x0] σ out := by
  unfold mf_M_prime at h
  refine pw_entryI (by decide) (Nat.le_of_ble_eq_true rfl) (pw_gd_val h) (fun X hX hR hI => ?_)
  change pw_Ok X prog_14_method_4_code "PadeWorkbenchModel" mr_M_prime 1 at hX
  show pw_Sp X 0 0 0 [(0, Value.ref x0)] [] σ _
  refine sp_aload_n (pc := 0) (k := 0) (i := 0) hX rfl 0 rfl md_M_prime_0 ?_
  refine sp_getR (pc := 1) (ci := 10) (k := 0) (idx := 7) hX mcl_10 (by decide) mq_799 rfl md_M_prime_1 (fun v1 => ?_)
  refine sp_iconst (pc := 4) hX md_M_prime_4 ?_
  refine sp_iaload (pc := 5) hX md_M_prime_5 (fun v2 => ?_)
  exact sp_iret (pc := 6) hX hR rfl (Nat.le_of_ble_eq_true rfl) md_M_prime_6
/-! PadeWorkbenchModel.mod(I)I -/
theorem md_M_mod_0 : decode prog_14_method_5_code 0 = .ok (.iload_n 1, 1) := by decide +kernel
theorem md_M_mod_1 : decode prog_14_method_5_code 1 = .ok (.aload_n 0, 1) := by decide +kernel
theorem md_M_mod_2 : decode prog_14_method_5_code 2 = .ok (.invokevirtual 61, 3) := by decide +kernel
theorem md_M_mod_5 : decode prog_14_method_5_code 5 = .ok (.irem, 1) := by decide +kernel
theorem md_M_mod_6 : decode prog_14_method_5_code 6 = .ok (.istore_n 2, 1) := by decide +kernel
theorem md_M_mod_7 : decode prog_14_method_5_code 7 = .ok (.iload_n 2, 1) := by decide +kernel
theorem md_M_mod_8 : decode prog_14_method_5_code 8 = .ok (.ifCond .ge 12, 3) := by decide +kernel
theorem md_M_mod_20 : decode prog_14_method_5_code 20 = .ok (.iload_n 2, 1) := by decide +kernel
theorem md_M_mod_21 : decode prog_14_method_5_code 21 = .ok (.ireturn, 1) := by decide +kernel
theorem md_M_mod_11 : decode prog_14_method_5_code 11 = .ok (.iload_n 2, 1) := by decide +kernel
theorem md_M_mod_12 : decode prog_14_method_5_code 12 = .ok (.aload_n 0, 1) := by decide +kernel
theorem md_M_mod_13 : decode prog_14_method_5_code 13 = .ok (.invokevirtual 61, 3) := by decide +kernel
theorem md_M_mod_16 : decode prog_14_method_5_code 16 = .ok (.iadd, 1) := by decide +kernel
theorem md_M_mod_17 : decode prog_14_method_5_code 17 = .ok (.goto 4, 3) := by decide +kernel
def mf_M_mod (x0 : Nat) (x1 : Int) (σ : pw_Sto) : Option (Int × pw_Sto) := pw_gd 10 x0 σ (pw_bd (mf_M_prime x0 σ) (fun v2 s1 => (pw_rem x1 v2).bind (fun v3 => pw_ck v3 0 (if 0 ≤ v3 then some (v3, s1) else pw_bd (mf_M_prime x0 s1) (fun v5 s4 => some ((v3 + v5), s4))))))
set_option maxHeartbeats 4000000 in
set_option maxRecDepth 20000 in
theorem mc_M_mod {l : Launch} {E : pw_E} {σ : pw_Sto} {x0 : Nat} {x1 : Int} {out : Int × pw_Sto} (h : mf_M_mod x0 x1 σ = some out) : pw_CI l E my_M_mod prog_14_method_5_code 3 (some .int) mr_M_mod [.ref x0, .int (iI x1)] σ out := by
  unfold mf_M_mod at h
  refine pw_entryI (by decide) (Nat.le_of_ble_eq_true rfl) (pw_gd_val h) (fun X hX hR hI => ?_)
  change pw_Ok X prog_14_method_5_code "PadeWorkbenchModel" mr_M_mod 3 at hX
  show pw_Sp X 0 0 0 [(0, Value.ref x0), (1, Value.int (iI x1))] [] σ _
  refine sp_iload_n (pc := 0) (k := 1) (i := 1) hX rfl 1 rfl md_M_mod_0 ?_
  refine sp_aload_n (pc := 1) (k := 0) (i := 0) hX rfl 0 rfl md_M_mod_1 ?_
  refine sp_callVI (pc := 2) (y := my_M_prime) (ccy := prog_14_method_4_code) (nLy := 1) (ret := (some .int)) (rmy := mr_M_prime) (n := 0) (idx := 61) (As := []) (st := [.int (iI x1)]) (o := x0) (cells' := 0) (slots' := 0) hX (fun _ h => mc_M_prime h) mk_M_prime mv_M_prime mcl_10 (fun _ h => pw_gd_of h) mq_878 ⟨(Nat.le_of_ble_eq_true rfl), (Nat.le_of_ble_eq_true rfl)⟩ rfl rfl (Nat.le_of_ble_eq_true rfl) ⟨(Nat.le_of_ble_eq_true rfl), (Nat.le_of_ble_eq_true rfl)⟩ rfl rfl md_M_mod_2 (fun v2 s1 => ?_)
  refine sp_irem (pc := 5) hX md_M_mod_5 (fun v3 => ?_)
  refine sp_istore_n (pc := 6) (k := 2) (i := 2) (L' := [(2, Value.int (iI v3)), (0, Value.ref x0), (1, Value.int (iI x1))]) hX rfl (by decide) rfl md_M_mod_6 ?_
  refine sp_iload_n (pc := 7) (k := 2) (i := 2) hX rfl 0 rfl md_M_mod_7 ?_
  refine sp_if_ge (pc := 8) hX 20 (by decide) md_M_mod_8 (fun _ => ?_) (fun _ => ?_)
  · refine sp_iload_n (pc := 20) (k := 2) (i := 2) hX rfl 0 rfl md_M_mod_20 ?_
    exact sp_iret (pc := 21) hX hR rfl (Nat.le_of_ble_eq_true rfl) md_M_mod_21
  · refine sp_iload_n (pc := 11) (k := 2) (i := 2) hX rfl 0 rfl md_M_mod_11 ?_
    refine sp_aload_n (pc := 12) (k := 0) (i := 0) hX rfl 1 rfl md_M_mod_12 ?_
    refine sp_callVI (pc := 13) (y := my_M_prime) (ccy := prog_14_method_4_code) (nLy := 1) (ret := (some .int)) (rmy := mr_M_prime) (n := 0) (idx := 61) (As := []) (st := [.int (iI v3)]) (o := x0) (cells' := 0) (slots' := 0) hX (fun _ h => mc_M_prime h) mk_M_prime mv_M_prime mcl_10 (fun _ h => pw_gd_of h) mq_878 ⟨(Nat.le_of_ble_eq_true rfl), (Nat.le_of_ble_eq_true rfl)⟩ rfl rfl (Nat.le_of_ble_eq_true rfl) ⟨(Nat.le_of_ble_eq_true rfl), (Nat.le_of_ble_eq_true rfl)⟩ rfl rfl md_M_mod_13 (fun v5 s4 => ?_)
    refine sp_iadd (pc := 16) hX md_M_mod_16 ?_
    refine sp_goto (pc := 17) hX 21 (by decide) md_M_mod_17 ?_
    exact sp_iret (pc := 21) hX hR rfl (Nat.le_of_ble_eq_true rfl) md_M_mod_21
/-! PadeWorkbenchModel.inverse(I)I -/
theorem md_M_inverse_0 : decode prog_14_method_6_code 0 = .ok (.iconst 1, 1) := by decide +kernel
theorem md_M_inverse_1 : decode prog_14_method_6_code 1 = .ok (.istore_n 2, 1) := by decide +kernel
theorem md_M_inverse_2 : decode prog_14_method_6_code 2 = .ok (.iconst 1, 1) := by decide +kernel
theorem md_M_inverse_3 : decode prog_14_method_6_code 3 = .ok (.istore_n 3, 1) := by decide +kernel
theorem md_M_inverse_4 : decode prog_14_method_6_code 4 = .ok (.iload_n 3, 1) := by decide +kernel
theorem md_M_inverse_5 : decode prog_14_method_6_code 5 = .ok (.aload_n 0, 1) := by decide +kernel
theorem md_M_inverse_6 : decode prog_14_method_6_code 6 = .ok (.invokevirtual 61, 3) := by decide +kernel
theorem md_M_inverse_9 : decode prog_14_method_6_code 9 = .ok (.if_icmp .ge 27, 3) := by decide +kernel
theorem md_M_inverse_36 : decode prog_14_method_6_code 36 = .ok (.iload_n 2, 1) := by decide +kernel
theorem md_M_inverse_37 : decode prog_14_method_6_code 37 = .ok (.ireturn, 1) := by decide +kernel
theorem md_M_inverse_12 : decode prog_14_method_6_code 12 = .ok (.iload_n 1, 1) := by decide +kernel
theorem md_M_inverse_13 : decode prog_14_method_6_code 13 = .ok (.iload_n 3, 1) := by decide +kernel
theorem md_M_inverse_14 : decode prog_14_method_6_code 14 = .ok (.imul, 1) := by decide +kernel
theorem md_M_inverse_15 : decode prog_14_method_6_code 15 = .ok (.aload_n 0, 1) := by decide +kernel
theorem md_M_inverse_16 : decode prog_14_method_6_code 16 = .ok (.invokevirtual 61, 3) := by decide +kernel
theorem md_M_inverse_19 : decode prog_14_method_6_code 19 = .ok (.irem, 1) := by decide +kernel
theorem md_M_inverse_20 : decode prog_14_method_6_code 20 = .ok (.iconst 1, 1) := by decide +kernel
theorem md_M_inverse_21 : decode prog_14_method_6_code 21 = .ok (.if_icmp .ne 7, 3) := by decide +kernel
theorem md_M_inverse_28 : decode prog_14_method_6_code 28 = .ok (.iload_n 2, 1) := by decide +kernel
theorem md_M_inverse_29 : decode prog_14_method_6_code 29 = .ok (.istore_n 2, 1) := by decide +kernel
theorem md_M_inverse_30 : decode prog_14_method_6_code 30 = .ok (.iinc 3 1, 3) := by decide +kernel
theorem md_M_inverse_33 : decode prog_14_method_6_code 33 = .ok (.goto (-29), 3) := by decide +kernel
theorem md_M_inverse_24 : decode prog_14_method_6_code 24 = .ok (.iload_n 3, 1) := by decide +kernel
theorem md_M_inverse_25 : decode prog_14_method_6_code 25 = .ok (.goto 4, 3) := by decide +kernel
def mb_M_inverse_4 (rc : Nat → Int → Int → Int → pw_Sto → Option (Int × pw_Sto)) : Nat → Int → Int → Int → pw_Sto → Option (Int × pw_Sto) := fun x0 x1 x2 x3 σ => pw_bd (mf_M_prime x0 σ) (fun v2 s1 => pw_ck x3 v2 (if v2 ≤ x3 then some (x2, s1) else pw_bd (mf_M_prime x0 s1) (fun v4 s3 => (pw_rem (x1 * x3) v4).bind (fun v5 => pw_ck v5 (1 : Int) (if v5 = (1 : Int) then rc x0 x1 x3 (x3 + 1) s3 else rc x0 x1 x2 (x3 + 1) s3)))))
def ml_M_inverse_4 : Nat → Nat → Int → Int → Int → pw_Sto → Option (Int × pw_Sto) := pw_lp (fun _ _ _ _ _ => none) (mb_M_inverse_4)
def mf_M_inverse (x0 : Nat) (x1 : Int) (σ : pw_Sto) : Option (Int × pw_Sto) := pw_gd 10 x0 σ (ml_M_inverse_4 1000 x0 x1 (1 : Int) (1 : Int) σ)
set_option maxHeartbeats 4000000 in
set_option maxRecDepth 20000 in
theorem sl_M_inverse_4 {X : pw_X Int} (hX : pw_Ok X prog_14_method_6_code "PadeWorkbenchModel" mr_M_inverse 4) (hR : pw_RI X prog_14_method_6_code) : ∀ (n : Nat) (x0 : Nat) (x1 : Int) (x2 : Int) (x3 : Int) (σ : pw_Sto), pw_Sp X 0 0 4 [(0, Value.ref x0), (1, Value.int (iI x1)), (2, Value.int (iI x2)), (3, Value.int (iI x3))] [] σ (ml_M_inverse_4 n x0 x1 x2 x3 σ) := by
  intro n
  induction n with
  | zero => intros; exact pw_none
  | succ n ih =>
    intro x0 x1 x2 x3 σ
    show pw_Sp X 0 0 4 _ _ σ (mb_M_inverse_4 (ml_M_inverse_4 n) x0 x1 x2 x3 σ)
    unfold mb_M_inverse_4
    refine sp_iload_n (pc := 4) (k := 3) (i := 3) hX rfl 3 rfl md_M_inverse_4 ?_
    refine sp_aload_n (pc := 5) (k := 0) (i := 0) hX rfl 0 rfl md_M_inverse_5 ?_
    refine sp_callVI (pc := 6) (y := my_M_prime) (ccy := prog_14_method_4_code) (nLy := 1) (ret := (some .int)) (rmy := mr_M_prime) (n := 0) (idx := 61) (As := []) (st := [.int (iI x3)]) (o := x0) (cells' := 0) (slots' := 0) hX (fun _ h => mc_M_prime h) mk_M_prime mv_M_prime mcl_10 (fun _ h => pw_gd_of h) mq_878 ⟨(Nat.le_of_ble_eq_true rfl), (Nat.le_of_ble_eq_true rfl)⟩ rfl rfl (Nat.le_of_ble_eq_true rfl) ⟨(Nat.le_of_ble_eq_true rfl), (Nat.le_of_ble_eq_true rfl)⟩ rfl rfl md_M_inverse_6 (fun v2 s1 => ?_)
    refine sp_icmp_ge (pc := 9) hX 36 (by decide) md_M_inverse_9 (fun _ => ?_) (fun _ => ?_)
    · refine sp_iload_n (pc := 36) (k := 2) (i := 2) hX rfl 2 rfl md_M_inverse_36 ?_
      exact sp_iret (pc := 37) hX hR rfl (Nat.le_of_ble_eq_true rfl) md_M_inverse_37
    · refine sp_iload_n (pc := 12) (k := 1) (i := 1) hX rfl 1 rfl md_M_inverse_12 ?_
      refine sp_iload_n (pc := 13) (k := 3) (i := 3) hX rfl 3 rfl md_M_inverse_13 ?_
      refine sp_imul (pc := 14) hX md_M_inverse_14 ?_
      refine sp_aload_n (pc := 15) (k := 0) (i := 0) hX rfl 0 rfl md_M_inverse_15 ?_
      refine sp_callVI (pc := 16) (y := my_M_prime) (ccy := prog_14_method_4_code) (nLy := 1) (ret := (some .int)) (rmy := mr_M_prime) (n := 0) (idx := 61) (As := []) (st := [.int (iI (x1 * x3))]) (o := x0) (cells' := 0) (slots' := 0) hX (fun _ h => mc_M_prime h) mk_M_prime mv_M_prime mcl_10 (fun _ h => pw_gd_of h) mq_878 ⟨(Nat.le_of_ble_eq_true rfl), (Nat.le_of_ble_eq_true rfl)⟩ rfl rfl (Nat.le_of_ble_eq_true rfl) ⟨(Nat.le_of_ble_eq_true rfl), (Nat.le_of_ble_eq_true rfl)⟩ rfl rfl md_M_inverse_16 (fun v4 s3 => ?_)
      refine sp_irem (pc := 19) hX md_M_inverse_19 (fun v5 => ?_)
      refine sp_iconst (pc := 20) hX md_M_inverse_20 ?_
      refine sp_icmp_ne (pc := 21) hX 28 (by decide) md_M_inverse_21 (fun _ => ?_) (fun _ => ?_)
      · refine sp_iload_n (pc := 24) (k := 3) (i := 3) hX rfl 3 rfl md_M_inverse_24 ?_
        refine sp_goto (pc := 25) hX 29 (by decide) md_M_inverse_25 ?_
        refine sp_istore_n (pc := 29) (k := 2) (i := 2) (L' := [(2, Value.int (iI x3)), (0, Value.ref x0), (1, Value.int (iI x1)), (3, Value.int (iI x3))]) hX rfl (by decide) rfl md_M_inverse_29 ?_
        refine sp_iinc (pc := 30) (i := 3) (L' := [(3, Value.int (iI (x3 + 1))), (2, Value.int (iI x3)), (0, Value.ref x0), (1, Value.int (iI x1))]) hX 3 rfl (by decide) rfl md_M_inverse_30 ?_
        refine sp_goto (pc := 33) hX 4 (by decide) md_M_inverse_33 ?_
        refine sp_sub [2, 3, 1, 0] (L' := [(0, Value.ref x0), (1, Value.int (iI x1)), (2, Value.int (iI x3)), (3, Value.int (iI (x3 + 1)))]) rfl ?_
        exact ih x0 x1 x3 (x3 + 1) s3
      · refine sp_iload_n (pc := 28) (k := 2) (i := 2) hX rfl 2 rfl md_M_inverse_28 ?_
        refine sp_istore_n (pc := 29) (k := 2) (i := 2) (L' := [(2, Value.int (iI x2)), (0, Value.ref x0), (1, Value.int (iI x1)), (3, Value.int (iI x3))]) hX rfl (by decide) rfl md_M_inverse_29 ?_
        refine sp_iinc (pc := 30) (i := 3) (L' := [(3, Value.int (iI (x3 + 1))), (2, Value.int (iI x2)), (0, Value.ref x0), (1, Value.int (iI x1))]) hX 3 rfl (by decide) rfl md_M_inverse_30 ?_
        refine sp_goto (pc := 33) hX 4 (by decide) md_M_inverse_33 ?_
        refine sp_sub [2, 3, 1, 0] (L' := [(0, Value.ref x0), (1, Value.int (iI x1)), (2, Value.int (iI x2)), (3, Value.int (iI (x3 + 1)))]) rfl ?_
        exact ih x0 x1 x2 (x3 + 1) s3
set_option maxHeartbeats 4000000 in
set_option maxRecDepth 20000 in
theorem mc_M_inverse {l : Launch} {E : pw_E} {σ : pw_Sto} {x0 : Nat} {x1 : Int} {out : Int × pw_Sto} (h : mf_M_inverse x0 x1 σ = some out) : pw_CI l E my_M_inverse prog_14_method_6_code 4 (some .int) mr_M_inverse [.ref x0, .int (iI x1)] σ out := by
  unfold mf_M_inverse at h
  refine pw_entryI (by decide) (Nat.le_of_ble_eq_true rfl) (pw_gd_val h) (fun X hX hR hI => ?_)
  change pw_Ok X prog_14_method_6_code "PadeWorkbenchModel" mr_M_inverse 4 at hX
  show pw_Sp X 0 0 0 [(0, Value.ref x0), (1, Value.int (iI x1))] [] σ _
  refine sp_iconst (pc := 0) hX md_M_inverse_0 ?_
  refine sp_istore_n (pc := 1) (k := 2) (i := 2) (L' := [(2, Value.int (iI (1 : Int))), (0, Value.ref x0), (1, Value.int (iI x1))]) hX rfl (by decide) rfl md_M_inverse_1 ?_
  refine sp_iconst (pc := 2) hX md_M_inverse_2 ?_
  refine sp_istore_n (pc := 3) (k := 3) (i := 3) (L' := [(3, Value.int (iI (1 : Int))), (2, Value.int (iI (1 : Int))), (0, Value.ref x0), (1, Value.int (iI x1))]) hX rfl (by decide) rfl md_M_inverse_3 ?_
  refine sp_sub [2, 3, 1, 0] (L' := [(0, Value.ref x0), (1, Value.int (iI x1)), (2, Value.int (iI (1 : Int))), (3, Value.int (iI (1 : Int)))]) rfl ?_
  exact sl_M_inverse_4 hX hR 1000 x0 x1 (1 : Int) (1 : Int) σ
/-! PadeWorkbenchModel.isPrime(I)Z -/
theorem md_M_isPrime_0 : decode prog_14_method_7_code 0 = .ok (.iload_n 0, 1) := by decide +kernel
theorem md_M_isPrime_1 : decode prog_14_method_7_code 1 = .ok (.iconst 2, 1) := by decide +kernel
theorem md_M_isPrime_2 : decode prog_14_method_7_code 2 = .ok (.sipush 251, 3) := by decide +kernel
theorem md_M_isPrime_5 : decode prog_14_method_7_code 5 = .ok (.invokestatic 65, 3) := by decide +kernel
theorem md_M_isPrime_8 : decode prog_14_method_7_code 8 = .ok (.istore_n 1, 1) := by decide +kernel
theorem md_M_isPrime_9 : decode prog_14_method_7_code 9 = .ok (.iconst 2, 1) := by decide +kernel
theorem md_M_isPrime_10 : decode prog_14_method_7_code 10 = .ok (.istore_n 2, 1) := by decide +kernel
theorem md_M_isPrime_11 : decode prog_14_method_7_code 11 = .ok (.iload_n 2, 1) := by decide +kernel
theorem md_M_isPrime_12 : decode prog_14_method_7_code 12 = .ok (.iload_n 0, 1) := by decide +kernel
theorem md_M_isPrime_13 : decode prog_14_method_7_code 13 = .ok (.if_icmp .ge 25, 3) := by decide +kernel
theorem md_M_isPrime_38 : decode prog_14_method_7_code 38 = .ok (.iload_n 1, 1) := by decide +kernel
theorem md_M_isPrime_39 : decode prog_14_method_7_code 39 = .ok (.ireturn, 1) := by decide +kernel
theorem md_M_isPrime_16 : decode prog_14_method_7_code 16 = .ok (.iload_n 1, 1) := by decide +kernel
theorem md_M_isPrime_17 : decode prog_14_method_7_code 17 = .ok (.ifCond .eq 21, 3) := by decide +kernel
theorem md_M_isPrime_20 : decode prog_14_method_7_code 20 = .ok (.iload_n 0, 1) := by decide +kernel
theorem md_M_isPrime_21 : decode prog_14_method_7_code 21 = .ok (.iload_n 2, 1) := by decide +kernel
theorem md_M_isPrime_22 : decode prog_14_method_7_code 22 = .ok (.irem, 1) := by decide +kernel
theorem md_M_isPrime_23 : decode prog_14_method_7_code 23 = .ok (.ifCond .eq 7, 3) := by decide +kernel
theorem md_M_isPrime_30 : decode prog_14_method_7_code 30 = .ok (.iconst 0, 1) := by decide +kernel
theorem md_M_isPrime_31 : decode prog_14_method_7_code 31 = .ok (.istore_n 1, 1) := by decide +kernel
theorem md_M_isPrime_32 : decode prog_14_method_7_code 32 = .ok (.iinc 2 1, 3) := by decide +kernel
theorem md_M_isPrime_35 : decode prog_14_method_7_code 35 = .ok (.goto (-24), 3) := by decide +kernel
theorem md_M_isPrime_26 : decode prog_14_method_7_code 26 = .ok (.iconst 1, 1) := by decide +kernel
theorem md_M_isPrime_27 : decode prog_14_method_7_code 27 = .ok (.goto 4, 3) := by decide +kernel
def mb_M_isPrime_11 (rc : Int → Int → Int → pw_Sto → Option (Int × pw_Sto)) : Int → Int → Int → pw_Sto → Option (Int × pw_Sto) := fun x0 x1 x2 σ => pw_ck x2 x0 (if x0 ≤ x2 then pw_z x1 σ else pw_ck x1 0 (if x1 = 0 then pw_z x1 σ else (pw_rem x0 x2).bind (fun v3 => pw_ck v3 0 (if v3 = 0 then rc x0 (0 : Int) (x2 + 1) σ else rc x0 (1 : Int) (x2 + 1) σ))))
def ml_M_isPrime_11 : Nat → Int → Int → Int → pw_Sto → Option (Int × pw_Sto) := pw_lp (fun _ _ _ _ => none) (mb_M_isPrime_11)
def mf_M_isPrime (x0 : Int) (σ : pw_Sto) : Option (Int × pw_Sto) := pw_bd (mf_M_in x0 (2 : Int) (251 : Int) σ) (fun v2 s1 => ml_M_isPrime_11 1000 x0 v2 (2 : Int) s1)
set_option maxHeartbeats 4000000 in
set_option maxRecDepth 20000 in
theorem sl_M_isPrime_11 {X : pw_X Int} (hX : pw_Ok X prog_14_method_7_code "PadeWorkbenchModel" mr_M_isPrime 3) (hR : pw_RZ X prog_14_method_7_code) : ∀ (n : Nat) (x0 : Int) (x1 : Int) (x2 : Int) (σ : pw_Sto), pw_Sp X 0 0 11 [(0, Value.int (iI x0)), (1, Value.int (iI x1)), (2, Value.int (iI x2))] [] σ (ml_M_isPrime_11 n x0 x1 x2 σ) := by
  intro n
  induction n with
  | zero => intros; exact pw_none
  | succ n ih =>
    intro x0 x1 x2 σ
    show pw_Sp X 0 0 11 _ _ σ (mb_M_isPrime_11 (ml_M_isPrime_11 n) x0 x1 x2 σ)
    unfold mb_M_isPrime_11
    refine sp_iload_n (pc := 11) (k := 2) (i := 2) hX rfl 2 rfl md_M_isPrime_11 ?_
    refine sp_iload_n (pc := 12) (k := 0) (i := 0) hX rfl 0 rfl md_M_isPrime_12 ?_
    refine sp_icmp_ge (pc := 13) hX 38 (by decide) md_M_isPrime_13 (fun _ => ?_) (fun _ => ?_)
    · refine sp_iload_n (pc := 38) (k := 1) (i := 1) hX rfl 1 rfl md_M_isPrime_38 ?_
      exact sp_zretg (pc := 39) hX hR rfl (Nat.le_of_ble_eq_true rfl) md_M_isPrime_39
    · refine sp_iload_n (pc := 16) (k := 1) (i := 1) hX rfl 1 rfl md_M_isPrime_16 ?_
      refine sp_if_eq (pc := 17) hX 38 (by decide) md_M_isPrime_17 (fun _ => ?_) (fun _ => ?_)
      · refine sp_iload_n (pc := 38) (k := 1) (i := 1) hX rfl 1 rfl md_M_isPrime_38 ?_
        exact sp_zretg (pc := 39) hX hR rfl (Nat.le_of_ble_eq_true rfl) md_M_isPrime_39
      · refine sp_iload_n (pc := 20) (k := 0) (i := 0) hX rfl 0 rfl md_M_isPrime_20 ?_
        refine sp_iload_n (pc := 21) (k := 2) (i := 2) hX rfl 2 rfl md_M_isPrime_21 ?_
        refine sp_irem (pc := 22) hX md_M_isPrime_22 (fun v3 => ?_)
        refine sp_if_eq (pc := 23) hX 30 (by decide) md_M_isPrime_23 (fun _ => ?_) (fun _ => ?_)
        · refine sp_iconst (pc := 30) hX md_M_isPrime_30 ?_
          refine sp_istore_n (pc := 31) (k := 1) (i := 1) (L' := [(1, Value.int (iI (0 : Int))), (0, Value.int (iI x0)), (2, Value.int (iI x2))]) hX rfl (by decide) rfl md_M_isPrime_31 ?_
          refine sp_iinc (pc := 32) (i := 2) (L' := [(2, Value.int (iI (x2 + 1))), (1, Value.int (iI (0 : Int))), (0, Value.int (iI x0))]) hX 2 rfl (by decide) rfl md_M_isPrime_32 ?_
          refine sp_goto (pc := 35) hX 11 (by decide) md_M_isPrime_35 ?_
          refine sp_sub [2, 1, 0] (L' := [(0, Value.int (iI x0)), (1, Value.int (iI (0 : Int))), (2, Value.int (iI (x2 + 1)))]) rfl ?_
          exact ih x0 (0 : Int) (x2 + 1) σ
        · refine sp_iconst (pc := 26) hX md_M_isPrime_26 ?_
          refine sp_goto (pc := 27) hX 31 (by decide) md_M_isPrime_27 ?_
          refine sp_istore_n (pc := 31) (k := 1) (i := 1) (L' := [(1, Value.int (iI (1 : Int))), (0, Value.int (iI x0)), (2, Value.int (iI x2))]) hX rfl (by decide) rfl md_M_isPrime_31 ?_
          refine sp_iinc (pc := 32) (i := 2) (L' := [(2, Value.int (iI (x2 + 1))), (1, Value.int (iI (1 : Int))), (0, Value.int (iI x0))]) hX 2 rfl (by decide) rfl md_M_isPrime_32 ?_
          refine sp_goto (pc := 35) hX 11 (by decide) md_M_isPrime_35 ?_
          refine sp_sub [2, 1, 0] (L' := [(0, Value.int (iI x0)), (1, Value.int (iI (1 : Int))), (2, Value.int (iI (x2 + 1)))]) rfl ?_
          exact ih x0 (1 : Int) (x2 + 1) σ
set_option maxHeartbeats 4000000 in
set_option maxRecDepth 20000 in
theorem mc_M_isPrime {l : Launch} {E : pw_E} {σ : pw_Sto} {x0 : Int} {out : Int × pw_Sto} (h : mf_M_isPrime x0 σ = some out) : pw_CI l E my_M_isPrime prog_14_method_7_code 3 (some .boolean) mr_M_isPrime [.int (iI x0)] σ out := by
  unfold mf_M_isPrime at h
  refine pw_entryZ (by decide) (Nat.le_of_ble_eq_true rfl) h (fun X hX hR hI => ?_)
  change pw_Ok X prog_14_method_7_code "PadeWorkbenchModel" mr_M_isPrime 3 at hX
  show pw_Sp X 0 0 0 [(0, Value.int (iI x0))] [] σ _
  refine sp_iload_n (pc := 0) (k := 0) (i := 0) hX rfl 0 rfl md_M_isPrime_0 ?_
  refine sp_iconst (pc := 1) hX md_M_isPrime_1 ?_
  refine sp_sipush (pc := 2) hX (by decide) md_M_isPrime_2 ?_
  refine sp_callSI (pc := 5) (y := my_M_in) (ccy := prog_14_method_2_code) (nLy := 3) (ret := (some .boolean)) (rmy := mr_M_in) (n := 3) (idx := 65) (As := [.int (iI x0), .int (iI (2 : Int)), .int (iI (251 : Int))]) (st := []) (cells' := 0) (slots' := 0) hX (fun _ h => mc_M_in h) mk_M_in mq_868 mq_867 ⟨(Nat.le_of_ble_eq_true rfl), (Nat.le_of_ble_eq_true rfl)⟩ rfl rfl (Nat.le_of_ble_eq_true rfl) ⟨(Nat.le_of_ble_eq_true rfl), (Nat.le_of_ble_eq_true rfl)⟩ rfl rfl md_M_isPrime_5 (fun v2 s1 => ?_)
  refine sp_istore_n (pc := 8) (k := 1) (i := 1) (L' := [(1, Value.int (iI v2)), (0, Value.int (iI x0))]) hX rfl (by decide) rfl md_M_isPrime_8 ?_
  refine sp_iconst (pc := 9) hX md_M_isPrime_9 ?_
  refine sp_istore_n (pc := 10) (k := 2) (i := 2) (L' := [(2, Value.int (iI (2 : Int))), (1, Value.int (iI v2)), (0, Value.int (iI x0))]) hX rfl (by decide) rfl md_M_isPrime_10 ?_
  refine sp_sub [2, 1, 0] (L' := [(0, Value.int (iI x0)), (1, Value.int (iI v2)), (2, Value.int (iI (2 : Int)))]) rfl ?_
  exact sl_M_isPrime_11 hX hR 1000 x0 v2 (2 : Int) s1
/-! PadeWorkbenchModel.isSlot(I)Z -/
theorem md_M_isSlot_0 : decode prog_14_method_8_code 0 = .ok (.iload_n 0, 1) := by decide +kernel
theorem md_M_isSlot_1 : decode prog_14_method_8_code 1 = .ok (.iconst 0, 1) := by decide +kernel
theorem md_M_isSlot_2 : decode prog_14_method_8_code 2 = .ok (.iconst 3, 1) := by decide +kernel
theorem md_M_isSlot_3 : decode prog_14_method_8_code 3 = .ok (.invokestatic 65, 3) := by decide +kernel
theorem md_M_isSlot_6 : decode prog_14_method_8_code 6 = .ok (.ireturn, 1) := by decide +kernel
def mf_M_isSlot (x0 : Int) (σ : pw_Sto) : Option (Int × pw_Sto) := pw_bd (mf_M_in x0 (0 : Int) (3 : Int) σ) (fun v2 s1 => pw_z v2 s1)
set_option maxHeartbeats 4000000 in
set_option maxRecDepth 20000 in
theorem mc_M_isSlot {l : Launch} {E : pw_E} {σ : pw_Sto} {x0 : Int} {out : Int × pw_Sto} (h : mf_M_isSlot x0 σ = some out) : pw_CI l E my_M_isSlot prog_14_method_8_code 1 (some .boolean) mr_M_isSlot [.int (iI x0)] σ out := by
  unfold mf_M_isSlot at h
  refine pw_entryZ (by decide) (Nat.le_of_ble_eq_true rfl) h (fun X hX hR hI => ?_)
  change pw_Ok X prog_14_method_8_code "PadeWorkbenchModel" mr_M_isSlot 1 at hX
  show pw_Sp X 0 0 0 [(0, Value.int (iI x0))] [] σ _
  refine sp_iload_n (pc := 0) (k := 0) (i := 0) hX rfl 0 rfl md_M_isSlot_0 ?_
  refine sp_iconst (pc := 1) hX md_M_isSlot_1 ?_
  refine sp_iconst (pc := 2) hX md_M_isSlot_2 ?_
  refine sp_callSI (pc := 3) (y := my_M_in) (ccy := prog_14_method_2_code) (nLy := 3) (ret := (some .boolean)) (rmy := mr_M_in) (n := 3) (idx := 65) (As := [.int (iI x0), .int (iI (0 : Int)), .int (iI (3 : Int))]) (st := []) (cells' := 0) (slots' := 0) hX (fun _ h => mc_M_in h) mk_M_in mq_868 mq_867 ⟨(Nat.le_of_ble_eq_true rfl), (Nat.le_of_ble_eq_true rfl)⟩ rfl rfl (Nat.le_of_ble_eq_true rfl) ⟨(Nat.le_of_ble_eq_true rfl), (Nat.le_of_ble_eq_true rfl)⟩ rfl rfl md_M_isSlot_3 (fun v2 s1 => ?_)
  exact sp_zretg (pc := 6) hX hR rfl (Nat.le_of_ble_eq_true rfl) md_M_isSlot_6
/-! PadeWorkbenchModel.term(II)I -/
theorem md_M_term_0 : decode prog_14_method_9_code 0 = .ok (.aload_n 0, 1) := by decide +kernel
theorem md_M_term_1 : decode prog_14_method_9_code 1 = .ok (.getfield 7, 3) := by decide +kernel
theorem md_M_term_4 : decode prog_14_method_9_code 4 = .ok (.iconst 1, 1) := by decide +kernel
theorem md_M_term_5 : decode prog_14_method_9_code 5 = .ok (.bipush 16, 2) := by decide +kernel
theorem md_M_term_7 : decode prog_14_method_9_code 7 = .ok (.iload_n 1, 1) := by decide +kernel
theorem md_M_term_8 : decode prog_14_method_9_code 8 = .ok (.imul, 1) := by decide +kernel
theorem md_M_term_9 : decode prog_14_method_9_code 9 = .ok (.iadd, 1) := by decide +kernel
theorem md_M_term_10 : decode prog_14_method_9_code 10 = .ok (.iload_n 2, 1) := by decide +kernel
theorem md_M_term_11 : decode prog_14_method_9_code 11 = .ok (.iadd, 1) := by decide +kernel
theorem md_M_term_12 : decode prog_14_method_9_code 12 = .ok (.iaload, 1) := by decide +kernel
theorem md_M_term_13 : decode prog_14_method_9_code 13 = .ok (.ireturn, 1) := by decide +kernel
def mf_M_term (x0 : Nat) (x1 : Int) (x2 : Int) (σ : pw_Sto) : Option (Int × pw_Sto) := pw_gd 10 x0 σ ((pw_gr 10 x0 0 σ).bind (fun v1 => (pw_ai v1 (((1 : Int) + ((16 : Int) * x1)) + x2) σ).bind (fun v2 => some (v2, σ))))
set_option maxHeartbeats 4000000 in
set_option maxRecDepth 20000 in
theorem mc_M_term {l : Launch} {E : pw_E} {σ : pw_Sto} {x0 : Nat} {x1 : Int} {x2 : Int} {out : Int × pw_Sto} (h : mf_M_term x0 x1 x2 σ = some out) : pw_CI l E my_M_term prog_14_method_9_code 3 (some .int) mr_M_term [.ref x0, .int (iI x1), .int (iI x2)] σ out := by
  unfold mf_M_term at h
  refine pw_entryI (by decide) (Nat.le_of_ble_eq_true rfl) (pw_gd_val h) (fun X hX hR hI => ?_)
  change pw_Ok X prog_14_method_9_code "PadeWorkbenchModel" mr_M_term 3 at hX
  show pw_Sp X 0 0 0 [(0, Value.ref x0), (1, Value.int (iI x1)), (2, Value.int (iI x2))] [] σ _
  refine sp_aload_n (pc := 0) (k := 0) (i := 0) hX rfl 0 rfl md_M_term_0 ?_
  refine sp_getR (pc := 1) (ci := 10) (k := 0) (idx := 7) hX mcl_10 (by decide) mq_799 rfl md_M_term_1 (fun v1 => ?_)
  refine sp_iconst (pc := 4) hX md_M_term_4 ?_
  refine sp_bipush (pc := 5) hX (by decide) md_M_term_5 ?_
  refine sp_iload_n (pc := 7) (k := 1) (i := 1) hX rfl 1 rfl md_M_term_7 ?_
  refine sp_imul (pc := 8) hX md_M_term_8 ?_
  refine sp_iadd (pc := 9) hX md_M_term_9 ?_
  refine sp_iload_n (pc := 10) (k := 2) (i := 2) hX rfl 2 rfl md_M_term_10 ?_
  refine sp_iadd (pc := 11) hX md_M_term_11 ?_
  refine sp_iaload (pc := 12) hX md_M_term_12 (fun v2 => ?_)
  exact sp_iret (pc := 13) hX hR rfl (Nat.le_of_ble_eq_true rfl) md_M_term_13
/-! PadeWorkbenchModel.save()V -/
theorem md_M_save_0 : decode prog_14_method_10_code 0 = .ok (.aload_n 0, 1) := by decide +kernel
theorem md_M_save_1 : decode prog_14_method_10_code 1 = .ok (.getfield 69, 3) := by decide +kernel
theorem md_M_save_4 : decode prog_14_method_10_code 4 = .ok (.iconst 4, 1) := by decide +kernel
theorem md_M_save_5 : decode prog_14_method_10_code 5 = .ok (.if_icmp .ne 43, 3) := by decide +kernel
theorem md_M_save_48 : decode prog_14_method_10_code 48 = .ok (.iconst 0, 1) := by decide +kernel
theorem md_M_save_49 : decode prog_14_method_10_code 49 = .ok (.istore_n 1, 1) := by decide +kernel
theorem md_M_save_50 : decode prog_14_method_10_code 50 = .ok (.iload_n 1, 1) := by decide +kernel
theorem md_M_save_51 : decode prog_14_method_10_code 51 = .ok (.bipush 86, 2) := by decide +kernel
theorem md_M_save_53 : decode prog_14_method_10_code 53 = .ok (.if_icmp .ge 29, 3) := by decide +kernel
theorem md_M_save_82 : decode prog_14_method_10_code 82 = .ok (.aload_n 0, 1) := by decide +kernel
theorem md_M_save_83 : decode prog_14_method_10_code 83 = .ok (.dup, 1) := by decide +kernel
theorem md_M_save_84 : decode prog_14_method_10_code 84 = .ok (.getfield 69, 3) := by decide +kernel
theorem md_M_save_87 : decode prog_14_method_10_code 87 = .ok (.iconst 1, 1) := by decide +kernel
theorem md_M_save_88 : decode prog_14_method_10_code 88 = .ok (.iadd, 1) := by decide +kernel
theorem md_M_save_89 : decode prog_14_method_10_code 89 = .ok (.putfield 69, 3) := by decide +kernel
theorem md_M_save_92 : decode prog_14_method_10_code 92 = .ok (.return_, 1) := by decide +kernel
theorem md_M_save_56 : decode prog_14_method_10_code 56 = .ok (.aload_n 0, 1) := by decide +kernel
theorem md_M_save_57 : decode prog_14_method_10_code 57 = .ok (.getfield 13, 3) := by decide +kernel
theorem md_M_save_60 : decode prog_14_method_10_code 60 = .ok (.bipush 86, 2) := by decide +kernel
theorem md_M_save_62 : decode prog_14_method_10_code 62 = .ok (.aload_n 0, 1) := by decide +kernel
theorem md_M_save_63 : decode prog_14_method_10_code 63 = .ok (.getfield 69, 3) := by decide +kernel
theorem md_M_save_66 : decode prog_14_method_10_code 66 = .ok (.imul, 1) := by decide +kernel
theorem md_M_save_67 : decode prog_14_method_10_code 67 = .ok (.iload_n 1, 1) := by decide +kernel
theorem md_M_save_68 : decode prog_14_method_10_code 68 = .ok (.iadd, 1) := by decide +kernel
theorem md_M_save_69 : decode prog_14_method_10_code 69 = .ok (.aload_n 0, 1) := by decide +kernel
theorem md_M_save_70 : decode prog_14_method_10_code 70 = .ok (.getfield 7, 3) := by decide +kernel
theorem md_M_save_73 : decode prog_14_method_10_code 73 = .ok (.iload_n 1, 1) := by decide +kernel
theorem md_M_save_74 : decode prog_14_method_10_code 74 = .ok (.iaload, 1) := by decide +kernel
theorem md_M_save_75 : decode prog_14_method_10_code 75 = .ok (.iastore, 1) := by decide +kernel
theorem md_M_save_76 : decode prog_14_method_10_code 76 = .ok (.iinc 1 1, 3) := by decide +kernel
theorem md_M_save_79 : decode prog_14_method_10_code 79 = .ok (.goto (-29), 3) := by decide +kernel
theorem md_M_save_8 : decode prog_14_method_10_code 8 = .ok (.iconst 0, 1) := by decide +kernel
theorem md_M_save_9 : decode prog_14_method_10_code 9 = .ok (.istore_n 1, 1) := by decide +kernel
theorem md_M_save_10 : decode prog_14_method_10_code 10 = .ok (.iload_n 1, 1) := by decide +kernel
theorem md_M_save_11 : decode prog_14_method_10_code 11 = .ok (.sipush 258, 3) := by decide +kernel
theorem md_M_save_14 : decode prog_14_method_10_code 14 = .ok (.if_icmp .ge 24, 3) := by decide +kernel
theorem md_M_save_38 : decode prog_14_method_10_code 38 = .ok (.aload_n 0, 1) := by decide +kernel
theorem md_M_save_39 : decode prog_14_method_10_code 39 = .ok (.dup, 1) := by decide +kernel
theorem md_M_save_40 : decode prog_14_method_10_code 40 = .ok (.getfield 69, 3) := by decide +kernel
theorem md_M_save_43 : decode prog_14_method_10_code 43 = .ok (.iconst 1, 1) := by decide +kernel
theorem md_M_save_44 : decode prog_14_method_10_code 44 = .ok (.isub, 1) := by decide +kernel
theorem md_M_save_45 : decode prog_14_method_10_code 45 = .ok (.putfield 69, 3) := by decide +kernel
theorem md_M_save_17 : decode prog_14_method_10_code 17 = .ok (.aload_n 0, 1) := by decide +kernel
theorem md_M_save_18 : decode prog_14_method_10_code 18 = .ok (.getfield 13, 3) := by decide +kernel
theorem md_M_save_21 : decode prog_14_method_10_code 21 = .ok (.iload_n 1, 1) := by decide +kernel
theorem md_M_save_22 : decode prog_14_method_10_code 22 = .ok (.aload_n 0, 1) := by decide +kernel
theorem md_M_save_23 : decode prog_14_method_10_code 23 = .ok (.getfield 13, 3) := by decide +kernel
theorem md_M_save_26 : decode prog_14_method_10_code 26 = .ok (.iload_n 1, 1) := by decide +kernel
theorem md_M_save_27 : decode prog_14_method_10_code 27 = .ok (.bipush 86, 2) := by decide +kernel
theorem md_M_save_29 : decode prog_14_method_10_code 29 = .ok (.iadd, 1) := by decide +kernel
theorem md_M_save_30 : decode prog_14_method_10_code 30 = .ok (.iaload, 1) := by decide +kernel
theorem md_M_save_31 : decode prog_14_method_10_code 31 = .ok (.iastore, 1) := by decide +kernel
theorem md_M_save_32 : decode prog_14_method_10_code 32 = .ok (.iinc 1 1, 3) := by decide +kernel
theorem md_M_save_35 : decode prog_14_method_10_code 35 = .ok (.goto (-25), 3) := by decide +kernel
def mb_M_save_50 (rc : Nat → Int → pw_Sto → Option (Unit × pw_Sto)) : Nat → Int → pw_Sto → Option (Unit × pw_Sto) := fun x0 x1 σ => pw_ck x1 (86 : Int) (if (86 : Int) ≤ x1 then (pw_gi 10 x0 2 σ).bind (fun v2 => (pw_pi 10 x0 2 (v2 + (1 : Int)) σ).bind (fun s3 => some ((), s3))) else (pw_gr 10 x0 1 σ).bind (fun v4 => (pw_gi 10 x0 2 σ).bind (fun v5 => (pw_gr 10 x0 0 σ).bind (fun v6 => (pw_ai v6 x1 σ).bind (fun v7 => (pw_si v4 (((86 : Int) * v5) + x1) v7 σ).bind (fun s8 => rc x0 (x1 + 1) s8))))))
def ml_M_save_50 : Nat → Nat → Int → pw_Sto → Option (Unit × pw_Sto) := pw_lp (fun _ _ _ => none) (mb_M_save_50)
def mb_M_save_10 (rc : Nat → Int → pw_Sto → Option (Unit × pw_Sto)) : Nat → Int → pw_Sto → Option (Unit × pw_Sto) := fun x0 x1 σ => pw_ck x1 (258 : Int) (if (258 : Int) ≤ x1 then (pw_gi 10 x0 2 σ).bind (fun v9 => (pw_pi 10 x0 2 (v9 - (1 : Int)) σ).bind (fun s10 => ml_M_save_50 1000 x0 (0 : Int) s10)) else (pw_gr 10 x0 1 σ).bind (fun v11 => (pw_gr 10 x0 1 σ).bind (fun v12 => (pw_ai v12 (x1 + (86 : Int)) σ).bind (fun v13 => (pw_si v11 x1 v13 σ).bind (fun s14 => rc x0 (x1 + 1) s14)))))
def ml_M_save_10 : Nat → Nat → Int → pw_Sto → Option (Unit × pw_Sto) := pw_lp (fun _ _ _ => none) (mb_M_save_10)
def mf_M_save (x0 : Nat) (σ : pw_Sto) : Option (Unit × pw_Sto) := pw_gd 10 x0 σ ((pw_gi 10 x0 2 σ).bind (fun v1 => pw_ck v1 (4 : Int) (if v1 = (4 : Int) then ml_M_save_10 1000 x0 (0 : Int) σ else ml_M_save_50 1000 x0 (0 : Int) σ)))
set_option maxHeartbeats 4000000 in
set_option maxRecDepth 20000 in
theorem sl_M_save_50 {X : pw_X Unit} (hX : pw_Ok X prog_14_method_10_code "PadeWorkbenchModel" mr_M_save 2) (hR : pw_RV X prog_14_method_10_code) : ∀ (n : Nat) (x0 : Nat) (x1 : Int) (σ : pw_Sto), pw_Sp X 0 0 50 [(0, Value.ref x0), (1, Value.int (iI x1))] [] σ (ml_M_save_50 n x0 x1 σ) := by
  intro n
  induction n with
  | zero => intros; exact pw_none
  | succ n ih =>
    intro x0 x1 σ
    show pw_Sp X 0 0 50 _ _ σ (mb_M_save_50 (ml_M_save_50 n) x0 x1 σ)
    unfold mb_M_save_50
    refine sp_iload_n (pc := 50) (k := 1) (i := 1) hX rfl 1 rfl md_M_save_50 ?_
    refine sp_bipush (pc := 51) hX (by decide) md_M_save_51 ?_
    refine sp_icmp_ge (pc := 53) hX 82 (by decide) md_M_save_53 (fun _ => ?_) (fun _ => ?_)
    · refine sp_aload_n (pc := 82) (k := 0) (i := 0) hX rfl 0 rfl md_M_save_82 ?_
      refine sp_dup (pc := 83) hX rfl md_M_save_83 ?_
      refine sp_getI (pc := 84) (ci := 10) (k := 2) (idx := 69) hX mcl_10 (by decide) mq_801 rfl md_M_save_84 (fun v2 => ?_)
      refine sp_iconst (pc := 87) hX md_M_save_87 ?_
      refine sp_iadd (pc := 88) hX md_M_save_88 ?_
      refine sp_putI (pc := 89) (ci := 10) (k := 2) (idx := 69) hX mcl_10 (by decide) mq_801 rfl rfl rfl md_M_save_89 (fun s3 => ?_)
      exact sp_vret (pc := 92) hX hR rfl (Nat.le_of_ble_eq_true rfl) md_M_save_92
    · refine sp_aload_n (pc := 56) (k := 0) (i := 0) hX rfl 0 rfl md_M_save_56 ?_
      refine sp_getR (pc := 57) (ci := 10) (k := 1) (idx := 13) hX mcl_10 (by decide) mq_800 rfl md_M_save_57 (fun v4 => ?_)
      refine sp_bipush (pc := 60) hX (by decide) md_M_save_60 ?_
      refine sp_aload_n (pc := 62) (k := 0) (i := 0) hX rfl 0 rfl md_M_save_62 ?_
      refine sp_getI (pc := 63) (ci := 10) (k := 2) (idx := 69) hX mcl_10 (by decide) mq_801 rfl md_M_save_63 (fun v5 => ?_)
      refine sp_imul (pc := 66) hX md_M_save_66 ?_
      refine sp_iload_n (pc := 67) (k := 1) (i := 1) hX rfl 1 rfl md_M_save_67 ?_
      refine sp_iadd (pc := 68) hX md_M_save_68 ?_
      refine sp_aload_n (pc := 69) (k := 0) (i := 0) hX rfl 0 rfl md_M_save_69 ?_
      refine sp_getR (pc := 70) (ci := 10) (k := 0) (idx := 7) hX mcl_10 (by decide) mq_799 rfl md_M_save_70 (fun v6 => ?_)
      refine sp_iload_n (pc := 73) (k := 1) (i := 1) hX rfl 1 rfl md_M_save_73 ?_
      refine sp_iaload (pc := 74) hX md_M_save_74 (fun v7 => ?_)
      refine sp_iastore (pc := 75) hX md_M_save_75 (fun s8 => ?_)
      refine sp_iinc (pc := 76) (i := 1) (L' := [(1, Value.int (iI (x1 + 1))), (0, Value.ref x0)]) hX 1 rfl (by decide) rfl md_M_save_76 ?_
      refine sp_goto (pc := 79) hX 50 (by decide) md_M_save_79 ?_
      refine sp_sub [1, 0] (L' := [(0, Value.ref x0), (1, Value.int (iI (x1 + 1)))]) rfl ?_
      exact ih x0 (x1 + 1) s8
set_option maxHeartbeats 4000000 in
set_option maxRecDepth 20000 in
theorem sl_M_save_10 {X : pw_X Unit} (hX : pw_Ok X prog_14_method_10_code "PadeWorkbenchModel" mr_M_save 2) (hR : pw_RV X prog_14_method_10_code) : ∀ (n : Nat) (x0 : Nat) (x1 : Int) (σ : pw_Sto), pw_Sp X 0 0 10 [(0, Value.ref x0), (1, Value.int (iI x1))] [] σ (ml_M_save_10 n x0 x1 σ) := by
  intro n
  induction n with
  | zero => intros; exact pw_none
  | succ n ih =>
    intro x0 x1 σ
    show pw_Sp X 0 0 10 _ _ σ (mb_M_save_10 (ml_M_save_10 n) x0 x1 σ)
    unfold mb_M_save_10
    refine sp_iload_n (pc := 10) (k := 1) (i := 1) hX rfl 1 rfl md_M_save_10 ?_
    refine sp_sipush (pc := 11) hX (by decide) md_M_save_11 ?_
    refine sp_icmp_ge (pc := 14) hX 38 (by decide) md_M_save_14 (fun _ => ?_) (fun _ => ?_)
    · refine sp_aload_n (pc := 38) (k := 0) (i := 0) hX rfl 0 rfl md_M_save_38 ?_
      refine sp_dup (pc := 39) hX rfl md_M_save_39 ?_
      refine sp_getI (pc := 40) (ci := 10) (k := 2) (idx := 69) hX mcl_10 (by decide) mq_801 rfl md_M_save_40 (fun v9 => ?_)
      refine sp_iconst (pc := 43) hX md_M_save_43 ?_
      refine sp_isub (pc := 44) hX md_M_save_44 ?_
      refine sp_putI (pc := 45) (ci := 10) (k := 2) (idx := 69) hX mcl_10 (by decide) mq_801 rfl rfl rfl md_M_save_45 (fun s10 => ?_)
      refine sp_iconst (pc := 48) hX md_M_save_48 ?_
      refine sp_istore_n (pc := 49) (k := 1) (i := 1) (L' := [(1, Value.int (iI (0 : Int))), (0, Value.ref x0)]) hX rfl (by decide) rfl md_M_save_49 ?_
      refine sp_sub [1, 0] (L' := [(0, Value.ref x0), (1, Value.int (iI (0 : Int)))]) rfl ?_
      exact sl_M_save_50 hX hR 1000 x0 (0 : Int) s10
    · refine sp_aload_n (pc := 17) (k := 0) (i := 0) hX rfl 0 rfl md_M_save_17 ?_
      refine sp_getR (pc := 18) (ci := 10) (k := 1) (idx := 13) hX mcl_10 (by decide) mq_800 rfl md_M_save_18 (fun v11 => ?_)
      refine sp_iload_n (pc := 21) (k := 1) (i := 1) hX rfl 1 rfl md_M_save_21 ?_
      refine sp_aload_n (pc := 22) (k := 0) (i := 0) hX rfl 0 rfl md_M_save_22 ?_
      refine sp_getR (pc := 23) (ci := 10) (k := 1) (idx := 13) hX mcl_10 (by decide) mq_800 rfl md_M_save_23 (fun v12 => ?_)
      refine sp_iload_n (pc := 26) (k := 1) (i := 1) hX rfl 1 rfl md_M_save_26 ?_
      refine sp_bipush (pc := 27) hX (by decide) md_M_save_27 ?_
      refine sp_iadd (pc := 29) hX md_M_save_29 ?_
      refine sp_iaload (pc := 30) hX md_M_save_30 (fun v13 => ?_)
      refine sp_iastore (pc := 31) hX md_M_save_31 (fun s14 => ?_)
      refine sp_iinc (pc := 32) (i := 1) (L' := [(1, Value.int (iI (x1 + 1))), (0, Value.ref x0)]) hX 1 rfl (by decide) rfl md_M_save_32 ?_
      refine sp_goto (pc := 35) hX 10 (by decide) md_M_save_35 ?_
      refine sp_sub [1, 0] (L' := [(0, Value.ref x0), (1, Value.int (iI (x1 + 1)))]) rfl ?_
      exact ih x0 (x1 + 1) s14
set_option maxHeartbeats 4000000 in
set_option maxRecDepth 20000 in
theorem mc_M_save {l : Launch} {E : pw_E} {σ : pw_Sto} {x0 : Nat} {out : Unit × pw_Sto} (h : mf_M_save x0 σ = some out) : pw_CV l E my_M_save prog_14_method_10_code 2 none mr_M_save [.ref x0] σ out := by
  unfold mf_M_save at h
  refine pw_entryV (by decide) (Nat.le_of_ble_eq_true rfl) (pw_gd_val h) (fun X hX hR hI => ?_)
  change pw_Ok X prog_14_method_10_code "PadeWorkbenchModel" mr_M_save 2 at hX
  show pw_Sp X 0 0 0 [(0, Value.ref x0)] [] σ _
  refine sp_aload_n (pc := 0) (k := 0) (i := 0) hX rfl 0 rfl md_M_save_0 ?_
  refine sp_getI (pc := 1) (ci := 10) (k := 2) (idx := 69) hX mcl_10 (by decide) mq_801 rfl md_M_save_1 (fun v1 => ?_)
  refine sp_iconst (pc := 4) hX md_M_save_4 ?_
  refine sp_icmp_ne (pc := 5) hX 48 (by decide) md_M_save_5 (fun _ => ?_) (fun _ => ?_)
  · refine sp_iconst (pc := 8) hX md_M_save_8 ?_
    refine sp_istore_n (pc := 9) (k := 1) (i := 1) (L' := [(1, Value.int (iI (0 : Int))), (0, Value.ref x0)]) hX rfl (by decide) rfl md_M_save_9 ?_
    refine sp_sub [1, 0] (L' := [(0, Value.ref x0), (1, Value.int (iI (0 : Int)))]) rfl ?_
    exact sl_M_save_10 hX hR 1000 x0 (0 : Int) σ
  · refine sp_iconst (pc := 48) hX md_M_save_48 ?_
    refine sp_istore_n (pc := 49) (k := 1) (i := 1) (L' := [(1, Value.int (iI (0 : Int))), (0, Value.ref x0)]) hX rfl (by decide) rfl md_M_save_49 ?_
    refine sp_sub [1, 0] (L' := [(0, Value.ref x0), (1, Value.int (iI (0 : Int)))]) rfl ?_
    exact sl_M_save_50 hX hR 1000 x0 (0 : Int) σ
/-! PadeWorkbenchModel.setPrime(I)I -/
theorem md_M_setPrime_0 : decode prog_14_method_11_code 0 = .ok (.iload_n 1, 1) := by decide +kernel
theorem md_M_setPrime_1 : decode prog_14_method_11_code 1 = .ok (.invokestatic 73, 3) := by decide +kernel
theorem md_M_setPrime_4 : decode prog_14_method_11_code 4 = .ok (.ifCond .ne 10, 3) := by decide +kernel
theorem md_M_setPrime_14 : decode prog_14_method_11_code 14 = .ok (.aload_n 0, 1) := by decide +kernel
theorem md_M_setPrime_15 : decode prog_14_method_11_code 15 = .ok (.invokevirtual 81, 3) := by decide +kernel
theorem md_M_setPrime_18 : decode prog_14_method_11_code 18 = .ok (.aload_n 0, 1) := by decide +kernel
theorem md_M_setPrime_19 : decode prog_14_method_11_code 19 = .ok (.invokevirtual 61, 3) := by decide +kernel
theorem md_M_setPrime_22 : decode prog_14_method_11_code 22 = .ok (.istore_n 2, 1) := by decide +kernel
theorem md_M_setPrime_23 : decode prog_14_method_11_code 23 = .ok (.iconst 0, 1) := by decide +kernel
theorem md_M_setPrime_24 : decode prog_14_method_11_code 24 = .ok (.istore_n 3, 1) := by decide +kernel
theorem md_M_setPrime_25 : decode prog_14_method_11_code 25 = .ok (.iload_n 3, 1) := by decide +kernel
theorem md_M_setPrime_26 : decode prog_14_method_11_code 26 = .ok (.bipush 86, 2) := by decide +kernel
theorem md_M_setPrime_28 : decode prog_14_method_11_code 28 = .ok (.if_icmp .ge 16, 3) := by decide +kernel
theorem md_M_setPrime_44 : decode prog_14_method_11_code 44 = .ok (.aload_n 0, 1) := by decide +kernel
theorem md_M_setPrime_45 : decode prog_14_method_11_code 45 = .ok (.getfield 7, 3) := by decide +kernel
theorem md_M_setPrime_48 : decode prog_14_method_11_code 48 = .ok (.iconst 0, 1) := by decide +kernel
theorem md_M_setPrime_49 : decode prog_14_method_11_code 49 = .ok (.iload_n 1, 1) := by decide +kernel
theorem md_M_setPrime_50 : decode prog_14_method_11_code 50 = .ok (.iastore, 1) := by decide +kernel
theorem md_M_setPrime_51 : decode prog_14_method_11_code 51 = .ok (.iload_n 2, 1) := by decide +kernel
theorem md_M_setPrime_52 : decode prog_14_method_11_code 52 = .ok (.ireturn, 1) := by decide +kernel
theorem md_M_setPrime_31 : decode prog_14_method_11_code 31 = .ok (.aload_n 0, 1) := by decide +kernel
theorem md_M_setPrime_32 : decode prog_14_method_11_code 32 = .ok (.getfield 7, 3) := by decide +kernel
theorem md_M_setPrime_35 : decode prog_14_method_11_code 35 = .ok (.iload_n 3, 1) := by decide +kernel
theorem md_M_setPrime_36 : decode prog_14_method_11_code 36 = .ok (.iconst 0, 1) := by decide +kernel
theorem md_M_setPrime_37 : decode prog_14_method_11_code 37 = .ok (.iastore, 1) := by decide +kernel
theorem md_M_setPrime_38 : decode prog_14_method_11_code 38 = .ok (.iinc 3 1, 3) := by decide +kernel
theorem md_M_setPrime_41 : decode prog_14_method_11_code 41 = .ok (.goto (-16), 3) := by decide +kernel
theorem md_M_setPrime_7 : decode prog_14_method_11_code 7 = .ok (.aload_n 0, 1) := by decide +kernel
theorem md_M_setPrime_8 : decode prog_14_method_11_code 8 = .ok (.bipush (-2), 2) := by decide +kernel
theorem md_M_setPrime_10 : decode prog_14_method_11_code 10 = .ok (.invokevirtual 77, 3) := by decide +kernel
theorem md_M_setPrime_13 : decode prog_14_method_11_code 13 = .ok (.ireturn, 1) := by decide +kernel
def mb_M_setPrime_25 (rc : Nat → Int → Int → Int → pw_Sto → Option (Int × pw_Sto)) : Nat → Int → Int → Int → pw_Sto → Option (Int × pw_Sto) := fun x0 x1 x2 x3 σ => pw_ck x3 (86 : Int) (if (86 : Int) ≤ x3 then (pw_gr 10 x0 0 σ).bind (fun v6 => (pw_si v6 (0 : Int) x1 σ).bind (fun s7 => some (x2, s7))) else (pw_gr 10 x0 0 σ).bind (fun v8 => (pw_si v8 x3 (0 : Int) σ).bind (fun s9 => rc x0 x1 x2 (x3 + 1) s9)))
def ml_M_setPrime_25 : Nat → Nat → Int → Int → Int → pw_Sto → Option (Int × pw_Sto) := pw_lp (fun _ _ _ _ _ => none) (mb_M_setPrime_25)
def mf_M_setPrime (x0 : Nat) (x1 : Int) (σ : pw_Sto) : Option (Int × pw_Sto) := pw_gd 10 x0 σ (pw_bd (mf_M_isPrime x1 σ) (fun v2 s1 => pw_ck v2 0 (if v2 = 0 then pw_bd (mf_M_fail x0 (-2 : Int) s1) (fun v11 s10 => some (v11, s10)) else pw_bd (mf_M_save x0 s1) (fun _ s3 => pw_bd (mf_M_prime x0 s3) (fun v5 s4 => ml_M_setPrime_25 1000 x0 x1 v5 (0 : Int) s4)))))
set_option maxHeartbeats 4000000 in
set_option maxRecDepth 20000 in
theorem sl_M_setPrime_25 {X : pw_X Int} (hX : pw_Ok X prog_14_method_11_code "PadeWorkbenchModel" mr_M_setPrime 4) (hR : pw_RI X prog_14_method_11_code) : ∀ (n : Nat) (x0 : Nat) (x1 : Int) (x2 : Int) (x3 : Int) (σ : pw_Sto), pw_Sp X 0 0 25 [(0, Value.ref x0), (1, Value.int (iI x1)), (2, Value.int (iI x2)), (3, Value.int (iI x3))] [] σ (ml_M_setPrime_25 n x0 x1 x2 x3 σ) := by
  intro n
  induction n with
  | zero => intros; exact pw_none
  | succ n ih =>
    intro x0 x1 x2 x3 σ
    show pw_Sp X 0 0 25 _ _ σ (mb_M_setPrime_25 (ml_M_setPrime_25 n) x0 x1 x2 x3 σ)
    unfold mb_M_setPrime_25
    refine sp_iload_n (pc := 25) (k := 3) (i := 3) hX rfl 3 rfl md_M_setPrime_25 ?_
    refine sp_bipush (pc := 26) hX (by decide) md_M_setPrime_26 ?_
    refine sp_icmp_ge (pc := 28) hX 44 (by decide) md_M_setPrime_28 (fun _ => ?_) (fun _ => ?_)
    · refine sp_aload_n (pc := 44) (k := 0) (i := 0) hX rfl 0 rfl md_M_setPrime_44 ?_
      refine sp_getR (pc := 45) (ci := 10) (k := 0) (idx := 7) hX mcl_10 (by decide) mq_799 rfl md_M_setPrime_45 (fun v6 => ?_)
      refine sp_iconst (pc := 48) hX md_M_setPrime_48 ?_
      refine sp_iload_n (pc := 49) (k := 1) (i := 1) hX rfl 1 rfl md_M_setPrime_49 ?_
      refine sp_iastore (pc := 50) hX md_M_setPrime_50 (fun s7 => ?_)
      refine sp_iload_n (pc := 51) (k := 2) (i := 2) hX rfl 2 rfl md_M_setPrime_51 ?_
      exact sp_iret (pc := 52) hX hR rfl (Nat.le_of_ble_eq_true rfl) md_M_setPrime_52
    · refine sp_aload_n (pc := 31) (k := 0) (i := 0) hX rfl 0 rfl md_M_setPrime_31 ?_
      refine sp_getR (pc := 32) (ci := 10) (k := 0) (idx := 7) hX mcl_10 (by decide) mq_799 rfl md_M_setPrime_32 (fun v8 => ?_)
      refine sp_iload_n (pc := 35) (k := 3) (i := 3) hX rfl 3 rfl md_M_setPrime_35 ?_
      refine sp_iconst (pc := 36) hX md_M_setPrime_36 ?_
      refine sp_iastore (pc := 37) hX md_M_setPrime_37 (fun s9 => ?_)
      refine sp_iinc (pc := 38) (i := 3) (L' := [(3, Value.int (iI (x3 + 1))), (0, Value.ref x0), (1, Value.int (iI x1)), (2, Value.int (iI x2))]) hX 3 rfl (by decide) rfl md_M_setPrime_38 ?_
      refine sp_goto (pc := 41) hX 25 (by decide) md_M_setPrime_41 ?_
      refine sp_sub [1, 2, 3, 0] (L' := [(0, Value.ref x0), (1, Value.int (iI x1)), (2, Value.int (iI x2)), (3, Value.int (iI (x3 + 1)))]) rfl ?_
      exact ih x0 x1 x2 (x3 + 1) s9
set_option maxHeartbeats 4000000 in
set_option maxRecDepth 20000 in
theorem mc_M_setPrime {l : Launch} {E : pw_E} {σ : pw_Sto} {x0 : Nat} {x1 : Int} {out : Int × pw_Sto} (h : mf_M_setPrime x0 x1 σ = some out) : pw_CI l E my_M_setPrime prog_14_method_11_code 4 (some .int) mr_M_setPrime [.ref x0, .int (iI x1)] σ out := by
  unfold mf_M_setPrime at h
  refine pw_entryI (by decide) (Nat.le_of_ble_eq_true rfl) (pw_gd_val h) (fun X hX hR hI => ?_)
  change pw_Ok X prog_14_method_11_code "PadeWorkbenchModel" mr_M_setPrime 4 at hX
  show pw_Sp X 0 0 0 [(0, Value.ref x0), (1, Value.int (iI x1))] [] σ _
  refine sp_iload_n (pc := 0) (k := 1) (i := 1) hX rfl 1 rfl md_M_setPrime_0 ?_
  refine sp_callSI (pc := 1) (y := my_M_isPrime) (ccy := prog_14_method_7_code) (nLy := 3) (ret := (some .boolean)) (rmy := mr_M_isPrime) (n := 1) (idx := 73) (As := [.int (iI x1)]) (st := []) (cells' := 0) (slots' := 0) hX (fun _ h => mc_M_isPrime h) mk_M_isPrime mq_865 mq_864 ⟨(Nat.le_of_ble_eq_true rfl), (Nat.le_of_ble_eq_true rfl)⟩ rfl rfl (Nat.le_of_ble_eq_true rfl) ⟨(Nat.le_of_ble_eq_true rfl), (Nat.le_of_ble_eq_true rfl)⟩ rfl rfl md_M_setPrime_1 (fun v2 s1 => ?_)
  refine sp_if_ne (pc := 4) hX 14 (by decide) md_M_setPrime_4 (fun _ => ?_) (fun _ => ?_)
  · refine sp_aload_n (pc := 7) (k := 0) (i := 0) hX rfl 0 rfl md_M_setPrime_7 ?_
    refine sp_bipush (pc := 8) hX (by decide) md_M_setPrime_8 ?_
    refine sp_callVI (pc := 10) (y := my_M_fail) (ccy := prog_14_method_3_code) (nLy := 2) (ret := (some .int)) (rmy := mr_M_fail) (n := 1) (idx := 77) (As := [.int (iI (-2 : Int))]) (st := []) (o := x0) (cells' := 0) (slots' := 0) hX (fun _ h => mc_M_fail h) mk_M_fail mv_M_fail mcl_10 (fun _ h => pw_gd_of h) mq_870 ⟨(Nat.le_of_ble_eq_true rfl), (Nat.le_of_ble_eq_true rfl)⟩ rfl rfl (Nat.le_of_ble_eq_true rfl) ⟨(Nat.le_of_ble_eq_true rfl), (Nat.le_of_ble_eq_true rfl)⟩ rfl rfl md_M_setPrime_10 (fun v11 s10 => ?_)
    exact sp_iret (pc := 13) hX hR rfl (Nat.le_of_ble_eq_true rfl) md_M_setPrime_13
  · refine sp_aload_n (pc := 14) (k := 0) (i := 0) hX rfl 0 rfl md_M_setPrime_14 ?_
    refine sp_callVV (pc := 15) (y := my_M_save) (ccy := prog_14_method_10_code) (nLy := 2) (ret := none) (rmy := mr_M_save) (n := 0) (idx := 81) (As := []) (st := []) (o := x0) (cells' := 0) (slots' := 0) hX (fun _ h => mc_M_save h) mk_M_save mv_M_save mcl_10 (fun _ h => pw_gd_of h) mq_874 ⟨(Nat.le_of_ble_eq_true rfl), (Nat.le_of_ble_eq_true rfl)⟩ rfl rfl (Nat.le_of_ble_eq_true rfl) ⟨(Nat.le_of_ble_eq_true rfl), (Nat.le_of_ble_eq_true rfl)⟩ rfl rfl md_M_setPrime_15 (fun s3 => ?_)
    refine sp_aload_n (pc := 18) (k := 0) (i := 0) hX rfl 0 rfl md_M_setPrime_18 ?_
    refine sp_callVI (pc := 19) (y := my_M_prime) (ccy := prog_14_method_4_code) (nLy := 1) (ret := (some .int)) (rmy := mr_M_prime) (n := 0) (idx := 61) (As := []) (st := []) (o := x0) (cells' := 0) (slots' := 0) hX (fun _ h => mc_M_prime h) mk_M_prime mv_M_prime mcl_10 (fun _ h => pw_gd_of h) mq_878 ⟨(Nat.le_of_ble_eq_true rfl), (Nat.le_of_ble_eq_true rfl)⟩ rfl rfl (Nat.le_of_ble_eq_true rfl) ⟨(Nat.le_of_ble_eq_true rfl), (Nat.le_of_ble_eq_true rfl)⟩ rfl rfl md_M_setPrime_19 (fun v5 s4 => ?_)
    refine sp_istore_n (pc := 22) (k := 2) (i := 2) (L' := [(2, Value.int (iI v5)), (0, Value.ref x0), (1, Value.int (iI x1))]) hX rfl (by decide) rfl md_M_setPrime_22 ?_
    refine sp_iconst (pc := 23) hX md_M_setPrime_23 ?_
    refine sp_istore_n (pc := 24) (k := 3) (i := 3) (L' := [(3, Value.int (iI (0 : Int))), (2, Value.int (iI v5)), (0, Value.ref x0), (1, Value.int (iI x1))]) hX rfl (by decide) rfl md_M_setPrime_24 ?_
    refine sp_sub [2, 3, 1, 0] (L' := [(0, Value.ref x0), (1, Value.int (iI x1)), (2, Value.int (iI v5)), (3, Value.int (iI (0 : Int)))]) rfl ?_
    exact sl_M_setPrime_25 hX hR 1000 x0 x1 v5 (0 : Int) s4
/-! PadeWorkbenchModel.set(III)I -/
theorem md_M_set_0 : decode prog_14_method_12_code 0 = .ok (.iload_n 1, 1) := by decide +kernel
theorem md_M_set_1 : decode prog_14_method_12_code 1 = .ok (.invokestatic 84, 3) := by decide +kernel
theorem md_M_set_4 : decode prog_14_method_12_code 4 = .ok (.ifCond .eq 27, 3) := by decide +kernel
theorem md_M_set_31 : decode prog_14_method_12_code 31 = .ok (.aload_n 0, 1) := by decide +kernel
theorem md_M_set_32 : decode prog_14_method_12_code 32 = .ok (.bipush (-2), 2) := by decide +kernel
theorem md_M_set_34 : decode prog_14_method_12_code 34 = .ok (.invokevirtual 77, 3) := by decide +kernel
theorem md_M_set_37 : decode prog_14_method_12_code 37 = .ok (.ireturn, 1) := by decide +kernel
theorem md_M_set_7 : decode prog_14_method_12_code 7 = .ok (.iload_n 2, 1) := by decide +kernel
theorem md_M_set_8 : decode prog_14_method_12_code 8 = .ok (.iconst 0, 1) := by decide +kernel
theorem md_M_set_9 : decode prog_14_method_12_code 9 = .ok (.bipush 15, 2) := by decide +kernel
theorem md_M_set_11 : decode prog_14_method_12_code 11 = .ok (.invokestatic 65, 3) := by decide +kernel
theorem md_M_set_14 : decode prog_14_method_12_code 14 = .ok (.ifCond .eq 17, 3) := by decide +kernel
theorem md_M_set_17 : decode prog_14_method_12_code 17 = .ok (.iload_n 3, 1) := by decide +kernel
theorem md_M_set_18 : decode prog_14_method_12_code 18 = .ok (.iconst 0, 1) := by decide +kernel
theorem md_M_set_19 : decode prog_14_method_12_code 19 = .ok (.aload_n 0, 1) := by decide +kernel
theorem md_M_set_20 : decode prog_14_method_12_code 20 = .ok (.invokevirtual 61, 3) := by decide +kernel
theorem md_M_set_23 : decode prog_14_method_12_code 23 = .ok (.iconst 1, 1) := by decide +kernel
theorem md_M_set_24 : decode prog_14_method_12_code 24 = .ok (.isub, 1) := by decide +kernel
theorem md_M_set_25 : decode prog_14_method_12_code 25 = .ok (.invokestatic 65, 3) := by decide +kernel
theorem md_M_set_28 : decode prog_14_method_12_code 28 = .ok (.ifCond .ne 10, 3) := by decide +kernel
theorem md_M_set_38 : decode prog_14_method_12_code 38 = .ok (.aload_n 0, 1) := by decide +kernel
theorem md_M_set_39 : decode prog_14_method_12_code 39 = .ok (.invokevirtual 81, 3) := by decide +kernel
theorem md_M_set_42 : decode prog_14_method_12_code 42 = .ok (.aload_n 0, 1) := by decide +kernel
theorem md_M_set_43 : decode prog_14_method_12_code 43 = .ok (.iload_n 1, 1) := by decide +kernel
theorem md_M_set_44 : decode prog_14_method_12_code 44 = .ok (.iload_n 2, 1) := by decide +kernel
theorem md_M_set_45 : decode prog_14_method_12_code 45 = .ok (.invokevirtual 87, 3) := by decide +kernel
theorem md_M_set_48 : decode prog_14_method_12_code 48 = .ok (.istore 4, 2) := by decide +kernel
theorem md_M_set_50 : decode prog_14_method_12_code 50 = .ok (.aload_n 0, 1) := by decide +kernel
theorem md_M_set_51 : decode prog_14_method_12_code 51 = .ok (.getfield 7, 3) := by decide +kernel
theorem md_M_set_54 : decode prog_14_method_12_code 54 = .ok (.iconst 1, 1) := by decide +kernel
theorem md_M_set_55 : decode prog_14_method_12_code 55 = .ok (.bipush 16, 2) := by decide +kernel
theorem md_M_set_57 : decode prog_14_method_12_code 57 = .ok (.iload_n 1, 1) := by decide +kernel
theorem md_M_set_58 : decode prog_14_method_12_code 58 = .ok (.imul, 1) := by decide +kernel
theorem md_M_set_59 : decode prog_14_method_12_code 59 = .ok (.iadd, 1) := by decide +kernel
theorem md_M_set_60 : decode prog_14_method_12_code 60 = .ok (.iload_n 2, 1) := by decide +kernel
theorem md_M_set_61 : decode prog_14_method_12_code 61 = .ok (.iadd, 1) := by decide +kernel
theorem md_M_set_62 : decode prog_14_method_12_code 62 = .ok (.iload_n 3, 1) := by decide +kernel
theorem md_M_set_63 : decode prog_14_method_12_code 63 = .ok (.iastore, 1) := by decide +kernel
theorem md_M_set_64 : decode prog_14_method_12_code 64 = .ok (.iload 4, 2) := by decide +kernel
theorem md_M_set_66 : decode prog_14_method_12_code 66 = .ok (.ireturn, 1) := by decide +kernel
def mj_M_set_31 (x0 : Nat) (σ : pw_Sto) : Option (Int × pw_Sto) := pw_bd (mf_M_fail x0 (-2 : Int) σ) (fun v4 s3 => some (v4, s3))
def mf_M_set (x0 : Nat) (x1 : Int) (x2 : Int) (x3 : Int) (σ : pw_Sto) : Option (Int × pw_Sto) := pw_gd 10 x0 σ (pw_bd (mf_M_isSlot x1 σ) (fun v2 s1 => pw_ck v2 0 (if v2 = 0 then mj_M_set_31 x0 s1 else pw_bd (mf_M_in x2 (0 : Int) (15 : Int) s1) (fun v6 s5 => pw_ck v6 0 (if v6 = 0 then mj_M_set_31 x0 s5 else pw_bd (mf_M_prime x0 s5) (fun v8 s7 => pw_bd (mf_M_in x3 (0 : Int) (v8 - (1 : Int)) s7) (fun v10 s9 => pw_ck v10 0 (if v10 = 0 then mj_M_set_31 x0 s9 else pw_bd (mf_M_save x0 s9) (fun _ s11 => pw_bd (mf_M_term x0 x1 x2 s11) (fun v13 s12 => (pw_gr 10 x0 0 s12).bind (fun v14 => (pw_si v14 (((1 : Int) + ((16 : Int) * x1)) + x2) x3 s12).bind (fun s15 => some (v13, s15)))))))))))))
set_option maxHeartbeats 4000000 in
set_option maxRecDepth 20000 in
theorem sj_M_set_31 {X : pw_X Int} (hX : pw_Ok X prog_14_method_12_code "PadeWorkbenchModel" mr_M_set 5) (hR : pw_RI X prog_14_method_12_code) (x0 : Nat) (σ : pw_Sto) : pw_Sp X 0 0 31 [(0, Value.ref x0)] [] σ (mj_M_set_31 x0 σ) := by
  unfold mj_M_set_31
  refine sp_aload_n (pc := 31) (k := 0) (i := 0) hX rfl 0 rfl md_M_set_31 ?_
  refine sp_bipush (pc := 32) hX (by decide) md_M_set_32 ?_
  refine sp_callVI (pc := 34) (y := my_M_fail) (ccy := prog_14_method_3_code) (nLy := 2) (ret := (some .int)) (rmy := mr_M_fail) (n := 1) (idx := 77) (As := [.int (iI (-2 : Int))]) (st := []) (o := x0) (cells' := 0) (slots' := 0) hX (fun _ h => mc_M_fail h) mk_M_fail mv_M_fail mcl_10 (fun _ h => pw_gd_of h) mq_870 ⟨(Nat.le_of_ble_eq_true rfl), (Nat.le_of_ble_eq_true rfl)⟩ rfl rfl (Nat.le_of_ble_eq_true rfl) ⟨(Nat.le_of_ble_eq_true rfl), (Nat.le_of_ble_eq_true rfl)⟩ rfl rfl md_M_set_34 (fun v4 s3 => ?_)
  exact sp_iret (pc := 37) hX hR rfl (Nat.le_of_ble_eq_true rfl) md_M_set_37
set_option maxHeartbeats 4000000 in
set_option maxRecDepth 20000 in
theorem mc_M_set {l : Launch} {E : pw_E} {σ : pw_Sto} {x0 : Nat} {x1 : Int} {x2 : Int} {x3 : Int} {out : Int × pw_Sto} (h : mf_M_set x0 x1 x2 x3 σ = some out) : pw_CI l E my_M_set prog_14_method_12_code 5 (some .int) mr_M_set [.ref x0, .int (iI x1), .int (iI x2), .int (iI x3)] σ out := by
  unfold mf_M_set at h
  refine pw_entryI (by decide) (Nat.le_of_ble_eq_true rfl) (pw_gd_val h) (fun X hX hR hI => ?_)
  change pw_Ok X prog_14_method_12_code "PadeWorkbenchModel" mr_M_set 5 at hX
  show pw_Sp X 0 0 0 [(0, Value.ref x0), (1, Value.int (iI x1)), (2, Value.int (iI x2)), (3, Value.int (iI x3))] [] σ _
  refine sp_iload_n (pc := 0) (k := 1) (i := 1) hX rfl 1 rfl md_M_set_0 ?_
  refine sp_callSI (pc := 1) (y := my_M_isSlot) (ccy := prog_14_method_8_code) (nLy := 1) (ret := (some .boolean)) (rmy := mr_M_isSlot) (n := 1) (idx := 84) (As := [.int (iI x1)]) (st := []) (cells' := 0) (slots' := 0) hX (fun _ h => mc_M_isSlot h) mk_M_isSlot mq_887 mq_886 ⟨(Nat.le_of_ble_eq_true rfl), (Nat.le_of_ble_eq_true rfl)⟩ rfl rfl (Nat.le_of_ble_eq_true rfl) ⟨(Nat.le_of_ble_eq_true rfl), (Nat.le_of_ble_eq_true rfl)⟩ rfl rfl md_M_set_1 (fun v2 s1 => ?_)
  refine sp_if_eq (pc := 4) hX 31 (by decide) md_M_set_4 (fun _ => ?_) (fun _ => ?_)
  · refine sp_sub [0] (L' := [(0, Value.ref x0)]) rfl ?_
    exact sj_M_set_31 hX hR x0 s1
  · refine sp_iload_n (pc := 7) (k := 2) (i := 2) hX rfl 2 rfl md_M_set_7 ?_
    refine sp_iconst (pc := 8) hX md_M_set_8 ?_
    refine sp_bipush (pc := 9) hX (by decide) md_M_set_9 ?_
    refine sp_callSI (pc := 11) (y := my_M_in) (ccy := prog_14_method_2_code) (nLy := 3) (ret := (some .boolean)) (rmy := mr_M_in) (n := 3) (idx := 65) (As := [.int (iI x2), .int (iI (0 : Int)), .int (iI (15 : Int))]) (st := []) (cells' := 0) (slots' := 0) hX (fun _ h => mc_M_in h) mk_M_in mq_868 mq_867 ⟨(Nat.le_of_ble_eq_true rfl), (Nat.le_of_ble_eq_true rfl)⟩ rfl rfl (Nat.le_of_ble_eq_true rfl) ⟨(Nat.le_of_ble_eq_true rfl), (Nat.le_of_ble_eq_true rfl)⟩ rfl rfl md_M_set_11 (fun v6 s5 => ?_)
    refine sp_if_eq (pc := 14) hX 31 (by decide) md_M_set_14 (fun _ => ?_) (fun _ => ?_)
    · refine sp_sub [0] (L' := [(0, Value.ref x0)]) rfl ?_
      exact sj_M_set_31 hX hR x0 s5
    · refine sp_iload_n (pc := 17) (k := 3) (i := 3) hX rfl 3 rfl md_M_set_17 ?_
      refine sp_iconst (pc := 18) hX md_M_set_18 ?_
      refine sp_aload_n (pc := 19) (k := 0) (i := 0) hX rfl 0 rfl md_M_set_19 ?_
      refine sp_callVI (pc := 20) (y := my_M_prime) (ccy := prog_14_method_4_code) (nLy := 1) (ret := (some .int)) (rmy := mr_M_prime) (n := 0) (idx := 61) (As := []) (st := [.int (iI (0 : Int)), .int (iI x3)]) (o := x0) (cells' := 0) (slots' := 0) hX (fun _ h => mc_M_prime h) mk_M_prime mv_M_prime mcl_10 (fun _ h => pw_gd_of h) mq_878 ⟨(Nat.le_of_ble_eq_true rfl), (Nat.le_of_ble_eq_true rfl)⟩ rfl rfl (Nat.le_of_ble_eq_true rfl) ⟨(Nat.le_of_ble_eq_true rfl), (Nat.le_of_ble_eq_true rfl)⟩ rfl rfl md_M_set_20 (fun v8 s7 => ?_)
      refine sp_iconst (pc := 23) hX md_M_set_23 ?_
      refine sp_isub (pc := 24) hX md_M_set_24 ?_
      refine sp_callSI (pc := 25) (y := my_M_in) (ccy := prog_14_method_2_code) (nLy := 3) (ret := (some .boolean)) (rmy := mr_M_in) (n := 3) (idx := 65) (As := [.int (iI x3), .int (iI (0 : Int)), .int (iI (v8 - (1 : Int)))]) (st := []) (cells' := 0) (slots' := 0) hX (fun _ h => mc_M_in h) mk_M_in mq_868 mq_867 ⟨(Nat.le_of_ble_eq_true rfl), (Nat.le_of_ble_eq_true rfl)⟩ rfl rfl (Nat.le_of_ble_eq_true rfl) ⟨(Nat.le_of_ble_eq_true rfl), (Nat.le_of_ble_eq_true rfl)⟩ rfl rfl md_M_set_25 (fun v10 s9 => ?_)
      refine sp_if_ne (pc := 28) hX 38 (by decide) md_M_set_28 (fun _ => ?_) (fun _ => ?_)
      · refine sp_sub [0] (L' := [(0, Value.ref x0)]) rfl ?_
        exact sj_M_set_31 hX hR x0 s9
      · refine sp_aload_n (pc := 38) (k := 0) (i := 0) hX rfl 0 rfl md_M_set_38 ?_
        refine sp_callVV (pc := 39) (y := my_M_save) (ccy := prog_14_method_10_code) (nLy := 2) (ret := none) (rmy := mr_M_save) (n := 0) (idx := 81) (As := []) (st := []) (o := x0) (cells' := 0) (slots' := 0) hX (fun _ h => mc_M_save h) mk_M_save mv_M_save mcl_10 (fun _ h => pw_gd_of h) mq_874 ⟨(Nat.le_of_ble_eq_true rfl), (Nat.le_of_ble_eq_true rfl)⟩ rfl rfl (Nat.le_of_ble_eq_true rfl) ⟨(Nat.le_of_ble_eq_true rfl), (Nat.le_of_ble_eq_true rfl)⟩ rfl rfl md_M_set_39 (fun s11 => ?_)
        refine sp_aload_n (pc := 42) (k := 0) (i := 0) hX rfl 0 rfl md_M_set_42 ?_
        refine sp_iload_n (pc := 43) (k := 1) (i := 1) hX rfl 1 rfl md_M_set_43 ?_
        refine sp_iload_n (pc := 44) (k := 2) (i := 2) hX rfl 2 rfl md_M_set_44 ?_
        refine sp_callVI (pc := 45) (y := my_M_term) (ccy := prog_14_method_9_code) (nLy := 3) (ret := (some .int)) (rmy := mr_M_term) (n := 2) (idx := 87) (As := [.int (iI x1), .int (iI x2)]) (st := []) (o := x0) (cells' := 0) (slots' := 0) hX (fun _ h => mc_M_term h) mk_M_term mv_M_term mcl_10 (fun _ h => pw_gd_of h) mq_889 ⟨(Nat.le_of_ble_eq_true rfl), (Nat.le_of_ble_eq_true rfl)⟩ rfl rfl (Nat.le_of_ble_eq_true rfl) ⟨(Nat.le_of_ble_eq_true rfl), (Nat.le_of_ble_eq_true rfl)⟩ rfl rfl md_M_set_45 (fun v13 s12 => ?_)
        refine sp_istore (pc := 48) (i := 4) (L' := [(4, Value.int (iI v13)), (0, Value.ref x0), (1, Value.int (iI x1)), (2, Value.int (iI x2)), (3, Value.int (iI x3))]) hX (by decide) rfl md_M_set_48 ?_
        refine sp_aload_n (pc := 50) (k := 0) (i := 0) hX rfl 1 rfl md_M_set_50 ?_
        refine sp_getR (pc := 51) (ci := 10) (k := 0) (idx := 7) hX mcl_10 (by decide) mq_799 rfl md_M_set_51 (fun v14 => ?_)
        refine sp_iconst (pc := 54) hX md_M_set_54 ?_
        refine sp_bipush (pc := 55) hX (by decide) md_M_set_55 ?_
        refine sp_iload_n (pc := 57) (k := 1) (i := 1) hX rfl 2 rfl md_M_set_57 ?_
        refine sp_imul (pc := 58) hX md_M_set_58 ?_
        refine sp_iadd (pc := 59) hX md_M_set_59 ?_
        refine sp_iload_n (pc := 60) (k := 2) (i := 2) hX rfl 3 rfl md_M_set_60 ?_
        refine sp_iadd (pc := 61) hX md_M_set_61 ?_
        refine sp_iload_n (pc := 62) (k := 3) (i := 3) hX rfl 4 rfl md_M_set_62 ?_
        refine sp_iastore (pc := 63) hX md_M_set_63 (fun s15 => ?_)
        refine sp_iload (pc := 64) (i := 4) hX 0 rfl md_M_set_64 ?_
        exact sp_iret (pc := 66) hX hR rfl (Nat.le_of_ble_eq_true rfl) md_M_set_66
/-! PadeWorkbenchModel.coefficient(II)I -/
theorem md_M_coefficient_0 : decode prog_14_method_13_code 0 = .ok (.iload_n 1, 1) := by decide +kernel
theorem md_M_coefficient_1 : decode prog_14_method_13_code 1 = .ok (.invokestatic 84, 3) := by decide +kernel
theorem md_M_coefficient_4 : decode prog_14_method_13_code 4 = .ok (.ifCond .eq 22, 3) := by decide +kernel
theorem md_M_coefficient_26 : decode prog_14_method_13_code 26 = .ok (.aload_n 0, 1) := by decide +kernel
theorem md_M_coefficient_27 : decode prog_14_method_13_code 27 = .ok (.bipush (-2), 2) := by decide +kernel
theorem md_M_coefficient_29 : decode prog_14_method_13_code 29 = .ok (.invokevirtual 77, 3) := by decide +kernel
theorem md_M_coefficient_32 : decode prog_14_method_13_code 32 = .ok (.ireturn, 1) := by decide +kernel
theorem md_M_coefficient_7 : decode prog_14_method_13_code 7 = .ok (.iload_n 2, 1) := by decide +kernel
theorem md_M_coefficient_8 : decode prog_14_method_13_code 8 = .ok (.iconst 0, 1) := by decide +kernel
theorem md_M_coefficient_9 : decode prog_14_method_13_code 9 = .ok (.bipush 15, 2) := by decide +kernel
theorem md_M_coefficient_11 : decode prog_14_method_13_code 11 = .ok (.invokestatic 65, 3) := by decide +kernel
theorem md_M_coefficient_14 : decode prog_14_method_13_code 14 = .ok (.ifCond .eq 12, 3) := by decide +kernel
theorem md_M_coefficient_17 : decode prog_14_method_13_code 17 = .ok (.aload_n 0, 1) := by decide +kernel
theorem md_M_coefficient_18 : decode prog_14_method_13_code 18 = .ok (.iload_n 1, 1) := by decide +kernel
theorem md_M_coefficient_19 : decode prog_14_method_13_code 19 = .ok (.iload_n 2, 1) := by decide +kernel
theorem md_M_coefficient_20 : decode prog_14_method_13_code 20 = .ok (.invokevirtual 87, 3) := by decide +kernel
theorem md_M_coefficient_23 : decode prog_14_method_13_code 23 = .ok (.goto 9, 3) := by decide +kernel
def mj_M_coefficient_26 (x0 : Nat) (σ : pw_Sto) : Option (Int × pw_Sto) := pw_bd (mf_M_fail x0 (-2 : Int) σ) (fun v4 s3 => some (v4, s3))
def mf_M_coefficient (x0 : Nat) (x1 : Int) (x2 : Int) (σ : pw_Sto) : Option (Int × pw_Sto) := pw_gd 10 x0 σ (pw_bd (mf_M_isSlot x1 σ) (fun v2 s1 => pw_ck v2 0 (if v2 = 0 then mj_M_coefficient_26 x0 s1 else pw_bd (mf_M_in x2 (0 : Int) (15 : Int) s1) (fun v6 s5 => pw_ck v6 0 (if v6 = 0 then mj_M_coefficient_26 x0 s5 else pw_bd (mf_M_term x0 x1 x2 s5) (fun v8 s7 => some (v8, s7)))))))
set_option maxHeartbeats 4000000 in
set_option maxRecDepth 20000 in
theorem sj_M_coefficient_26 {X : pw_X Int} (hX : pw_Ok X prog_14_method_13_code "PadeWorkbenchModel" mr_M_coefficient 3) (hR : pw_RI X prog_14_method_13_code) (x0 : Nat) (σ : pw_Sto) : pw_Sp X 0 0 26 [(0, Value.ref x0)] [] σ (mj_M_coefficient_26 x0 σ) := by
  unfold mj_M_coefficient_26
  refine sp_aload_n (pc := 26) (k := 0) (i := 0) hX rfl 0 rfl md_M_coefficient_26 ?_
  refine sp_bipush (pc := 27) hX (by decide) md_M_coefficient_27 ?_
  refine sp_callVI (pc := 29) (y := my_M_fail) (ccy := prog_14_method_3_code) (nLy := 2) (ret := (some .int)) (rmy := mr_M_fail) (n := 1) (idx := 77) (As := [.int (iI (-2 : Int))]) (st := []) (o := x0) (cells' := 0) (slots' := 0) hX (fun _ h => mc_M_fail h) mk_M_fail mv_M_fail mcl_10 (fun _ h => pw_gd_of h) mq_870 ⟨(Nat.le_of_ble_eq_true rfl), (Nat.le_of_ble_eq_true rfl)⟩ rfl rfl (Nat.le_of_ble_eq_true rfl) ⟨(Nat.le_of_ble_eq_true rfl), (Nat.le_of_ble_eq_true rfl)⟩ rfl rfl md_M_coefficient_29 (fun v4 s3 => ?_)
  exact sp_iret (pc := 32) hX hR rfl (Nat.le_of_ble_eq_true rfl) md_M_coefficient_32
set_option maxHeartbeats 4000000 in
set_option maxRecDepth 20000 in
theorem mc_M_coefficient {l : Launch} {E : pw_E} {σ : pw_Sto} {x0 : Nat} {x1 : Int} {x2 : Int} {out : Int × pw_Sto} (h : mf_M_coefficient x0 x1 x2 σ = some out) : pw_CI l E my_M_coefficient prog_14_method_13_code 3 (some .int) mr_M_coefficient [.ref x0, .int (iI x1), .int (iI x2)] σ out := by
  unfold mf_M_coefficient at h
  refine pw_entryI (by decide) (Nat.le_of_ble_eq_true rfl) (pw_gd_val h) (fun X hX hR hI => ?_)
  change pw_Ok X prog_14_method_13_code "PadeWorkbenchModel" mr_M_coefficient 3 at hX
  show pw_Sp X 0 0 0 [(0, Value.ref x0), (1, Value.int (iI x1)), (2, Value.int (iI x2))] [] σ _
  refine sp_iload_n (pc := 0) (k := 1) (i := 1) hX rfl 1 rfl md_M_coefficient_0 ?_
  refine sp_callSI (pc := 1) (y := my_M_isSlot) (ccy := prog_14_method_8_code) (nLy := 1) (ret := (some .boolean)) (rmy := mr_M_isSlot) (n := 1) (idx := 84) (As := [.int (iI x1)]) (st := []) (cells' := 0) (slots' := 0) hX (fun _ h => mc_M_isSlot h) mk_M_isSlot mq_887 mq_886 ⟨(Nat.le_of_ble_eq_true rfl), (Nat.le_of_ble_eq_true rfl)⟩ rfl rfl (Nat.le_of_ble_eq_true rfl) ⟨(Nat.le_of_ble_eq_true rfl), (Nat.le_of_ble_eq_true rfl)⟩ rfl rfl md_M_coefficient_1 (fun v2 s1 => ?_)
  refine sp_if_eq (pc := 4) hX 26 (by decide) md_M_coefficient_4 (fun _ => ?_) (fun _ => ?_)
  · refine sp_sub [0] (L' := [(0, Value.ref x0)]) rfl ?_
    exact sj_M_coefficient_26 hX hR x0 s1
  · refine sp_iload_n (pc := 7) (k := 2) (i := 2) hX rfl 2 rfl md_M_coefficient_7 ?_
    refine sp_iconst (pc := 8) hX md_M_coefficient_8 ?_
    refine sp_bipush (pc := 9) hX (by decide) md_M_coefficient_9 ?_
    refine sp_callSI (pc := 11) (y := my_M_in) (ccy := prog_14_method_2_code) (nLy := 3) (ret := (some .boolean)) (rmy := mr_M_in) (n := 3) (idx := 65) (As := [.int (iI x2), .int (iI (0 : Int)), .int (iI (15 : Int))]) (st := []) (cells' := 0) (slots' := 0) hX (fun _ h => mc_M_in h) mk_M_in mq_868 mq_867 ⟨(Nat.le_of_ble_eq_true rfl), (Nat.le_of_ble_eq_true rfl)⟩ rfl rfl (Nat.le_of_ble_eq_true rfl) ⟨(Nat.le_of_ble_eq_true rfl), (Nat.le_of_ble_eq_true rfl)⟩ rfl rfl md_M_coefficient_11 (fun v6 s5 => ?_)
    refine sp_if_eq (pc := 14) hX 26 (by decide) md_M_coefficient_14 (fun _ => ?_) (fun _ => ?_)
    · refine sp_sub [0] (L' := [(0, Value.ref x0)]) rfl ?_
      exact sj_M_coefficient_26 hX hR x0 s5
    · refine sp_aload_n (pc := 17) (k := 0) (i := 0) hX rfl 0 rfl md_M_coefficient_17 ?_
      refine sp_iload_n (pc := 18) (k := 1) (i := 1) hX rfl 1 rfl md_M_coefficient_18 ?_
      refine sp_iload_n (pc := 19) (k := 2) (i := 2) hX rfl 2 rfl md_M_coefficient_19 ?_
      refine sp_callVI (pc := 20) (y := my_M_term) (ccy := prog_14_method_9_code) (nLy := 3) (ret := (some .int)) (rmy := mr_M_term) (n := 2) (idx := 87) (As := [.int (iI x1), .int (iI x2)]) (st := []) (o := x0) (cells' := 0) (slots' := 0) hX (fun _ h => mc_M_term h) mk_M_term mv_M_term mcl_10 (fun _ h => pw_gd_of h) mq_889 ⟨(Nat.le_of_ble_eq_true rfl), (Nat.le_of_ble_eq_true rfl)⟩ rfl rfl (Nat.le_of_ble_eq_true rfl) ⟨(Nat.le_of_ble_eq_true rfl), (Nat.le_of_ble_eq_true rfl)⟩ rfl rfl md_M_coefficient_20 (fun v8 s7 => ?_)
      refine sp_goto (pc := 23) hX 32 (by decide) md_M_coefficient_23 ?_
      exact sp_iret (pc := 32) hX hR rfl (Nat.le_of_ble_eq_true rfl) md_M_coefficient_32
/-! PadeWorkbenchModel.take(I[I)V -/
theorem md_M_take_0 : decode prog_14_method_14_code 0 = .ok (.iconst 0, 1) := by decide +kernel
theorem md_M_take_1 : decode prog_14_method_14_code 1 = .ok (.istore_n 3, 1) := by decide +kernel
theorem md_M_take_2 : decode prog_14_method_14_code 2 = .ok (.iload_n 3, 1) := by decide +kernel
theorem md_M_take_3 : decode prog_14_method_14_code 3 = .ok (.bipush 16, 2) := by decide +kernel
theorem md_M_take_5 : decode prog_14_method_14_code 5 = .ok (.if_icmp .ge 18, 3) := by decide +kernel
theorem md_M_take_23 : decode prog_14_method_14_code 23 = .ok (.return_, 1) := by decide +kernel
theorem md_M_take_8 : decode prog_14_method_14_code 8 = .ok (.aload_n 2, 1) := by decide +kernel
theorem md_M_take_9 : decode prog_14_method_14_code 9 = .ok (.iload_n 3, 1) := by decide +kernel
theorem md_M_take_10 : decode prog_14_method_14_code 10 = .ok (.aload_n 0, 1) := by decide +kernel
theorem md_M_take_11 : decode prog_14_method_14_code 11 = .ok (.iload_n 1, 1) := by decide +kernel
theorem md_M_take_12 : decode prog_14_method_14_code 12 = .ok (.iload_n 3, 1) := by decide +kernel
theorem md_M_take_13 : decode prog_14_method_14_code 13 = .ok (.invokevirtual 87, 3) := by decide +kernel
theorem md_M_take_16 : decode prog_14_method_14_code 16 = .ok (.iastore, 1) := by decide +kernel
theorem md_M_take_17 : decode prog_14_method_14_code 17 = .ok (.iinc 3 1, 3) := by decide +kernel
theorem md_M_take_20 : decode prog_14_method_14_code 20 = .ok (.goto (-18), 3) := by decide +kernel
def mb_M_take_2 (rc : Nat → Int → Nat → Int → pw_Sto → Option (Unit × pw_Sto)) : Nat → Int → Nat → Int → pw_Sto → Option (Unit × pw_Sto) := fun x0 x1 x2 x3 σ => pw_ck x3 (16 : Int) (if (16 : Int) ≤ x3 then some ((), σ) else pw_bd (mf_M_term x0 x1 x3 σ) (fun v2 s1 => (pw_si x2 x3 v2 s1).bind (fun s3 => rc x0 x1 x2 (x3 + 1) s3)))
def ml_M_take_2 : Nat → Nat → Int → Nat → Int → pw_Sto → Option (Unit × pw_Sto) := pw_lp (fun _ _ _ _ _ => none) (mb_M_take_2)
def mf_M_take (x0 : Nat) (x1 : Int) (x2 : Nat) (σ : pw_Sto) : Option (Unit × pw_Sto) := pw_gd 10 x0 σ (ml_M_take_2 1000 x0 x1 x2 (0 : Int) σ)
set_option maxHeartbeats 4000000 in
set_option maxRecDepth 20000 in
theorem sl_M_take_2 {X : pw_X Unit} (hX : pw_Ok X prog_14_method_14_code "PadeWorkbenchModel" mr_M_take 4) (hR : pw_RV X prog_14_method_14_code) : ∀ (n : Nat) (x0 : Nat) (x1 : Int) (x2 : Nat) (x3 : Int) (σ : pw_Sto), pw_Sp X 0 0 2 [(0, Value.ref x0), (1, Value.int (iI x1)), (2, Value.ref x2), (3, Value.int (iI x3))] [] σ (ml_M_take_2 n x0 x1 x2 x3 σ) := by
  intro n
  induction n with
  | zero => intros; exact pw_none
  | succ n ih =>
    intro x0 x1 x2 x3 σ
    show pw_Sp X 0 0 2 _ _ σ (mb_M_take_2 (ml_M_take_2 n) x0 x1 x2 x3 σ)
    unfold mb_M_take_2
    refine sp_iload_n (pc := 2) (k := 3) (i := 3) hX rfl 3 rfl md_M_take_2 ?_
    refine sp_bipush (pc := 3) hX (by decide) md_M_take_3 ?_
    refine sp_icmp_ge (pc := 5) hX 23 (by decide) md_M_take_5 (fun _ => ?_) (fun _ => ?_)
    · exact sp_vret (pc := 23) hX hR rfl (Nat.le_of_ble_eq_true rfl) md_M_take_23
    · refine sp_aload_n (pc := 8) (k := 2) (i := 2) hX rfl 2 rfl md_M_take_8 ?_
      refine sp_iload_n (pc := 9) (k := 3) (i := 3) hX rfl 3 rfl md_M_take_9 ?_
      refine sp_aload_n (pc := 10) (k := 0) (i := 0) hX rfl 0 rfl md_M_take_10 ?_
      refine sp_iload_n (pc := 11) (k := 1) (i := 1) hX rfl 1 rfl md_M_take_11 ?_
      refine sp_iload_n (pc := 12) (k := 3) (i := 3) hX rfl 3 rfl md_M_take_12 ?_
      refine sp_callVI (pc := 13) (y := my_M_term) (ccy := prog_14_method_9_code) (nLy := 3) (ret := (some .int)) (rmy := mr_M_term) (n := 2) (idx := 87) (As := [.int (iI x1), .int (iI x3)]) (st := [.int (iI x3), .ref x2]) (o := x0) (cells' := 0) (slots' := 0) hX (fun _ h => mc_M_term h) mk_M_term mv_M_term mcl_10 (fun _ h => pw_gd_of h) mq_889 ⟨(Nat.le_of_ble_eq_true rfl), (Nat.le_of_ble_eq_true rfl)⟩ rfl rfl (Nat.le_of_ble_eq_true rfl) ⟨(Nat.le_of_ble_eq_true rfl), (Nat.le_of_ble_eq_true rfl)⟩ rfl rfl md_M_take_13 (fun v2 s1 => ?_)
      refine sp_iastore (pc := 16) hX md_M_take_16 (fun s3 => ?_)
      refine sp_iinc (pc := 17) (i := 3) (L' := [(3, Value.int (iI (x3 + 1))), (0, Value.ref x0), (1, Value.int (iI x1)), (2, Value.ref x2)]) hX 3 rfl (by decide) rfl md_M_take_17 ?_
      refine sp_goto (pc := 20) hX 2 (by decide) md_M_take_20 ?_
      refine sp_sub [1, 2, 3, 0] (L' := [(0, Value.ref x0), (1, Value.int (iI x1)), (2, Value.ref x2), (3, Value.int (iI (x3 + 1)))]) rfl ?_
      exact ih x0 x1 x2 (x3 + 1) s3
set_option maxHeartbeats 4000000 in
set_option maxRecDepth 20000 in
theorem mc_M_take {l : Launch} {E : pw_E} {σ : pw_Sto} {x0 : Nat} {x1 : Int} {x2 : Nat} {out : Unit × pw_Sto} (h : mf_M_take x0 x1 x2 σ = some out) : pw_CV l E my_M_take prog_14_method_14_code 4 none mr_M_take [.ref x0, .int (iI x1), .ref x2] σ out := by
  unfold mf_M_take at h
  refine pw_entryV (by decide) (Nat.le_of_ble_eq_true rfl) (pw_gd_val h) (fun X hX hR hI => ?_)
  change pw_Ok X prog_14_method_14_code "PadeWorkbenchModel" mr_M_take 4 at hX
  show pw_Sp X 0 0 0 [(0, Value.ref x0), (1, Value.int (iI x1)), (2, Value.ref x2)] [] σ _
  refine sp_iconst (pc := 0) hX md_M_take_0 ?_
  refine sp_istore_n (pc := 1) (k := 3) (i := 3) (L' := [(3, Value.int (iI (0 : Int))), (0, Value.ref x0), (1, Value.int (iI x1)), (2, Value.ref x2)]) hX rfl (by decide) rfl md_M_take_1 ?_
  refine sp_sub [1, 2, 3, 0] (L' := [(0, Value.ref x0), (1, Value.int (iI x1)), (2, Value.ref x2), (3, Value.int (iI (0 : Int)))]) rfl ?_
  exact sl_M_take_2 hX hR 1000 x0 x1 x2 (0 : Int) σ
/-! PadeWorkbenchModel.clear([I)V -/
theorem md_M_clear_0 : decode prog_14_method_15_code 0 = .ok (.iconst 0, 1) := by decide +kernel
theorem md_M_clear_1 : decode prog_14_method_15_code 1 = .ok (.istore_n 1, 1) := by decide +kernel
theorem md_M_clear_2 : decode prog_14_method_15_code 2 = .ok (.iload_n 1, 1) := by decide +kernel
theorem md_M_clear_3 : decode prog_14_method_15_code 3 = .ok (.aload_n 0, 1) := by decide +kernel
theorem md_M_clear_4 : decode prog_14_method_15_code 4 = .ok (.arraylength, 1) := by decide +kernel
theorem md_M_clear_5 : decode prog_14_method_15_code 5 = .ok (.if_icmp .ge 13, 3) := by decide +kernel
theorem md_M_clear_18 : decode prog_14_method_15_code 18 = .ok (.return_, 1) := by decide +kernel
theorem md_M_clear_8 : decode prog_14_method_15_code 8 = .ok (.aload_n 0, 1) := by decide +kernel
theorem md_M_clear_9 : decode prog_14_method_15_code 9 = .ok (.iload_n 1, 1) := by decide +kernel
theorem md_M_clear_10 : decode prog_14_method_15_code 10 = .ok (.iconst 0, 1) := by decide +kernel
theorem md_M_clear_11 : decode prog_14_method_15_code 11 = .ok (.iastore, 1) := by decide +kernel
theorem md_M_clear_12 : decode prog_14_method_15_code 12 = .ok (.iinc 1 1, 3) := by decide +kernel
theorem md_M_clear_15 : decode prog_14_method_15_code 15 = .ok (.goto (-13), 3) := by decide +kernel
def mb_M_clear_2 (rc : Nat → Int → pw_Sto → Option (Unit × pw_Sto)) : Nat → Int → pw_Sto → Option (Unit × pw_Sto) := fun x0 x1 σ => (pw_al x0 σ).bind (fun v1 => pw_ck x1 v1 (if v1 ≤ x1 then some ((), σ) else (pw_si x0 x1 (0 : Int) σ).bind (fun s2 => rc x0 (x1 + 1) s2)))
def ml_M_clear_2 : Nat → Nat → Int → pw_Sto → Option (Unit × pw_Sto) := pw_lp (fun _ _ _ => none) (mb_M_clear_2)
def mf_M_clear (x0 : Nat) (σ : pw_Sto) : Option (Unit × pw_Sto) := ml_M_clear_2 1000 x0 (0 : Int) σ
set_option maxHeartbeats 4000000 in
set_option maxRecDepth 20000 in
theorem sl_M_clear_2 {X : pw_X Unit} (hX : pw_Ok X prog_14_method_15_code "PadeWorkbenchModel" mr_M_clear 2) (hR : pw_RV X prog_14_method_15_code) : ∀ (n : Nat) (x0 : Nat) (x1 : Int) (σ : pw_Sto), pw_Sp X 0 0 2 [(0, Value.ref x0), (1, Value.int (iI x1))] [] σ (ml_M_clear_2 n x0 x1 σ) := by
  intro n
  induction n with
  | zero => intros; exact pw_none
  | succ n ih =>
    intro x0 x1 σ
    show pw_Sp X 0 0 2 _ _ σ (mb_M_clear_2 (ml_M_clear_2 n) x0 x1 σ)
    unfold mb_M_clear_2
    refine sp_iload_n (pc := 2) (k := 1) (i := 1) hX rfl 1 rfl md_M_clear_2 ?_
    refine sp_aload_n (pc := 3) (k := 0) (i := 0) hX rfl 0 rfl md_M_clear_3 ?_
    refine sp_alen (pc := 4) hX md_M_clear_4 (fun v1 => ?_)
    refine sp_icmp_ge (pc := 5) hX 18 (by decide) md_M_clear_5 (fun _ => ?_) (fun _ => ?_)
    · exact sp_vret (pc := 18) hX hR rfl (Nat.le_of_ble_eq_true rfl) md_M_clear_18
    · refine sp_aload_n (pc := 8) (k := 0) (i := 0) hX rfl 0 rfl md_M_clear_8 ?_
      refine sp_iload_n (pc := 9) (k := 1) (i := 1) hX rfl 1 rfl md_M_clear_9 ?_
      refine sp_iconst (pc := 10) hX md_M_clear_10 ?_
      refine sp_iastore (pc := 11) hX md_M_clear_11 (fun s2 => ?_)
      refine sp_iinc (pc := 12) (i := 1) (L' := [(1, Value.int (iI (x1 + 1))), (0, Value.ref x0)]) hX 1 rfl (by decide) rfl md_M_clear_12 ?_
      refine sp_goto (pc := 15) hX 2 (by decide) md_M_clear_15 ?_
      refine sp_sub [1, 0] (L' := [(0, Value.ref x0), (1, Value.int (iI (x1 + 1)))]) rfl ?_
      exact ih x0 (x1 + 1) s2
set_option maxHeartbeats 4000000 in
set_option maxRecDepth 20000 in
theorem mc_M_clear {l : Launch} {E : pw_E} {σ : pw_Sto} {x0 : Nat} {out : Unit × pw_Sto} (h : mf_M_clear x0 σ = some out) : pw_CV l E my_M_clear prog_14_method_15_code 2 none mr_M_clear [.ref x0] σ out := by
  unfold mf_M_clear at h
  refine pw_entryV (by decide) (Nat.le_of_ble_eq_true rfl) h (fun X hX hR hI => ?_)
  change pw_Ok X prog_14_method_15_code "PadeWorkbenchModel" mr_M_clear 2 at hX
  show pw_Sp X 0 0 0 [(0, Value.ref x0)] [] σ _
  refine sp_iconst (pc := 0) hX md_M_clear_0 ?_
  refine sp_istore_n (pc := 1) (k := 1) (i := 1) (L' := [(1, Value.int (iI (0 : Int))), (0, Value.ref x0)]) hX rfl (by decide) rfl md_M_clear_1 ?_
  refine sp_sub [1, 0] (L' := [(0, Value.ref x0), (1, Value.int (iI (0 : Int)))]) rfl ?_
  exact sl_M_clear_2 hX hR 1000 x0 (0 : Int) σ
/-! PadeWorkbenchModel.store(I)I -/
theorem md_M_store_0 : decode prog_14_method_16_code 0 = .ok (.aload_n 0, 1) := by decide +kernel
theorem md_M_store_1 : decode prog_14_method_16_code 1 = .ok (.invokevirtual 81, 3) := by decide +kernel
theorem md_M_store_4 : decode prog_14_method_16_code 4 = .ok (.iconst 0, 1) := by decide +kernel
theorem md_M_store_5 : decode prog_14_method_16_code 5 = .ok (.istore_n 2, 1) := by decide +kernel
theorem md_M_store_6 : decode prog_14_method_16_code 6 = .ok (.iconst 0, 1) := by decide +kernel
theorem md_M_store_7 : decode prog_14_method_16_code 7 = .ok (.istore_n 3, 1) := by decide +kernel
theorem md_M_store_8 : decode prog_14_method_16_code 8 = .ok (.iload_n 3, 1) := by decide +kernel
theorem md_M_store_9 : decode prog_14_method_16_code 9 = .ok (.bipush 16, 2) := by decide +kernel
theorem md_M_store_11 : decode prog_14_method_16_code 11 = .ok (.if_icmp .ge 45, 3) := by decide +kernel
theorem md_M_store_56 : decode prog_14_method_16_code 56 = .ok (.iload_n 2, 1) := by decide +kernel
theorem md_M_store_57 : decode prog_14_method_16_code 57 = .ok (.ireturn, 1) := by decide +kernel
theorem md_M_store_14 : decode prog_14_method_16_code 14 = .ok (.aload_n 0, 1) := by decide +kernel
theorem md_M_store_15 : decode prog_14_method_16_code 15 = .ok (.getfield 7, 3) := by decide +kernel
theorem md_M_store_18 : decode prog_14_method_16_code 18 = .ok (.iconst 1, 1) := by decide +kernel
theorem md_M_store_19 : decode prog_14_method_16_code 19 = .ok (.bipush 16, 2) := by decide +kernel
theorem md_M_store_21 : decode prog_14_method_16_code 21 = .ok (.iload_n 1, 1) := by decide +kernel
theorem md_M_store_22 : decode prog_14_method_16_code 22 = .ok (.imul, 1) := by decide +kernel
theorem md_M_store_23 : decode prog_14_method_16_code 23 = .ok (.iadd, 1) := by decide +kernel
theorem md_M_store_24 : decode prog_14_method_16_code 24 = .ok (.iload_n 3, 1) := by decide +kernel
theorem md_M_store_25 : decode prog_14_method_16_code 25 = .ok (.iadd, 1) := by decide +kernel
theorem md_M_store_26 : decode prog_14_method_16_code 26 = .ok (.aload_n 0, 1) := by decide +kernel
theorem md_M_store_27 : decode prog_14_method_16_code 27 = .ok (.getfield 22, 3) := by decide +kernel
theorem md_M_store_30 : decode prog_14_method_16_code 30 = .ok (.iload_n 3, 1) := by decide +kernel
theorem md_M_store_31 : decode prog_14_method_16_code 31 = .ok (.iaload, 1) := by decide +kernel
theorem md_M_store_32 : decode prog_14_method_16_code 32 = .ok (.iastore, 1) := by decide +kernel
theorem md_M_store_33 : decode prog_14_method_16_code 33 = .ok (.iload_n 2, 1) := by decide +kernel
theorem md_M_store_34 : decode prog_14_method_16_code 34 = .ok (.aload_n 0, 1) := by decide +kernel
theorem md_M_store_35 : decode prog_14_method_16_code 35 = .ok (.getfield 22, 3) := by decide +kernel
theorem md_M_store_38 : decode prog_14_method_16_code 38 = .ok (.iload_n 3, 1) := by decide +kernel
theorem md_M_store_39 : decode prog_14_method_16_code 39 = .ok (.iaload, 1) := by decide +kernel
theorem md_M_store_40 : decode prog_14_method_16_code 40 = .ok (.ifCond .ne 7, 3) := by decide +kernel
theorem md_M_store_47 : decode prog_14_method_16_code 47 = .ok (.iconst 1, 1) := by decide +kernel
theorem md_M_store_48 : decode prog_14_method_16_code 48 = .ok (.iadd, 1) := by decide +kernel
theorem md_M_store_49 : decode prog_14_method_16_code 49 = .ok (.istore_n 2, 1) := by decide +kernel
theorem md_M_store_50 : decode prog_14_method_16_code 50 = .ok (.iinc 3 1, 3) := by decide +kernel
theorem md_M_store_53 : decode prog_14_method_16_code 53 = .ok (.goto (-45), 3) := by decide +kernel
theorem md_M_store_43 : decode prog_14_method_16_code 43 = .ok (.iconst 0, 1) := by decide +kernel
theorem md_M_store_44 : decode prog_14_method_16_code 44 = .ok (.goto 4, 3) := by decide +kernel
def mj_M_store_48 (r8 : Nat → Int → Int → Int → pw_Sto → Option (Int × pw_Sto)) (x0 : Nat) (x1 : Int) (x3 : Int) (y0 : Int) (y1 : Int) (σ : pw_Sto) : Option (Int × pw_Sto) := r8 x0 x1 (y1 + y0) (x3 + 1) σ
def mb_M_store_8 (rc : Nat → Int → Int → Int → pw_Sto → Option (Int × pw_Sto)) : Nat → Int → Int → Int → pw_Sto → Option (Int × pw_Sto) := fun x0 x1 x2 x3 σ => pw_ck x3 (16 : Int) (if (16 : Int) ≤ x3 then some (x2, σ) else (pw_gr 10 x0 0 σ).bind (fun v2 => (pw_gr 10 x0 6 σ).bind (fun v3 => (pw_ai v3 x3 σ).bind (fun v4 => (pw_si v2 (((1 : Int) + ((16 : Int) * x1)) + x3) v4 σ).bind (fun s5 => (pw_gr 10 x0 6 s5).bind (fun v6 => (pw_ai v6 x3 s5).bind (fun v7 => pw_ck v7 0 (if v7 = 0 then mj_M_store_48 rc x0 x1 x3 (0 : Int) x2 s5 else mj_M_store_48 rc x0 x1 x3 (1 : Int) x2 s5))))))))
def ml_M_store_8 : Nat → Nat → Int → Int → Int → pw_Sto → Option (Int × pw_Sto) := pw_lp (fun _ _ _ _ _ => none) (mb_M_store_8)
def mf_M_store (x0 : Nat) (x1 : Int) (σ : pw_Sto) : Option (Int × pw_Sto) := pw_gd 10 x0 σ (pw_bd (mf_M_save x0 σ) (fun _ s1 => ml_M_store_8 1000 x0 x1 (0 : Int) (0 : Int) s1))
set_option maxHeartbeats 4000000 in
set_option maxRecDepth 20000 in
theorem sj_M_store_48 {X : pw_X Int} (hX : pw_Ok X prog_14_method_16_code "PadeWorkbenchModel" mr_M_store 4) (hR : pw_RI X prog_14_method_16_code) {r8 : Nat → Int → Int → Int → pw_Sto → Option (Int × pw_Sto)} (h8 : ∀ (z0 : Nat) (z1 : Int) (z2 : Int) (z3 : Int) (σ : pw_Sto), pw_Sp X 0 0 8 [(0, Value.ref z0), (1, Value.int (iI z1)), (2, Value.int (iI z2)), (3, Value.int (iI z3))] [] σ (r8 z0 z1 z2 z3 σ)) (x0 : Nat) (x1 : Int) (x3 : Int) (y0 : Int) (y1 : Int) (σ : pw_Sto) : pw_Sp X 0 0 48 [(0, Value.ref x0), (1, Value.int (iI x1)), (3, Value.int (iI x3))] [Value.int (iI y0), Value.int (iI y1)] σ (mj_M_store_48 r8 x0 x1 x3 y0 y1 σ) := by
  unfold mj_M_store_48
  refine sp_iadd (pc := 48) hX md_M_store_48 ?_
  refine sp_istore_n (pc := 49) (k := 2) (i := 2) (L' := [(2, Value.int (iI (y1 + y0))), (0, Value.ref x0), (1, Value.int (iI x1)), (3, Value.int (iI x3))]) hX rfl (by decide) rfl md_M_store_49 ?_
  refine sp_iinc (pc := 50) (i := 3) (L' := [(3, Value.int (iI (x3 + 1))), (2, Value.int (iI (y1 + y0))), (0, Value.ref x0), (1, Value.int (iI x1))]) hX 3 rfl (by decide) rfl md_M_store_50 ?_
  refine sp_goto (pc := 53) hX 8 (by decide) md_M_store_53 ?_
  refine sp_sub [2, 3, 1, 0] (L' := [(0, Value.ref x0), (1, Value.int (iI x1)), (2, Value.int (iI (y1 + y0))), (3, Value.int (iI (x3 + 1)))]) rfl ?_
  exact h8 x0 x1 (y1 + y0) (x3 + 1) σ
set_option maxHeartbeats 4000000 in
set_option maxRecDepth 20000 in
theorem sl_M_store_8 {X : pw_X Int} (hX : pw_Ok X prog_14_method_16_code "PadeWorkbenchModel" mr_M_store 4) (hR : pw_RI X prog_14_method_16_code) : ∀ (n : Nat) (x0 : Nat) (x1 : Int) (x2 : Int) (x3 : Int) (σ : pw_Sto), pw_Sp X 0 0 8 [(0, Value.ref x0), (1, Value.int (iI x1)), (2, Value.int (iI x2)), (3, Value.int (iI x3))] [] σ (ml_M_store_8 n x0 x1 x2 x3 σ) := by
  intro n
  induction n with
  | zero => intros; exact pw_none
  | succ n ih =>
    intro x0 x1 x2 x3 σ
    show pw_Sp X 0 0 8 _ _ σ (mb_M_store_8 (ml_M_store_8 n) x0 x1 x2 x3 σ)
    unfold mb_M_store_8
    refine sp_iload_n (pc := 8) (k := 3) (i := 3) hX rfl 3 rfl md_M_store_8 ?_
    refine sp_bipush (pc := 9) hX (by decide) md_M_store_9 ?_
    refine sp_icmp_ge (pc := 11) hX 56 (by decide) md_M_store_11 (fun _ => ?_) (fun _ => ?_)
    · refine sp_iload_n (pc := 56) (k := 2) (i := 2) hX rfl 2 rfl md_M_store_56 ?_
      exact sp_iret (pc := 57) hX hR rfl (Nat.le_of_ble_eq_true rfl) md_M_store_57
    · refine sp_aload_n (pc := 14) (k := 0) (i := 0) hX rfl 0 rfl md_M_store_14 ?_
      refine sp_getR (pc := 15) (ci := 10) (k := 0) (idx := 7) hX mcl_10 (by decide) mq_799 rfl md_M_store_15 (fun v2 => ?_)
      refine sp_iconst (pc := 18) hX md_M_store_18 ?_
      refine sp_bipush (pc := 19) hX (by decide) md_M_store_19 ?_
      refine sp_iload_n (pc := 21) (k := 1) (i := 1) hX rfl 1 rfl md_M_store_21 ?_
      refine sp_imul (pc := 22) hX md_M_store_22 ?_
      refine sp_iadd (pc := 23) hX md_M_store_23 ?_
      refine sp_iload_n (pc := 24) (k := 3) (i := 3) hX rfl 3 rfl md_M_store_24 ?_
      refine sp_iadd (pc := 25) hX md_M_store_25 ?_
      refine sp_aload_n (pc := 26) (k := 0) (i := 0) hX rfl 0 rfl md_M_store_26 ?_
      refine sp_getR (pc := 27) (ci := 10) (k := 6) (idx := 22) hX mcl_10 (by decide) mq_805 rfl md_M_store_27 (fun v3 => ?_)
      refine sp_iload_n (pc := 30) (k := 3) (i := 3) hX rfl 3 rfl md_M_store_30 ?_
      refine sp_iaload (pc := 31) hX md_M_store_31 (fun v4 => ?_)
      refine sp_iastore (pc := 32) hX md_M_store_32 (fun s5 => ?_)
      refine sp_iload_n (pc := 33) (k := 2) (i := 2) hX rfl 2 rfl md_M_store_33 ?_
      refine sp_aload_n (pc := 34) (k := 0) (i := 0) hX rfl 0 rfl md_M_store_34 ?_
      refine sp_getR (pc := 35) (ci := 10) (k := 6) (idx := 22) hX mcl_10 (by decide) mq_805 rfl md_M_store_35 (fun v6 => ?_)
      refine sp_iload_n (pc := 38) (k := 3) (i := 3) hX rfl 3 rfl md_M_store_38 ?_
      refine sp_iaload (pc := 39) hX md_M_store_39 (fun v7 => ?_)
      refine sp_if_ne (pc := 40) hX 47 (by decide) md_M_store_40 (fun _ => ?_) (fun _ => ?_)
      · refine sp_iconst (pc := 43) hX md_M_store_43 ?_
        refine sp_goto (pc := 44) hX 48 (by decide) md_M_store_44 ?_
        refine sp_sub [0, 1, 3] (L' := [(0, Value.ref x0), (1, Value.int (iI x1)), (3, Value.int (iI x3))]) rfl ?_
        exact sj_M_store_48 hX hR ih x0 x1 x3 (0 : Int) x2 s5
      · refine sp_iconst (pc := 47) hX md_M_store_47 ?_
        refine sp_sub [0, 1, 3] (L' := [(0, Value.ref x0), (1, Value.int (iI x1)), (3, Value.int (iI x3))]) rfl ?_
        exact sj_M_store_48 hX hR ih x0 x1 x3 (1 : Int) x2 s5
set_option maxHeartbeats 4000000 in
set_option maxRecDepth 20000 in
theorem mc_M_store {l : Launch} {E : pw_E} {σ : pw_Sto} {x0 : Nat} {x1 : Int} {out : Int × pw_Sto} (h : mf_M_store x0 x1 σ = some out) : pw_CI l E my_M_store prog_14_method_16_code 4 (some .int) mr_M_store [.ref x0, .int (iI x1)] σ out := by
  unfold mf_M_store at h
  refine pw_entryI (by decide) (Nat.le_of_ble_eq_true rfl) (pw_gd_val h) (fun X hX hR hI => ?_)
  change pw_Ok X prog_14_method_16_code "PadeWorkbenchModel" mr_M_store 4 at hX
  show pw_Sp X 0 0 0 [(0, Value.ref x0), (1, Value.int (iI x1))] [] σ _
  refine sp_aload_n (pc := 0) (k := 0) (i := 0) hX rfl 0 rfl md_M_store_0 ?_
  refine sp_callVV (pc := 1) (y := my_M_save) (ccy := prog_14_method_10_code) (nLy := 2) (ret := none) (rmy := mr_M_save) (n := 0) (idx := 81) (As := []) (st := []) (o := x0) (cells' := 0) (slots' := 0) hX (fun _ h => mc_M_save h) mk_M_save mv_M_save mcl_10 (fun _ h => pw_gd_of h) mq_874 ⟨(Nat.le_of_ble_eq_true rfl), (Nat.le_of_ble_eq_true rfl)⟩ rfl rfl (Nat.le_of_ble_eq_true rfl) ⟨(Nat.le_of_ble_eq_true rfl), (Nat.le_of_ble_eq_true rfl)⟩ rfl rfl md_M_store_1 (fun s1 => ?_)
  refine sp_iconst (pc := 4) hX md_M_store_4 ?_
  refine sp_istore_n (pc := 5) (k := 2) (i := 2) (L' := [(2, Value.int (iI (0 : Int))), (0, Value.ref x0), (1, Value.int (iI x1))]) hX rfl (by decide) rfl md_M_store_5 ?_
  refine sp_iconst (pc := 6) hX md_M_store_6 ?_
  refine sp_istore_n (pc := 7) (k := 3) (i := 3) (L' := [(3, Value.int (iI (0 : Int))), (2, Value.int (iI (0 : Int))), (0, Value.ref x0), (1, Value.int (iI x1))]) hX rfl (by decide) rfl md_M_store_7 ?_
  refine sp_sub [2, 3, 1, 0] (L' := [(0, Value.ref x0), (1, Value.int (iI x1)), (2, Value.int (iI (0 : Int))), (3, Value.int (iI (0 : Int)))]) rfl ?_
  exact sl_M_store_8 hX hR 1000 x0 x1 (0 : Int) (0 : Int) s1
/-! PadeWorkbenchModel.makeProduct()V -/
theorem md_M_makeProduct_0 : decode prog_14_method_17_code 0 = .ok (.iconst 0, 1) := by decide +kernel
theorem md_M_makeProduct_1 : decode prog_14_method_17_code 1 = .ok (.istore_n 1, 1) := by decide +kernel
theorem md_M_makeProduct_2 : decode prog_14_method_17_code 2 = .ok (.iload_n 1, 1) := by decide +kernel
theorem md_M_makeProduct_3 : decode prog_14_method_17_code 3 = .ok (.bipush 16, 2) := by decide +kernel
theorem md_M_makeProduct_5 : decode prog_14_method_17_code 5 = .ok (.if_icmp .ge 53, 3) := by decide +kernel
theorem md_M_makeProduct_58 : decode prog_14_method_17_code 58 = .ok (.return_, 1) := by decide +kernel
theorem md_M_makeProduct_8 : decode prog_14_method_17_code 8 = .ok (.iconst 0, 1) := by decide +kernel
theorem md_M_makeProduct_9 : decode prog_14_method_17_code 9 = .ok (.istore_n 2, 1) := by decide +kernel
theorem md_M_makeProduct_10 : decode prog_14_method_17_code 10 = .ok (.iconst 0, 1) := by decide +kernel
theorem md_M_makeProduct_11 : decode prog_14_method_17_code 11 = .ok (.istore_n 3, 1) := by decide +kernel
theorem md_M_makeProduct_12 : decode prog_14_method_17_code 12 = .ok (.iload_n 3, 1) := by decide +kernel
theorem md_M_makeProduct_13 : decode prog_14_method_17_code 13 = .ok (.iload_n 1, 1) := by decide +kernel
theorem md_M_makeProduct_14 : decode prog_14_method_17_code 14 = .ok (.if_icmp .gt 31, 3) := by decide +kernel
theorem md_M_makeProduct_45 : decode prog_14_method_17_code 45 = .ok (.aload_n 0, 1) := by decide +kernel
theorem md_M_makeProduct_46 : decode prog_14_method_17_code 46 = .ok (.getfield 22, 3) := by decide +kernel
theorem md_M_makeProduct_49 : decode prog_14_method_17_code 49 = .ok (.iload_n 1, 1) := by decide +kernel
theorem md_M_makeProduct_50 : decode prog_14_method_17_code 50 = .ok (.iload_n 2, 1) := by decide +kernel
theorem md_M_makeProduct_51 : decode prog_14_method_17_code 51 = .ok (.iastore, 1) := by decide +kernel
theorem md_M_makeProduct_52 : decode prog_14_method_17_code 52 = .ok (.iinc 1 1, 3) := by decide +kernel
theorem md_M_makeProduct_55 : decode prog_14_method_17_code 55 = .ok (.goto (-53), 3) := by decide +kernel
theorem md_M_makeProduct_17 : decode prog_14_method_17_code 17 = .ok (.aload_n 0, 1) := by decide +kernel
theorem md_M_makeProduct_18 : decode prog_14_method_17_code 18 = .ok (.iload_n 2, 1) := by decide +kernel
theorem md_M_makeProduct_19 : decode prog_14_method_17_code 19 = .ok (.aload_n 0, 1) := by decide +kernel
theorem md_M_makeProduct_20 : decode prog_14_method_17_code 20 = .ok (.getfield 25, 3) := by decide +kernel
theorem md_M_makeProduct_23 : decode prog_14_method_17_code 23 = .ok (.iload_n 3, 1) := by decide +kernel
theorem md_M_makeProduct_24 : decode prog_14_method_17_code 24 = .ok (.iaload, 1) := by decide +kernel
theorem md_M_makeProduct_25 : decode prog_14_method_17_code 25 = .ok (.aload_n 0, 1) := by decide +kernel
theorem md_M_makeProduct_26 : decode prog_14_method_17_code 26 = .ok (.getfield 28, 3) := by decide +kernel
theorem md_M_makeProduct_29 : decode prog_14_method_17_code 29 = .ok (.iload_n 1, 1) := by decide +kernel
theorem md_M_makeProduct_30 : decode prog_14_method_17_code 30 = .ok (.iload_n 3, 1) := by decide +kernel
theorem md_M_makeProduct_31 : decode prog_14_method_17_code 31 = .ok (.isub, 1) := by decide +kernel
theorem md_M_makeProduct_32 : decode prog_14_method_17_code 32 = .ok (.iaload, 1) := by decide +kernel
theorem md_M_makeProduct_33 : decode prog_14_method_17_code 33 = .ok (.imul, 1) := by decide +kernel
theorem md_M_makeProduct_34 : decode prog_14_method_17_code 34 = .ok (.iadd, 1) := by decide +kernel
theorem md_M_makeProduct_35 : decode prog_14_method_17_code 35 = .ok (.invokevirtual 91, 3) := by decide +kernel
theorem md_M_makeProduct_38 : decode prog_14_method_17_code 38 = .ok (.istore_n 2, 1) := by decide +kernel
theorem md_M_makeProduct_39 : decode prog_14_method_17_code 39 = .ok (.iinc 3 1, 3) := by decide +kernel
theorem md_M_makeProduct_42 : decode prog_14_method_17_code 42 = .ok (.goto (-30), 3) := by decide +kernel
def mb_M_makeProduct_12 (r2 : Nat → Int → pw_Sto → Option (Unit × pw_Sto)) (rc : Nat → Int → Int → Int → pw_Sto → Option (Unit × pw_Sto)) : Nat → Int → Int → Int → pw_Sto → Option (Unit × pw_Sto) := fun x0 x1 x2 x3 σ => pw_ck x3 x1 (if x1 < x3 then (pw_gr 10 x0 6 σ).bind (fun v1 => (pw_si v1 x1 x2 σ).bind (fun s2 => r2 x0 (x1 + 1) s2)) else (pw_gr 10 x0 7 σ).bind (fun v3 => (pw_ai v3 x3 σ).bind (fun v4 => (pw_gr 10 x0 8 σ).bind (fun v5 => (pw_ai v5 (x1 - x3) σ).bind (fun v6 => pw_bd (mf_M_mod x0 (x2 + (v4 * v6)) σ) (fun v8 s7 => rc x0 x1 v8 (x3 + 1) s7))))))
def ml_M_makeProduct_12 (r2 : Nat → Int → pw_Sto → Option (Unit × pw_Sto)) : Nat → Nat → Int → Int → Int → pw_Sto → Option (Unit × pw_Sto) := pw_lp (fun _ _ _ _ _ => none) (mb_M_makeProduct_12 r2)
def mb_M_makeProduct_2 (rc : Nat → Int → pw_Sto → Option (Unit × pw_Sto)) : Nat → Int → pw_Sto → Option (Unit × pw_Sto) := fun x0 x1 σ => pw_ck x1 (16 : Int) (if (16 : Int) ≤ x1 then some ((), σ) else ml_M_makeProduct_12 rc 1000 x0 x1 (0 : Int) (0 : Int) σ)
def ml_M_makeProduct_2 : Nat → Nat → Int → pw_Sto → Option (Unit × pw_Sto) := pw_lp (fun _ _ _ => none) (mb_M_makeProduct_2)
def mf_M_makeProduct (x0 : Nat) (σ : pw_Sto) : Option (Unit × pw_Sto) := pw_gd 10 x0 σ (ml_M_makeProduct_2 1000 x0 (0 : Int) σ)
set_option maxHeartbeats 4000000 in
set_option maxRecDepth 20000 in
theorem sl_M_makeProduct_12 {X : pw_X Unit} (hX : pw_Ok X prog_14_method_17_code "PadeWorkbenchModel" mr_M_makeProduct 4) (hR : pw_RV X prog_14_method_17_code) {r2 : Nat → Int → pw_Sto → Option (Unit × pw_Sto)} (h2 : ∀ (z0 : Nat) (z1 : Int) (σ : pw_Sto), pw_Sp X 0 0 2 [(0, Value.ref z0), (1, Value.int (iI z1))] [] σ (r2 z0 z1 σ)) : ∀ (n : Nat) (x0 : Nat) (x1 : Int) (x2 : Int) (x3 : Int) (σ : pw_Sto), pw_Sp X 0 0 12 [(0, Value.ref x0), (1, Value.int (iI x1)), (2, Value.int (iI x2)), (3, Value.int (iI x3))] [] σ (ml_M_makeProduct_12 r2 n x0 x1 x2 x3 σ) := by
  intro n
  induction n with
  | zero => intros; exact pw_none
  | succ n ih =>
    intro x0 x1 x2 x3 σ
    show pw_Sp X 0 0 12 _ _ σ (mb_M_makeProduct_12 r2 (ml_M_makeProduct_12 r2 n) x0 x1 x2 x3 σ)
    unfold mb_M_makeProduct_12
    refine sp_iload_n (pc := 12) (k := 3) (i := 3) hX rfl 3 rfl md_M_makeProduct_12 ?_
    refine sp_iload_n (pc := 13) (k := 1) (i := 1) hX rfl 1 rfl md_M_makeProduct_13 ?_
    refine sp_icmp_gt (pc := 14) hX 45 (by decide) md_M_makeProduct_14 (fun _ => ?_) (fun _ => ?_)
    · refine sp_aload_n (pc := 45) (k := 0) (i := 0) hX rfl 0 rfl md_M_makeProduct_45 ?_
      refine sp_getR (pc := 46) (ci := 10) (k := 6) (idx := 22) hX mcl_10 (by decide) mq_805 rfl md_M_makeProduct_46 (fun v1 => ?_)
      refine sp_iload_n (pc := 49) (k := 1) (i := 1) hX rfl 1 rfl md_M_makeProduct_49 ?_
      refine sp_iload_n (pc := 50) (k := 2) (i := 2) hX rfl 2 rfl md_M_makeProduct_50 ?_
      refine sp_iastore (pc := 51) hX md_M_makeProduct_51 (fun s2 => ?_)
      refine sp_iinc (pc := 52) (i := 1) (L' := [(1, Value.int (iI (x1 + 1))), (0, Value.ref x0), (2, Value.int (iI x2)), (3, Value.int (iI x3))]) hX 1 rfl (by decide) rfl md_M_makeProduct_52 ?_
      refine sp_goto (pc := 55) hX 2 (by decide) md_M_makeProduct_55 ?_
      refine sp_sub [1, 0] (L' := [(0, Value.ref x0), (1, Value.int (iI (x1 + 1)))]) rfl ?_
      exact h2 x0 (x1 + 1) s2
    · refine sp_aload_n (pc := 17) (k := 0) (i := 0) hX rfl 0 rfl md_M_makeProduct_17 ?_
      refine sp_iload_n (pc := 18) (k := 2) (i := 2) hX rfl 2 rfl md_M_makeProduct_18 ?_
      refine sp_aload_n (pc := 19) (k := 0) (i := 0) hX rfl 0 rfl md_M_makeProduct_19 ?_
      refine sp_getR (pc := 20) (ci := 10) (k := 7) (idx := 25) hX mcl_10 (by decide) mq_806 rfl md_M_makeProduct_20 (fun v3 => ?_)
      refine sp_iload_n (pc := 23) (k := 3) (i := 3) hX rfl 3 rfl md_M_makeProduct_23 ?_
      refine sp_iaload (pc := 24) hX md_M_makeProduct_24 (fun v4 => ?_)
      refine sp_aload_n (pc := 25) (k := 0) (i := 0) hX rfl 0 rfl md_M_makeProduct_25 ?_
      refine sp_getR (pc := 26) (ci := 10) (k := 8) (idx := 28) hX mcl_10 (by decide) mq_807 rfl md_M_makeProduct_26 (fun v5 => ?_)
      refine sp_iload_n (pc := 29) (k := 1) (i := 1) hX rfl 1 rfl md_M_makeProduct_29 ?_
      refine sp_iload_n (pc := 30) (k := 3) (i := 3) hX rfl 3 rfl md_M_makeProduct_30 ?_
      refine sp_isub (pc := 31) hX md_M_makeProduct_31 ?_
      refine sp_iaload (pc := 32) hX md_M_makeProduct_32 (fun v6 => ?_)
      refine sp_imul (pc := 33) hX md_M_makeProduct_33 ?_
      refine sp_iadd (pc := 34) hX md_M_makeProduct_34 ?_
      refine sp_callVI (pc := 35) (y := my_M_mod) (ccy := prog_14_method_5_code) (nLy := 3) (ret := (some .int)) (rmy := mr_M_mod) (n := 1) (idx := 91) (As := [.int (iI (x2 + (v4 * v6)))]) (st := []) (o := x0) (cells' := 0) (slots' := 0) hX (fun _ h => mc_M_mod h) mk_M_mod mv_M_mod mcl_10 (fun _ h => pw_gd_of h) mq_901 ⟨(Nat.le_of_ble_eq_true rfl), (Nat.le_of_ble_eq_true rfl)⟩ rfl rfl (Nat.le_of_ble_eq_true rfl) ⟨(Nat.le_of_ble_eq_true rfl), (Nat.le_of_ble_eq_true rfl)⟩ rfl rfl md_M_makeProduct_35 (fun v8 s7 => ?_)
      refine sp_istore_n (pc := 38) (k := 2) (i := 2) (L' := [(2, Value.int (iI v8)), (0, Value.ref x0), (1, Value.int (iI x1)), (3, Value.int (iI x3))]) hX rfl (by decide) rfl md_M_makeProduct_38 ?_
      refine sp_iinc (pc := 39) (i := 3) (L' := [(3, Value.int (iI (x3 + 1))), (2, Value.int (iI v8)), (0, Value.ref x0), (1, Value.int (iI x1))]) hX 3 rfl (by decide) rfl md_M_makeProduct_39 ?_
      refine sp_goto (pc := 42) hX 12 (by decide) md_M_makeProduct_42 ?_
      refine sp_sub [2, 3, 1, 0] (L' := [(0, Value.ref x0), (1, Value.int (iI x1)), (2, Value.int (iI v8)), (3, Value.int (iI (x3 + 1)))]) rfl ?_
      exact ih x0 x1 v8 (x3 + 1) s7
set_option maxHeartbeats 4000000 in
set_option maxRecDepth 20000 in
theorem sl_M_makeProduct_2 {X : pw_X Unit} (hX : pw_Ok X prog_14_method_17_code "PadeWorkbenchModel" mr_M_makeProduct 4) (hR : pw_RV X prog_14_method_17_code) : ∀ (n : Nat) (x0 : Nat) (x1 : Int) (σ : pw_Sto), pw_Sp X 0 0 2 [(0, Value.ref x0), (1, Value.int (iI x1))] [] σ (ml_M_makeProduct_2 n x0 x1 σ) := by
  intro n
  induction n with
  | zero => intros; exact pw_none
  | succ n ih =>
    intro x0 x1 σ
    show pw_Sp X 0 0 2 _ _ σ (mb_M_makeProduct_2 (ml_M_makeProduct_2 n) x0 x1 σ)
    unfold mb_M_makeProduct_2
    refine sp_iload_n (pc := 2) (k := 1) (i := 1) hX rfl 1 rfl md_M_makeProduct_2 ?_
    refine sp_bipush (pc := 3) hX (by decide) md_M_makeProduct_3 ?_
    refine sp_icmp_ge (pc := 5) hX 58 (by decide) md_M_makeProduct_5 (fun _ => ?_) (fun _ => ?_)
    · exact sp_vret (pc := 58) hX hR rfl (Nat.le_of_ble_eq_true rfl) md_M_makeProduct_58
    · refine sp_iconst (pc := 8) hX md_M_makeProduct_8 ?_
      refine sp_istore_n (pc := 9) (k := 2) (i := 2) (L' := [(2, Value.int (iI (0 : Int))), (0, Value.ref x0), (1, Value.int (iI x1))]) hX rfl (by decide) rfl md_M_makeProduct_9 ?_
      refine sp_iconst (pc := 10) hX md_M_makeProduct_10 ?_
      refine sp_istore_n (pc := 11) (k := 3) (i := 3) (L' := [(3, Value.int (iI (0 : Int))), (2, Value.int (iI (0 : Int))), (0, Value.ref x0), (1, Value.int (iI x1))]) hX rfl (by decide) rfl md_M_makeProduct_11 ?_
      refine sp_sub [2, 3, 1, 0] (L' := [(0, Value.ref x0), (1, Value.int (iI x1)), (2, Value.int (iI (0 : Int))), (3, Value.int (iI (0 : Int)))]) rfl ?_
      exact sl_M_makeProduct_12 hX hR ih 1000 x0 x1 (0 : Int) (0 : Int) σ
set_option maxHeartbeats 4000000 in
set_option maxRecDepth 20000 in
theorem mc_M_makeProduct {l : Launch} {E : pw_E} {σ : pw_Sto} {x0 : Nat} {out : Unit × pw_Sto} (h : mf_M_makeProduct x0 σ = some out) : pw_CV l E my_M_makeProduct prog_14_method_17_code 4 none mr_M_makeProduct [.ref x0] σ out := by
  unfold mf_M_makeProduct at h
  refine pw_entryV (by decide) (Nat.le_of_ble_eq_true rfl) (pw_gd_val h) (fun X hX hR hI => ?_)
  change pw_Ok X prog_14_method_17_code "PadeWorkbenchModel" mr_M_makeProduct 4 at hX
  show pw_Sp X 0 0 0 [(0, Value.ref x0)] [] σ _
  refine sp_iconst (pc := 0) hX md_M_makeProduct_0 ?_
  refine sp_istore_n (pc := 1) (k := 1) (i := 1) (L' := [(1, Value.int (iI (0 : Int))), (0, Value.ref x0)]) hX rfl (by decide) rfl md_M_makeProduct_1 ?_
  refine sp_sub [1, 0] (L' := [(0, Value.ref x0), (1, Value.int (iI (0 : Int)))]) rfl ?_
  exact sl_M_makeProduct_2 hX hR 1000 x0 (0 : Int) σ
/-! PadeWorkbenchModel.makeQuotient()V -/
theorem md_M_makeQuotient_0 : decode prog_14_method_18_code 0 = .ok (.aload_n 0, 1) := by decide +kernel
theorem md_M_makeQuotient_1 : decode prog_14_method_18_code 1 = .ok (.aload_n 0, 1) := by decide +kernel
theorem md_M_makeQuotient_2 : decode prog_14_method_18_code 2 = .ok (.getfield 28, 3) := by decide +kernel
theorem md_M_makeQuotient_5 : decode prog_14_method_18_code 5 = .ok (.iconst 0, 1) := by decide +kernel
theorem md_M_makeQuotient_6 : decode prog_14_method_18_code 6 = .ok (.iaload, 1) := by decide +kernel
theorem md_M_makeQuotient_7 : decode prog_14_method_18_code 7 = .ok (.invokevirtual 94, 3) := by decide +kernel
theorem md_M_makeQuotient_10 : decode prog_14_method_18_code 10 = .ok (.istore_n 1, 1) := by decide +kernel
theorem md_M_makeQuotient_11 : decode prog_14_method_18_code 11 = .ok (.iconst 0, 1) := by decide +kernel
theorem md_M_makeQuotient_12 : decode prog_14_method_18_code 12 = .ok (.istore_n 2, 1) := by decide +kernel
theorem md_M_makeQuotient_13 : decode prog_14_method_18_code 13 = .ok (.iload_n 2, 1) := by decide +kernel
theorem md_M_makeQuotient_14 : decode prog_14_method_18_code 14 = .ok (.bipush 16, 2) := by decide +kernel
theorem md_M_makeQuotient_16 : decode prog_14_method_18_code 16 = .ok (.if_icmp .ge 68, 3) := by decide +kernel
theorem md_M_makeQuotient_84 : decode prog_14_method_18_code 84 = .ok (.return_, 1) := by decide +kernel
theorem md_M_makeQuotient_19 : decode prog_14_method_18_code 19 = .ok (.aload_n 0, 1) := by decide +kernel
theorem md_M_makeQuotient_20 : decode prog_14_method_18_code 20 = .ok (.getfield 25, 3) := by decide +kernel
theorem md_M_makeQuotient_23 : decode prog_14_method_18_code 23 = .ok (.iload_n 2, 1) := by decide +kernel
theorem md_M_makeQuotient_24 : decode prog_14_method_18_code 24 = .ok (.iaload, 1) := by decide +kernel
theorem md_M_makeQuotient_25 : decode prog_14_method_18_code 25 = .ok (.istore_n 3, 1) := by decide +kernel
theorem md_M_makeQuotient_26 : decode prog_14_method_18_code 26 = .ok (.iconst 0, 1) := by decide +kernel
theorem md_M_makeQuotient_27 : decode prog_14_method_18_code 27 = .ok (.istore 4, 2) := by decide +kernel
theorem md_M_makeQuotient_29 : decode prog_14_method_18_code 29 = .ok (.iload 4, 2) := by decide +kernel
theorem md_M_makeQuotient_31 : decode prog_14_method_18_code 31 = .ok (.iload_n 2, 1) := by decide +kernel
theorem md_M_makeQuotient_32 : decode prog_14_method_18_code 32 = .ok (.if_icmp .ge 33, 3) := by decide +kernel
theorem md_M_makeQuotient_65 : decode prog_14_method_18_code 65 = .ok (.aload_n 0, 1) := by decide +kernel
theorem md_M_makeQuotient_66 : decode prog_14_method_18_code 66 = .ok (.getfield 22, 3) := by decide +kernel
theorem md_M_makeQuotient_69 : decode prog_14_method_18_code 69 = .ok (.iload_n 2, 1) := by decide +kernel
theorem md_M_makeQuotient_70 : decode prog_14_method_18_code 70 = .ok (.aload_n 0, 1) := by decide +kernel
theorem md_M_makeQuotient_71 : decode prog_14_method_18_code 71 = .ok (.iload_n 3, 1) := by decide +kernel
theorem md_M_makeQuotient_72 : decode prog_14_method_18_code 72 = .ok (.iload_n 1, 1) := by decide +kernel
theorem md_M_makeQuotient_73 : decode prog_14_method_18_code 73 = .ok (.imul, 1) := by decide +kernel
theorem md_M_makeQuotient_74 : decode prog_14_method_18_code 74 = .ok (.invokevirtual 91, 3) := by decide +kernel
theorem md_M_makeQuotient_77 : decode prog_14_method_18_code 77 = .ok (.iastore, 1) := by decide +kernel
theorem md_M_makeQuotient_78 : decode prog_14_method_18_code 78 = .ok (.iinc 2 1, 3) := by decide +kernel
theorem md_M_makeQuotient_81 : decode prog_14_method_18_code 81 = .ok (.goto (-68), 3) := by decide +kernel
theorem md_M_makeQuotient_35 : decode prog_14_method_18_code 35 = .ok (.aload_n 0, 1) := by decide +kernel
theorem md_M_makeQuotient_36 : decode prog_14_method_18_code 36 = .ok (.iload_n 3, 1) := by decide +kernel
theorem md_M_makeQuotient_37 : decode prog_14_method_18_code 37 = .ok (.aload_n 0, 1) := by decide +kernel
theorem md_M_makeQuotient_38 : decode prog_14_method_18_code 38 = .ok (.getfield 22, 3) := by decide +kernel
theorem md_M_makeQuotient_41 : decode prog_14_method_18_code 41 = .ok (.iload 4, 2) := by decide +kernel
theorem md_M_makeQuotient_43 : decode prog_14_method_18_code 43 = .ok (.iaload, 1) := by decide +kernel
theorem md_M_makeQuotient_44 : decode prog_14_method_18_code 44 = .ok (.aload_n 0, 1) := by decide +kernel
theorem md_M_makeQuotient_45 : decode prog_14_method_18_code 45 = .ok (.getfield 28, 3) := by decide +kernel
theorem md_M_makeQuotient_48 : decode prog_14_method_18_code 48 = .ok (.iload_n 2, 1) := by decide +kernel
theorem md_M_makeQuotient_49 : decode prog_14_method_18_code 49 = .ok (.iload 4, 2) := by decide +kernel
theorem md_M_makeQuotient_51 : decode prog_14_method_18_code 51 = .ok (.isub, 1) := by decide +kernel
theorem md_M_makeQuotient_52 : decode prog_14_method_18_code 52 = .ok (.iaload, 1) := by decide +kernel
theorem md_M_makeQuotient_53 : decode prog_14_method_18_code 53 = .ok (.imul, 1) := by decide +kernel
theorem md_M_makeQuotient_54 : decode prog_14_method_18_code 54 = .ok (.isub, 1) := by decide +kernel
theorem md_M_makeQuotient_55 : decode prog_14_method_18_code 55 = .ok (.invokevirtual 91, 3) := by decide +kernel
theorem md_M_makeQuotient_58 : decode prog_14_method_18_code 58 = .ok (.istore_n 3, 1) := by decide +kernel
theorem md_M_makeQuotient_59 : decode prog_14_method_18_code 59 = .ok (.iinc 4 1, 3) := by decide +kernel
theorem md_M_makeQuotient_62 : decode prog_14_method_18_code 62 = .ok (.goto (-33), 3) := by decide +kernel
def mb_M_makeQuotient_29 (r13 : Nat → Int → Int → pw_Sto → Option (Unit × pw_Sto)) (rc : Nat → Int → Int → Int → Int → pw_Sto → Option (Unit × pw_Sto)) : Nat → Int → Int → Int → Int → pw_Sto → Option (Unit × pw_Sto) := fun x0 x1 x2 x3 x4 σ => pw_ck x4 x2 (if x2 ≤ x4 then (pw_gr 10 x0 6 σ).bind (fun v7 => pw_bd (mf_M_mod x0 (x3 * x1) σ) (fun v9 s8 => (pw_si v7 x2 v9 s8).bind (fun s10 => r13 x0 x1 (x2 + 1) s10))) else (pw_gr 10 x0 6 σ).bind (fun v11 => (pw_ai v11 x4 σ).bind (fun v12 => (pw_gr 10 x0 8 σ).bind (fun v13 => (pw_ai v13 (x2 - x4) σ).bind (fun v14 => pw_bd (mf_M_mod x0 (x3 - (v12 * v14)) σ) (fun v16 s15 => rc x0 x1 x2 v16 (x4 + 1) s15))))))
def ml_M_makeQuotient_29 (r13 : Nat → Int → Int → pw_Sto → Option (Unit × pw_Sto)) : Nat → Nat → Int → Int → Int → Int → pw_Sto → Option (Unit × pw_Sto) := pw_lp (fun _ _ _ _ _ _ => none) (mb_M_makeQuotient_29 r13)
def mb_M_makeQuotient_13 (rc : Nat → Int → Int → pw_Sto → Option (Unit × pw_Sto)) : Nat → Int → Int → pw_Sto → Option (Unit × pw_Sto) := fun x0 x1 x2 σ => pw_ck x2 (16 : Int) (if (16 : Int) ≤ x2 then some ((), σ) else (pw_gr 10 x0 7 σ).bind (fun v5 => (pw_ai v5 x2 σ).bind (fun v6 => ml_M_makeQuotient_29 rc 1000 x0 x1 x2 v6 (0 : Int) σ)))
def ml_M_makeQuotient_13 : Nat → Nat → Int → Int → pw_Sto → Option (Unit × pw_Sto) := pw_lp (fun _ _ _ _ => none) (mb_M_makeQuotient_13)
def mf_M_makeQuotient (x0 : Nat) (σ : pw_Sto) : Option (Unit × pw_Sto) := pw_gd 10 x0 σ ((pw_gr 10 x0 8 σ).bind (fun v1 => (pw_ai v1 (0 : Int) σ).bind (fun v2 => pw_bd (mf_M_inverse x0 v2 σ) (fun v4 s3 => ml_M_makeQuotient_13 1000 x0 v4 (0 : Int) s3))))
set_option maxHeartbeats 4000000 in
set_option maxRecDepth 20000 in
theorem sl_M_makeQuotient_29 {X : pw_X Unit} (hX : pw_Ok X prog_14_method_18_code "PadeWorkbenchModel" mr_M_makeQuotient 5) (hR : pw_RV X prog_14_method_18_code) {r13 : Nat → Int → Int → pw_Sto → Option (Unit × pw_Sto)} (h13 : ∀ (z0 : Nat) (z1 : Int) (z2 : Int) (σ : pw_Sto), pw_Sp X 0 0 13 [(0, Value.ref z0), (1, Value.int (iI z1)), (2, Value.int (iI z2))] [] σ (r13 z0 z1 z2 σ)) : ∀ (n : Nat) (x0 : Nat) (x1 : Int) (x2 : Int) (x3 : Int) (x4 : Int) (σ : pw_Sto), pw_Sp X 0 0 29 [(0, Value.ref x0), (1, Value.int (iI x1)), (2, Value.int (iI x2)), (3, Value.int (iI x3)), (4, Value.int (iI x4))] [] σ (ml_M_makeQuotient_29 r13 n x0 x1 x2 x3 x4 σ) := by
  intro n
  induction n with
  | zero => intros; exact pw_none
  | succ n ih =>
    intro x0 x1 x2 x3 x4 σ
    show pw_Sp X 0 0 29 _ _ σ (mb_M_makeQuotient_29 r13 (ml_M_makeQuotient_29 r13 n) x0 x1 x2 x3 x4 σ)
    unfold mb_M_makeQuotient_29
    refine sp_iload (pc := 29) (i := 4) hX 4 rfl md_M_makeQuotient_29 ?_
    refine sp_iload_n (pc := 31) (k := 2) (i := 2) hX rfl 2 rfl md_M_makeQuotient_31 ?_
    refine sp_icmp_ge (pc := 32) hX 65 (by decide) md_M_makeQuotient_32 (fun _ => ?_) (fun _ => ?_)
    · refine sp_aload_n (pc := 65) (k := 0) (i := 0) hX rfl 0 rfl md_M_makeQuotient_65 ?_
      refine sp_getR (pc := 66) (ci := 10) (k := 6) (idx := 22) hX mcl_10 (by decide) mq_805 rfl md_M_makeQuotient_66 (fun v7 => ?_)
      refine sp_iload_n (pc := 69) (k := 2) (i := 2) hX rfl 2 rfl md_M_makeQuotient_69 ?_
      refine sp_aload_n (pc := 70) (k := 0) (i := 0) hX rfl 0 rfl md_M_makeQuotient_70 ?_
      refine sp_iload_n (pc := 71) (k := 3) (i := 3) hX rfl 3 rfl md_M_makeQuotient_71 ?_
      refine sp_iload_n (pc := 72) (k := 1) (i := 1) hX rfl 1 rfl md_M_makeQuotient_72 ?_
      refine sp_imul (pc := 73) hX md_M_makeQuotient_73 ?_
      refine sp_callVI (pc := 74) (y := my_M_mod) (ccy := prog_14_method_5_code) (nLy := 3) (ret := (some .int)) (rmy := mr_M_mod) (n := 1) (idx := 91) (As := [.int (iI (x3 * x1))]) (st := [.int (iI x2), .ref v7]) (o := x0) (cells' := 0) (slots' := 0) hX (fun _ h => mc_M_mod h) mk_M_mod mv_M_mod mcl_10 (fun _ h => pw_gd_of h) mq_901 ⟨(Nat.le_of_ble_eq_true rfl), (Nat.le_of_ble_eq_true rfl)⟩ rfl rfl (Nat.le_of_ble_eq_true rfl) ⟨(Nat.le_of_ble_eq_true rfl), (Nat.le_of_ble_eq_true rfl)⟩ rfl rfl md_M_makeQuotient_74 (fun v9 s8 => ?_)
      refine sp_iastore (pc := 77) hX md_M_makeQuotient_77 (fun s10 => ?_)
      refine sp_iinc (pc := 78) (i := 2) (L' := [(2, Value.int (iI (x2 + 1))), (0, Value.ref x0), (1, Value.int (iI x1)), (3, Value.int (iI x3)), (4, Value.int (iI x4))]) hX 2 rfl (by decide) rfl md_M_makeQuotient_78 ?_
      refine sp_goto (pc := 81) hX 13 (by decide) md_M_makeQuotient_81 ?_
      refine sp_sub [1, 2, 0] (L' := [(0, Value.ref x0), (1, Value.int (iI x1)), (2, Value.int (iI (x2 + 1)))]) rfl ?_
      exact h13 x0 x1 (x2 + 1) s10
    · refine sp_aload_n (pc := 35) (k := 0) (i := 0) hX rfl 0 rfl md_M_makeQuotient_35 ?_
      refine sp_iload_n (pc := 36) (k := 3) (i := 3) hX rfl 3 rfl md_M_makeQuotient_36 ?_
      refine sp_aload_n (pc := 37) (k := 0) (i := 0) hX rfl 0 rfl md_M_makeQuotient_37 ?_
      refine sp_getR (pc := 38) (ci := 10) (k := 6) (idx := 22) hX mcl_10 (by decide) mq_805 rfl md_M_makeQuotient_38 (fun v11 => ?_)
      refine sp_iload (pc := 41) (i := 4) hX 4 rfl md_M_makeQuotient_41 ?_
      refine sp_iaload (pc := 43) hX md_M_makeQuotient_43 (fun v12 => ?_)
      refine sp_aload_n (pc := 44) (k := 0) (i := 0) hX rfl 0 rfl md_M_makeQuotient_44 ?_
      refine sp_getR (pc := 45) (ci := 10) (k := 8) (idx := 28) hX mcl_10 (by decide) mq_807 rfl md_M_makeQuotient_45 (fun v13 => ?_)
      refine sp_iload_n (pc := 48) (k := 2) (i := 2) hX rfl 2 rfl md_M_makeQuotient_48 ?_
      refine sp_iload (pc := 49) (i := 4) hX 4 rfl md_M_makeQuotient_49 ?_
      refine sp_isub (pc := 51) hX md_M_makeQuotient_51 ?_
      refine sp_iaload (pc := 52) hX md_M_makeQuotient_52 (fun v14 => ?_)
      refine sp_imul (pc := 53) hX md_M_makeQuotient_53 ?_
      refine sp_isub (pc := 54) hX md_M_makeQuotient_54 ?_
      refine sp_callVI (pc := 55) (y := my_M_mod) (ccy := prog_14_method_5_code) (nLy := 3) (ret := (some .int)) (rmy := mr_M_mod) (n := 1) (idx := 91) (As := [.int (iI (x3 - (v12 * v14)))]) (st := []) (o := x0) (cells' := 0) (slots' := 0) hX (fun _ h => mc_M_mod h) mk_M_mod mv_M_mod mcl_10 (fun _ h => pw_gd_of h) mq_901 ⟨(Nat.le_of_ble_eq_true rfl), (Nat.le_of_ble_eq_true rfl)⟩ rfl rfl (Nat.le_of_ble_eq_true rfl) ⟨(Nat.le_of_ble_eq_true rfl), (Nat.le_of_ble_eq_true rfl)⟩ rfl rfl md_M_makeQuotient_55 (fun v16 s15 => ?_)
      refine sp_istore_n (pc := 58) (k := 3) (i := 3) (L' := [(3, Value.int (iI v16)), (0, Value.ref x0), (1, Value.int (iI x1)), (2, Value.int (iI x2)), (4, Value.int (iI x4))]) hX rfl (by decide) rfl md_M_makeQuotient_58 ?_
      refine sp_iinc (pc := 59) (i := 4) (L' := [(4, Value.int (iI (x4 + 1))), (3, Value.int (iI v16)), (0, Value.ref x0), (1, Value.int (iI x1)), (2, Value.int (iI x2))]) hX 4 rfl (by decide) rfl md_M_makeQuotient_59 ?_
      refine sp_goto (pc := 62) hX 29 (by decide) md_M_makeQuotient_62 ?_
      refine sp_sub [2, 3, 4, 1, 0] (L' := [(0, Value.ref x0), (1, Value.int (iI x1)), (2, Value.int (iI x2)), (3, Value.int (iI v16)), (4, Value.int (iI (x4 + 1)))]) rfl ?_
      exact ih x0 x1 x2 v16 (x4 + 1) s15
set_option maxHeartbeats 4000000 in
set_option maxRecDepth 20000 in
theorem sl_M_makeQuotient_13 {X : pw_X Unit} (hX : pw_Ok X prog_14_method_18_code "PadeWorkbenchModel" mr_M_makeQuotient 5) (hR : pw_RV X prog_14_method_18_code) : ∀ (n : Nat) (x0 : Nat) (x1 : Int) (x2 : Int) (σ : pw_Sto), pw_Sp X 0 0 13 [(0, Value.ref x0), (1, Value.int (iI x1)), (2, Value.int (iI x2))] [] σ (ml_M_makeQuotient_13 n x0 x1 x2 σ) := by
  intro n
  induction n with
  | zero => intros; exact pw_none
  | succ n ih =>
    intro x0 x1 x2 σ
    show pw_Sp X 0 0 13 _ _ σ (mb_M_makeQuotient_13 (ml_M_makeQuotient_13 n) x0 x1 x2 σ)
    unfold mb_M_makeQuotient_13
    refine sp_iload_n (pc := 13) (k := 2) (i := 2) hX rfl 2 rfl md_M_makeQuotient_13 ?_
    refine sp_bipush (pc := 14) hX (by decide) md_M_makeQuotient_14 ?_
    refine sp_icmp_ge (pc := 16) hX 84 (by decide) md_M_makeQuotient_16 (fun _ => ?_) (fun _ => ?_)
    · exact sp_vret (pc := 84) hX hR rfl (Nat.le_of_ble_eq_true rfl) md_M_makeQuotient_84
    · refine sp_aload_n (pc := 19) (k := 0) (i := 0) hX rfl 0 rfl md_M_makeQuotient_19 ?_
      refine sp_getR (pc := 20) (ci := 10) (k := 7) (idx := 25) hX mcl_10 (by decide) mq_806 rfl md_M_makeQuotient_20 (fun v5 => ?_)
      refine sp_iload_n (pc := 23) (k := 2) (i := 2) hX rfl 2 rfl md_M_makeQuotient_23 ?_
      refine sp_iaload (pc := 24) hX md_M_makeQuotient_24 (fun v6 => ?_)
      refine sp_istore_n (pc := 25) (k := 3) (i := 3) (L' := [(3, Value.int (iI v6)), (0, Value.ref x0), (1, Value.int (iI x1)), (2, Value.int (iI x2))]) hX rfl (by decide) rfl md_M_makeQuotient_25 ?_
      refine sp_iconst (pc := 26) hX md_M_makeQuotient_26 ?_
      refine sp_istore (pc := 27) (i := 4) (L' := [(4, Value.int (iI (0 : Int))), (3, Value.int (iI v6)), (0, Value.ref x0), (1, Value.int (iI x1)), (2, Value.int (iI x2))]) hX (by decide) rfl md_M_makeQuotient_27 ?_
      refine sp_sub [2, 3, 4, 1, 0] (L' := [(0, Value.ref x0), (1, Value.int (iI x1)), (2, Value.int (iI x2)), (3, Value.int (iI v6)), (4, Value.int (iI (0 : Int)))]) rfl ?_
      exact sl_M_makeQuotient_29 hX hR ih 1000 x0 x1 x2 v6 (0 : Int) σ
set_option maxHeartbeats 4000000 in
set_option maxRecDepth 20000 in
theorem mc_M_makeQuotient {l : Launch} {E : pw_E} {σ : pw_Sto} {x0 : Nat} {out : Unit × pw_Sto} (h : mf_M_makeQuotient x0 σ = some out) : pw_CV l E my_M_makeQuotient prog_14_method_18_code 5 none mr_M_makeQuotient [.ref x0] σ out := by
  unfold mf_M_makeQuotient at h
  refine pw_entryV (by decide) (Nat.le_of_ble_eq_true rfl) (pw_gd_val h) (fun X hX hR hI => ?_)
  change pw_Ok X prog_14_method_18_code "PadeWorkbenchModel" mr_M_makeQuotient 5 at hX
  show pw_Sp X 0 0 0 [(0, Value.ref x0)] [] σ _
  refine sp_aload_n (pc := 0) (k := 0) (i := 0) hX rfl 0 rfl md_M_makeQuotient_0 ?_
  refine sp_aload_n (pc := 1) (k := 0) (i := 0) hX rfl 0 rfl md_M_makeQuotient_1 ?_
  refine sp_getR (pc := 2) (ci := 10) (k := 8) (idx := 28) hX mcl_10 (by decide) mq_807 rfl md_M_makeQuotient_2 (fun v1 => ?_)
  refine sp_iconst (pc := 5) hX md_M_makeQuotient_5 ?_
  refine sp_iaload (pc := 6) hX md_M_makeQuotient_6 (fun v2 => ?_)
  refine sp_callVI (pc := 7) (y := my_M_inverse) (ccy := prog_14_method_6_code) (nLy := 4) (ret := (some .int)) (rmy := mr_M_inverse) (n := 1) (idx := 94) (As := [.int (iI v2)]) (st := []) (o := x0) (cells' := 0) (slots' := 0) hX (fun _ h => mc_M_inverse h) mk_M_inverse mv_M_inverse mcl_10 (fun _ h => pw_gd_of h) mq_932 ⟨(Nat.le_of_ble_eq_true rfl), (Nat.le_of_ble_eq_true rfl)⟩ rfl rfl (Nat.le_of_ble_eq_true rfl) ⟨(Nat.le_of_ble_eq_true rfl), (Nat.le_of_ble_eq_true rfl)⟩ rfl rfl md_M_makeQuotient_7 (fun v4 s3 => ?_)
  refine sp_istore_n (pc := 10) (k := 1) (i := 1) (L' := [(1, Value.int (iI v4)), (0, Value.ref x0)]) hX rfl (by decide) rfl md_M_makeQuotient_10 ?_
  refine sp_iconst (pc := 11) hX md_M_makeQuotient_11 ?_
  refine sp_istore_n (pc := 12) (k := 2) (i := 2) (L' := [(2, Value.int (iI (0 : Int))), (1, Value.int (iI v4)), (0, Value.ref x0)]) hX rfl (by decide) rfl md_M_makeQuotient_12 ?_
  refine sp_sub [2, 1, 0] (L' := [(0, Value.ref x0), (1, Value.int (iI v4)), (2, Value.int (iI (0 : Int)))]) rfl ?_
  exact sl_M_makeQuotient_13 hX hR 1000 x0 v4 (0 : Int) s3
/-! PadeWorkbenchModel.add(III)I -/
theorem md_M_add_0 : decode prog_14_method_19_code 0 = .ok (.iload_n 1, 1) := by decide +kernel
theorem md_M_add_1 : decode prog_14_method_19_code 1 = .ok (.invokestatic 84, 3) := by decide +kernel
theorem md_M_add_4 : decode prog_14_method_19_code 4 = .ok (.ifCond .eq 17, 3) := by decide +kernel
theorem md_M_add_21 : decode prog_14_method_19_code 21 = .ok (.aload_n 0, 1) := by decide +kernel
theorem md_M_add_22 : decode prog_14_method_19_code 22 = .ok (.bipush (-2), 2) := by decide +kernel
theorem md_M_add_24 : decode prog_14_method_19_code 24 = .ok (.invokevirtual 77, 3) := by decide +kernel
theorem md_M_add_27 : decode prog_14_method_19_code 27 = .ok (.ireturn, 1) := by decide +kernel
theorem md_M_add_7 : decode prog_14_method_19_code 7 = .ok (.iload_n 2, 1) := by decide +kernel
theorem md_M_add_8 : decode prog_14_method_19_code 8 = .ok (.invokestatic 84, 3) := by decide +kernel
theorem md_M_add_11 : decode prog_14_method_19_code 11 = .ok (.ifCond .eq 10, 3) := by decide +kernel
theorem md_M_add_14 : decode prog_14_method_19_code 14 = .ok (.iload_n 3, 1) := by decide +kernel
theorem md_M_add_15 : decode prog_14_method_19_code 15 = .ok (.invokestatic 84, 3) := by decide +kernel
theorem md_M_add_18 : decode prog_14_method_19_code 18 = .ok (.ifCond .ne 10, 3) := by decide +kernel
theorem md_M_add_28 : decode prog_14_method_19_code 28 = .ok (.iconst 0, 1) := by decide +kernel
theorem md_M_add_29 : decode prog_14_method_19_code 29 = .ok (.istore 4, 2) := by decide +kernel
theorem md_M_add_31 : decode prog_14_method_19_code 31 = .ok (.iload 4, 2) := by decide +kernel
theorem md_M_add_33 : decode prog_14_method_19_code 33 = .ok (.bipush 16, 2) := by decide +kernel
theorem md_M_add_35 : decode prog_14_method_19_code 35 = .ok (.if_icmp .ge 35, 3) := by decide +kernel
theorem md_M_add_70 : decode prog_14_method_19_code 70 = .ok (.aload_n 0, 1) := by decide +kernel
theorem md_M_add_71 : decode prog_14_method_19_code 71 = .ok (.iload_n 3, 1) := by decide +kernel
theorem md_M_add_72 : decode prog_14_method_19_code 72 = .ok (.invokevirtual 97, 3) := by decide +kernel
theorem md_M_add_75 : decode prog_14_method_19_code 75 = .ok (.ireturn, 1) := by decide +kernel
theorem md_M_add_38 : decode prog_14_method_19_code 38 = .ok (.aload_n 0, 1) := by decide +kernel
theorem md_M_add_39 : decode prog_14_method_19_code 39 = .ok (.getfield 22, 3) := by decide +kernel
theorem md_M_add_42 : decode prog_14_method_19_code 42 = .ok (.iload 4, 2) := by decide +kernel
theorem md_M_add_44 : decode prog_14_method_19_code 44 = .ok (.aload_n 0, 1) := by decide +kernel
theorem md_M_add_45 : decode prog_14_method_19_code 45 = .ok (.aload_n 0, 1) := by decide +kernel
theorem md_M_add_46 : decode prog_14_method_19_code 46 = .ok (.iload_n 1, 1) := by decide +kernel
theorem md_M_add_47 : decode prog_14_method_19_code 47 = .ok (.iload 4, 2) := by decide +kernel
theorem md_M_add_49 : decode prog_14_method_19_code 49 = .ok (.invokevirtual 87, 3) := by decide +kernel
theorem md_M_add_52 : decode prog_14_method_19_code 52 = .ok (.aload_n 0, 1) := by decide +kernel
theorem md_M_add_53 : decode prog_14_method_19_code 53 = .ok (.iload_n 2, 1) := by decide +kernel
theorem md_M_add_54 : decode prog_14_method_19_code 54 = .ok (.iload 4, 2) := by decide +kernel
theorem md_M_add_56 : decode prog_14_method_19_code 56 = .ok (.invokevirtual 87, 3) := by decide +kernel
theorem md_M_add_59 : decode prog_14_method_19_code 59 = .ok (.iadd, 1) := by decide +kernel
theorem md_M_add_60 : decode prog_14_method_19_code 60 = .ok (.invokevirtual 91, 3) := by decide +kernel
theorem md_M_add_63 : decode prog_14_method_19_code 63 = .ok (.iastore, 1) := by decide +kernel
theorem md_M_add_64 : decode prog_14_method_19_code 64 = .ok (.iinc 4 1, 3) := by decide +kernel
theorem md_M_add_67 : decode prog_14_method_19_code 67 = .ok (.goto (-36), 3) := by decide +kernel
def mj_M_add_21 (x0 : Nat) (σ : pw_Sto) : Option (Int × pw_Sto) := pw_bd (mf_M_fail x0 (-2 : Int) σ) (fun v4 s3 => some (v4, s3))
def mb_M_add_31 (rc : Nat → Int → Int → Int → Int → pw_Sto → Option (Int × pw_Sto)) : Nat → Int → Int → Int → Int → pw_Sto → Option (Int × pw_Sto) := fun x0 x1 x2 x3 x4 σ => pw_ck x4 (16 : Int) (if (16 : Int) ≤ x4 then pw_bd (mf_M_store x0 x3 σ) (fun v10 s9 => some (v10, s9)) else (pw_gr 10 x0 6 σ).bind (fun v11 => pw_bd (mf_M_term x0 x1 x4 σ) (fun v13 s12 => pw_bd (mf_M_term x0 x2 x4 s12) (fun v15 s14 => pw_bd (mf_M_mod x0 (v13 + v15) s14) (fun v17 s16 => (pw_si v11 x4 v17 s16).bind (fun s18 => rc x0 x1 x2 x3 (x4 + 1) s18))))))
def ml_M_add_31 : Nat → Nat → Int → Int → Int → Int → pw_Sto → Option (Int × pw_Sto) := pw_lp (fun _ _ _ _ _ _ => none) (mb_M_add_31)
def mf_M_add (x0 : Nat) (x1 : Int) (x2 : Int) (x3 : Int) (σ : pw_Sto) : Option (Int × pw_Sto) := pw_gd 10 x0 σ (pw_bd (mf_M_isSlot x1 σ) (fun v2 s1 => pw_ck v2 0 (if v2 = 0 then mj_M_add_21 x0 s1 else pw_bd (mf_M_isSlot x2 s1) (fun v6 s5 => pw_ck v6 0 (if v6 = 0 then mj_M_add_21 x0 s5 else pw_bd (mf_M_isSlot x3 s5) (fun v8 s7 => pw_ck v8 0 (if v8 = 0 then mj_M_add_21 x0 s7 else ml_M_add_31 1000 x0 x1 x2 x3 (0 : Int) s7)))))))
set_option maxHeartbeats 4000000 in
set_option maxRecDepth 20000 in
theorem sj_M_add_21 {X : pw_X Int} (hX : pw_Ok X prog_14_method_19_code "PadeWorkbenchModel" mr_M_add 5) (hR : pw_RI X prog_14_method_19_code) (x0 : Nat) (σ : pw_Sto) : pw_Sp X 0 0 21 [(0, Value.ref x0)] [] σ (mj_M_add_21 x0 σ) := by
  unfold mj_M_add_21
  refine sp_aload_n (pc := 21) (k := 0) (i := 0) hX rfl 0 rfl md_M_add_21 ?_
  refine sp_bipush (pc := 22) hX (by decide) md_M_add_22 ?_
  refine sp_callVI (pc := 24) (y := my_M_fail) (ccy := prog_14_method_3_code) (nLy := 2) (ret := (some .int)) (rmy := mr_M_fail) (n := 1) (idx := 77) (As := [.int (iI (-2 : Int))]) (st := []) (o := x0) (cells' := 0) (slots' := 0) hX (fun _ h => mc_M_fail h) mk_M_fail mv_M_fail mcl_10 (fun _ h => pw_gd_of h) mq_870 ⟨(Nat.le_of_ble_eq_true rfl), (Nat.le_of_ble_eq_true rfl)⟩ rfl rfl (Nat.le_of_ble_eq_true rfl) ⟨(Nat.le_of_ble_eq_true rfl), (Nat.le_of_ble_eq_true rfl)⟩ rfl rfl md_M_add_24 (fun v4 s3 => ?_)
  exact sp_iret (pc := 27) hX hR rfl (Nat.le_of_ble_eq_true rfl) md_M_add_27
set_option maxHeartbeats 4000000 in
set_option maxRecDepth 20000 in
theorem sl_M_add_31 {X : pw_X Int} (hX : pw_Ok X prog_14_method_19_code "PadeWorkbenchModel" mr_M_add 5) (hR : pw_RI X prog_14_method_19_code) : ∀ (n : Nat) (x0 : Nat) (x1 : Int) (x2 : Int) (x3 : Int) (x4 : Int) (σ : pw_Sto), pw_Sp X 0 0 31 [(0, Value.ref x0), (1, Value.int (iI x1)), (2, Value.int (iI x2)), (3, Value.int (iI x3)), (4, Value.int (iI x4))] [] σ (ml_M_add_31 n x0 x1 x2 x3 x4 σ) := by
  intro n
  induction n with
  | zero => intros; exact pw_none
  | succ n ih =>
    intro x0 x1 x2 x3 x4 σ
    show pw_Sp X 0 0 31 _ _ σ (mb_M_add_31 (ml_M_add_31 n) x0 x1 x2 x3 x4 σ)
    unfold mb_M_add_31
    refine sp_iload (pc := 31) (i := 4) hX 4 rfl md_M_add_31 ?_
    refine sp_bipush (pc := 33) hX (by decide) md_M_add_33 ?_
    refine sp_icmp_ge (pc := 35) hX 70 (by decide) md_M_add_35 (fun _ => ?_) (fun _ => ?_)
    · refine sp_aload_n (pc := 70) (k := 0) (i := 0) hX rfl 0 rfl md_M_add_70 ?_
      refine sp_iload_n (pc := 71) (k := 3) (i := 3) hX rfl 3 rfl md_M_add_71 ?_
      refine sp_callVI (pc := 72) (y := my_M_store) (ccy := prog_14_method_16_code) (nLy := 4) (ret := (some .int)) (rmy := mr_M_store) (n := 1) (idx := 97) (As := [.int (iI x3)]) (st := []) (o := x0) (cells' := 0) (slots' := 0) hX (fun _ h => mc_M_store h) mk_M_store mv_M_store mcl_10 (fun _ h => pw_gd_of h) mq_905 ⟨(Nat.le_of_ble_eq_true rfl), (Nat.le_of_ble_eq_true rfl)⟩ rfl rfl (Nat.le_of_ble_eq_true rfl) ⟨(Nat.le_of_ble_eq_true rfl), (Nat.le_of_ble_eq_true rfl)⟩ rfl rfl md_M_add_72 (fun v10 s9 => ?_)
      exact sp_iret (pc := 75) hX hR rfl (Nat.le_of_ble_eq_true rfl) md_M_add_75
    · refine sp_aload_n (pc := 38) (k := 0) (i := 0) hX rfl 0 rfl md_M_add_38 ?_
      refine sp_getR (pc := 39) (ci := 10) (k := 6) (idx := 22) hX mcl_10 (by decide) mq_805 rfl md_M_add_39 (fun v11 => ?_)
      refine sp_iload (pc := 42) (i := 4) hX 4 rfl md_M_add_42 ?_
      refine sp_aload_n (pc := 44) (k := 0) (i := 0) hX rfl 0 rfl md_M_add_44 ?_
      refine sp_aload_n (pc := 45) (k := 0) (i := 0) hX rfl 0 rfl md_M_add_45 ?_
      refine sp_iload_n (pc := 46) (k := 1) (i := 1) hX rfl 1 rfl md_M_add_46 ?_
      refine sp_iload (pc := 47) (i := 4) hX 4 rfl md_M_add_47 ?_
      refine sp_callVI (pc := 49) (y := my_M_term) (ccy := prog_14_method_9_code) (nLy := 3) (ret := (some .int)) (rmy := mr_M_term) (n := 2) (idx := 87) (As := [.int (iI x1), .int (iI x4)]) (st := [.ref x0, .int (iI x4), .ref v11]) (o := x0) (cells' := 0) (slots' := 0) hX (fun _ h => mc_M_term h) mk_M_term mv_M_term mcl_10 (fun _ h => pw_gd_of h) mq_889 ⟨(Nat.le_of_ble_eq_true rfl), (Nat.le_of_ble_eq_true rfl)⟩ rfl rfl (Nat.le_of_ble_eq_true rfl) ⟨(Nat.le_of_ble_eq_true rfl), (Nat.le_of_ble_eq_true rfl)⟩ rfl rfl md_M_add_49 (fun v13 s12 => ?_)
      refine sp_aload_n (pc := 52) (k := 0) (i := 0) hX rfl 0 rfl md_M_add_52 ?_
      refine sp_iload_n (pc := 53) (k := 2) (i := 2) hX rfl 2 rfl md_M_add_53 ?_
      refine sp_iload (pc := 54) (i := 4) hX 4 rfl md_M_add_54 ?_
      refine sp_callVI (pc := 56) (y := my_M_term) (ccy := prog_14_method_9_code) (nLy := 3) (ret := (some .int)) (rmy := mr_M_term) (n := 2) (idx := 87) (As := [.int (iI x2), .int (iI x4)]) (st := [.int (iI v13), .ref x0, .int (iI x4), .ref v11]) (o := x0) (cells' := 0) (slots' := 0) hX (fun _ h => mc_M_term h) mk_M_term mv_M_term mcl_10 (fun _ h => pw_gd_of h) mq_889 ⟨(Nat.le_of_ble_eq_true rfl), (Nat.le_of_ble_eq_true rfl)⟩ rfl rfl (Nat.le_of_ble_eq_true rfl) ⟨(Nat.le_of_ble_eq_true rfl), (Nat.le_of_ble_eq_true rfl)⟩ rfl rfl md_M_add_56 (fun v15 s14 => ?_)
      refine sp_iadd (pc := 59) hX md_M_add_59 ?_
      refine sp_callVI (pc := 60) (y := my_M_mod) (ccy := prog_14_method_5_code) (nLy := 3) (ret := (some .int)) (rmy := mr_M_mod) (n := 1) (idx := 91) (As := [.int (iI (v13 + v15))]) (st := [.int (iI x4), .ref v11]) (o := x0) (cells' := 0) (slots' := 0) hX (fun _ h => mc_M_mod h) mk_M_mod mv_M_mod mcl_10 (fun _ h => pw_gd_of h) mq_901 ⟨(Nat.le_of_ble_eq_true rfl), (Nat.le_of_ble_eq_true rfl)⟩ rfl rfl (Nat.le_of_ble_eq_true rfl) ⟨(Nat.le_of_ble_eq_true rfl), (Nat.le_of_ble_eq_true rfl)⟩ rfl rfl md_M_add_60 (fun v17 s16 => ?_)
      refine sp_iastore (pc := 63) hX md_M_add_63 (fun s18 => ?_)
      refine sp_iinc (pc := 64) (i := 4) (L' := [(4, Value.int (iI (x4 + 1))), (0, Value.ref x0), (1, Value.int (iI x1)), (2, Value.int (iI x2)), (3, Value.int (iI x3))]) hX 4 rfl (by decide) rfl md_M_add_64 ?_
      refine sp_goto (pc := 67) hX 31 (by decide) md_M_add_67 ?_
      refine sp_sub [1, 2, 3, 4, 0] (L' := [(0, Value.ref x0), (1, Value.int (iI x1)), (2, Value.int (iI x2)), (3, Value.int (iI x3)), (4, Value.int (iI (x4 + 1)))]) rfl ?_
      exact ih x0 x1 x2 x3 (x4 + 1) s18
set_option maxHeartbeats 4000000 in
set_option maxRecDepth 20000 in
theorem mc_M_add {l : Launch} {E : pw_E} {σ : pw_Sto} {x0 : Nat} {x1 : Int} {x2 : Int} {x3 : Int} {out : Int × pw_Sto} (h : mf_M_add x0 x1 x2 x3 σ = some out) : pw_CI l E my_M_add prog_14_method_19_code 5 (some .int) mr_M_add [.ref x0, .int (iI x1), .int (iI x2), .int (iI x3)] σ out := by
  unfold mf_M_add at h
  refine pw_entryI (by decide) (Nat.le_of_ble_eq_true rfl) (pw_gd_val h) (fun X hX hR hI => ?_)
  change pw_Ok X prog_14_method_19_code "PadeWorkbenchModel" mr_M_add 5 at hX
  show pw_Sp X 0 0 0 [(0, Value.ref x0), (1, Value.int (iI x1)), (2, Value.int (iI x2)), (3, Value.int (iI x3))] [] σ _
  refine sp_iload_n (pc := 0) (k := 1) (i := 1) hX rfl 1 rfl md_M_add_0 ?_
  refine sp_callSI (pc := 1) (y := my_M_isSlot) (ccy := prog_14_method_8_code) (nLy := 1) (ret := (some .boolean)) (rmy := mr_M_isSlot) (n := 1) (idx := 84) (As := [.int (iI x1)]) (st := []) (cells' := 0) (slots' := 0) hX (fun _ h => mc_M_isSlot h) mk_M_isSlot mq_887 mq_886 ⟨(Nat.le_of_ble_eq_true rfl), (Nat.le_of_ble_eq_true rfl)⟩ rfl rfl (Nat.le_of_ble_eq_true rfl) ⟨(Nat.le_of_ble_eq_true rfl), (Nat.le_of_ble_eq_true rfl)⟩ rfl rfl md_M_add_1 (fun v2 s1 => ?_)
  refine sp_if_eq (pc := 4) hX 21 (by decide) md_M_add_4 (fun _ => ?_) (fun _ => ?_)
  · refine sp_sub [0] (L' := [(0, Value.ref x0)]) rfl ?_
    exact sj_M_add_21 hX hR x0 s1
  · refine sp_iload_n (pc := 7) (k := 2) (i := 2) hX rfl 2 rfl md_M_add_7 ?_
    refine sp_callSI (pc := 8) (y := my_M_isSlot) (ccy := prog_14_method_8_code) (nLy := 1) (ret := (some .boolean)) (rmy := mr_M_isSlot) (n := 1) (idx := 84) (As := [.int (iI x2)]) (st := []) (cells' := 0) (slots' := 0) hX (fun _ h => mc_M_isSlot h) mk_M_isSlot mq_887 mq_886 ⟨(Nat.le_of_ble_eq_true rfl), (Nat.le_of_ble_eq_true rfl)⟩ rfl rfl (Nat.le_of_ble_eq_true rfl) ⟨(Nat.le_of_ble_eq_true rfl), (Nat.le_of_ble_eq_true rfl)⟩ rfl rfl md_M_add_8 (fun v6 s5 => ?_)
    refine sp_if_eq (pc := 11) hX 21 (by decide) md_M_add_11 (fun _ => ?_) (fun _ => ?_)
    · refine sp_sub [0] (L' := [(0, Value.ref x0)]) rfl ?_
      exact sj_M_add_21 hX hR x0 s5
    · refine sp_iload_n (pc := 14) (k := 3) (i := 3) hX rfl 3 rfl md_M_add_14 ?_
      refine sp_callSI (pc := 15) (y := my_M_isSlot) (ccy := prog_14_method_8_code) (nLy := 1) (ret := (some .boolean)) (rmy := mr_M_isSlot) (n := 1) (idx := 84) (As := [.int (iI x3)]) (st := []) (cells' := 0) (slots' := 0) hX (fun _ h => mc_M_isSlot h) mk_M_isSlot mq_887 mq_886 ⟨(Nat.le_of_ble_eq_true rfl), (Nat.le_of_ble_eq_true rfl)⟩ rfl rfl (Nat.le_of_ble_eq_true rfl) ⟨(Nat.le_of_ble_eq_true rfl), (Nat.le_of_ble_eq_true rfl)⟩ rfl rfl md_M_add_15 (fun v8 s7 => ?_)
      refine sp_if_ne (pc := 18) hX 28 (by decide) md_M_add_18 (fun _ => ?_) (fun _ => ?_)
      · refine sp_sub [0] (L' := [(0, Value.ref x0)]) rfl ?_
        exact sj_M_add_21 hX hR x0 s7
      · refine sp_iconst (pc := 28) hX md_M_add_28 ?_
        refine sp_istore (pc := 29) (i := 4) (L' := [(4, Value.int (iI (0 : Int))), (0, Value.ref x0), (1, Value.int (iI x1)), (2, Value.int (iI x2)), (3, Value.int (iI x3))]) hX (by decide) rfl md_M_add_29 ?_
        refine sp_sub [1, 2, 3, 4, 0] (L' := [(0, Value.ref x0), (1, Value.int (iI x1)), (2, Value.int (iI x2)), (3, Value.int (iI x3)), (4, Value.int (iI (0 : Int)))]) rfl ?_
        exact sl_M_add_31 hX hR 1000 x0 x1 x2 x3 (0 : Int) s7
