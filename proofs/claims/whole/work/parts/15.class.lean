/-! PadeWorkbench.<init>()V -/
theorem md_W_init_0 : decode prog_1_method_1_code 0 = .ok (.aload_n 0, 1) := by decide +kernel
theorem md_W_init_1 : decode prog_1_method_1_code 1 = .ok (.invokespecial 1, 3) := by decide +kernel
theorem md_W_init_4 : decode prog_1_method_1_code 4 = .ok (.aload_n 0, 1) := by decide +kernel
theorem md_W_init_5 : decode prog_1_method_1_code 5 = .ok (.new 7, 3) := by decide +kernel
theorem md_W_init_8 : decode prog_1_method_1_code 8 = .ok (.dup, 1) := by decide +kernel
theorem md_W_init_9 : decode prog_1_method_1_code 9 = .ok (.invokespecial 9, 3) := by decide +kernel
theorem md_W_init_12 : decode prog_1_method_1_code 12 = .ok (.putfield 10, 3) := by decide +kernel
theorem md_W_init_15 : decode prog_1_method_1_code 15 = .ok (.aload_n 0, 1) := by decide +kernel
theorem md_W_init_16 : decode prog_1_method_1_code 16 = .ok (.new 16, 3) := by decide +kernel
theorem md_W_init_19 : decode prog_1_method_1_code 19 = .ok (.dup, 1) := by decide +kernel
theorem md_W_init_20 : decode prog_1_method_1_code 20 = .ok (.invokespecial 18, 3) := by decide +kernel
theorem md_W_init_23 : decode prog_1_method_1_code 23 = .ok (.putfield 19, 3) := by decide +kernel
theorem md_W_init_26 : decode prog_1_method_1_code 26 = .ok (.aload_n 0, 1) := by decide +kernel
theorem md_W_init_27 : decode prog_1_method_1_code 27 = .ok (.new 23, 3) := by decide +kernel
theorem md_W_init_30 : decode prog_1_method_1_code 30 = .ok (.dup, 1) := by decide +kernel
theorem md_W_init_31 : decode prog_1_method_1_code 31 = .ok (.invokespecial 25, 3) := by decide +kernel
theorem md_W_init_34 : decode prog_1_method_1_code 34 = .ok (.putfield 26, 3) := by decide +kernel
theorem md_W_init_37 : decode prog_1_method_1_code 37 = .ok (.aload_n 0, 1) := by decide +kernel
theorem md_W_init_38 : decode prog_1_method_1_code 38 = .ok (.new 30, 3) := by decide +kernel
theorem md_W_init_41 : decode prog_1_method_1_code 41 = .ok (.dup, 1) := by decide +kernel
theorem md_W_init_42 : decode prog_1_method_1_code 42 = .ok (.invokespecial 32, 3) := by decide +kernel
theorem md_W_init_45 : decode prog_1_method_1_code 45 = .ok (.putfield 33, 3) := by decide +kernel
theorem md_W_init_48 : decode prog_1_method_1_code 48 = .ok (.aload_n 0, 1) := by decide +kernel
theorem md_W_init_49 : decode prog_1_method_1_code 49 = .ok (.new 37, 3) := by decide +kernel
theorem md_W_init_52 : decode prog_1_method_1_code 52 = .ok (.dup, 1) := by decide +kernel
theorem md_W_init_53 : decode prog_1_method_1_code 53 = .ok (.invokespecial 39, 3) := by decide +kernel
theorem md_W_init_56 : decode prog_1_method_1_code 56 = .ok (.putfield 40, 3) := by decide +kernel
theorem md_W_init_59 : decode prog_1_method_1_code 59 = .ok (.aload_n 0, 1) := by decide +kernel
theorem md_W_init_60 : decode prog_1_method_1_code 60 = .ok (.new 44, 3) := by decide +kernel
theorem md_W_init_63 : decode prog_1_method_1_code 63 = .ok (.dup, 1) := by decide +kernel
theorem md_W_init_64 : decode prog_1_method_1_code 64 = .ok (.invokespecial 46, 3) := by decide +kernel
theorem md_W_init_67 : decode prog_1_method_1_code 67 = .ok (.putfield 47, 3) := by decide +kernel
theorem md_W_init_70 : decode prog_1_method_1_code 70 = .ok (.aload_n 0, 1) := by decide +kernel
theorem md_W_init_71 : decode prog_1_method_1_code 71 = .ok (.new 51, 3) := by decide +kernel
theorem md_W_init_74 : decode prog_1_method_1_code 74 = .ok (.dup, 1) := by decide +kernel
theorem md_W_init_75 : decode prog_1_method_1_code 75 = .ok (.invokespecial 53, 3) := by decide +kernel
theorem md_W_init_78 : decode prog_1_method_1_code 78 = .ok (.putfield 54, 3) := by decide +kernel
theorem md_W_init_81 : decode prog_1_method_1_code 81 = .ok (.aload_n 0, 1) := by decide +kernel
theorem md_W_init_82 : decode prog_1_method_1_code 82 = .ok (.new 58, 3) := by decide +kernel
theorem md_W_init_85 : decode prog_1_method_1_code 85 = .ok (.dup, 1) := by decide +kernel
theorem md_W_init_86 : decode prog_1_method_1_code 86 = .ok (.invokespecial 60, 3) := by decide +kernel
theorem md_W_init_89 : decode prog_1_method_1_code 89 = .ok (.putfield 61, 3) := by decide +kernel
theorem md_W_init_92 : decode prog_1_method_1_code 92 = .ok (.aload_n 0, 1) := by decide +kernel
theorem md_W_init_93 : decode prog_1_method_1_code 93 = .ok (.bipush 16, 2) := by decide +kernel
theorem md_W_init_95 : decode prog_1_method_1_code 95 = .ok (.newarray .int, 2) := by decide +kernel
theorem md_W_init_97 : decode prog_1_method_1_code 97 = .ok (.putfield 65, 3) := by decide +kernel
theorem md_W_init_100 : decode prog_1_method_1_code 100 = .ok (.aload_n 0, 1) := by decide +kernel
theorem md_W_init_101 : decode prog_1_method_1_code 101 = .ok (.bipush 16, 2) := by decide +kernel
theorem md_W_init_103 : decode prog_1_method_1_code 103 = .ok (.newarray .int, 2) := by decide +kernel
theorem md_W_init_105 : decode prog_1_method_1_code 105 = .ok (.putfield 69, 3) := by decide +kernel
theorem md_W_init_108 : decode prog_1_method_1_code 108 = .ok (.aload_n 0, 1) := by decide +kernel
theorem md_W_init_109 : decode prog_1_method_1_code 109 = .ok (.iconst 3, 1) := by decide +kernel
theorem md_W_init_110 : decode prog_1_method_1_code 110 = .ok (.newarray .int, 2) := by decide +kernel
theorem md_W_init_112 : decode prog_1_method_1_code 112 = .ok (.putfield 72, 3) := by decide +kernel
theorem md_W_init_115 : decode prog_1_method_1_code 115 = .ok (.return_, 1) := by decide +kernel
def mf_W_init (x0 : Nat) (σ : pw_Sto) : Option (Unit × pw_Sto) := pw_bd (pw_nw 7 σ) (fun v1 s2 => pw_bd (mf_Z_init v1 s2) (fun _ s3 => (pw_pr 9 x0 0 v1 s3).bind (fun s4 => pw_bd (pw_nw 3 s4) (fun v5 s6 => pw_bd (mf_H_init v5 s6) (fun _ s7 => (pw_pr 9 x0 1 v5 s7).bind (fun s8 => pw_bd (pw_nw 2 s8) (fun v9 s10 => pw_bd (mf_T_init v9 s10) (fun _ s11 => (pw_pr 9 x0 2 v9 s11).bind (fun s12 => pw_bd (pw_nw 0 s12) (fun v13 s14 => pw_bd (mf_E_init v13 s14) (fun _ s15 => (pw_pr 9 x0 3 v13 s15).bind (fun s16 => pw_bd (pw_nw 1 s16) (fun v17 s18 => pw_bd (mf_R_init v17 s18) (fun _ s19 => (pw_pr 9 x0 4 v17 s19).bind (fun s20 => pw_bd (pw_nw 8 s20) (fun v21 s22 => pw_bd (mf_D_init v21 s22) (fun _ s23 => (pw_pr 9 x0 5 v21 s23).bind (fun s24 => pw_bd (pw_nw 6 s24) (fun v25 s26 => pw_bd (mf_Q_init v25 s26) (fun _ s27 => (pw_pr 9 x0 6 v25 s27).bind (fun s28 => pw_bd (pw_nw 5 s28) (fun v29 s30 => pw_bd (mf_B_init v29 s30) (fun _ s31 => (pw_pr 9 x0 7 v29 s31).bind (fun s32 => pw_bd (pw_na 16 s32) (fun v33 s34 => (pw_pr 9 x0 8 v33 s34).bind (fun s35 => pw_bd (pw_na 16 s35) (fun v36 s37 => (pw_pr 9 x0 9 v36 s37).bind (fun s38 => pw_bd (pw_na 3 s38) (fun v39 s40 => (pw_pr 9 x0 10 v39 s40).bind (fun s41 => some ((), s41)))))))))))))))))))))))))))))))
set_option maxHeartbeats 4000000 in
set_option maxRecDepth 20000 in
theorem mc_W_init {l : Launch} {E : pw_E} {σ : pw_Sto} {x0 : Nat} {out : Unit × pw_Sto} (h : mf_W_init x0 σ = some out) : pw_CV l E my_W_init prog_1_method_1_code 1 none mr_W_init [.ref x0] σ out := by
  unfold mf_W_init at h
  refine pw_entryV (by decide) (Nat.le_of_ble_eq_true rfl) h (fun X hX hR hI => ?_)
  change pw_Ok X prog_1_method_1_code "PadeWorkbench" mr_W_init 1 at hX
  show pw_Sp X 0 0 0 [(0, Value.ref x0)] [] σ _
  refine sp_aload_n (pc := 0) (k := 0) (i := 0) hX rfl 0 rfl md_W_init_0 ?_
  refine sp_objInit (pc := 1) (idx := 1) hX mq_89 mq_90 mq_91 (Nat.le_of_ble_eq_true rfl) (Nat.le_of_ble_eq_true rfl) md_W_init_1 ?_
  refine sp_aload_n (pc := 4) (k := 0) (i := 0) hX rfl 0 rfl md_W_init_4 ?_
  refine sp_new (pc := 5) (ci := 7) (idx := 7) (slots' := 5) hX mcl_7 mdf_7 mq_92 mq_93 mq_70 (Nat.le_of_ble_eq_true rfl) (Nat.le_of_ble_eq_true rfl) rfl md_W_init_5 (fun v1 s2 => ?_)
  refine sp_dup (pc := 8) hX rfl md_W_init_8 ?_
  refine sp_callIVN (pc := 9) (y := my_Z_init) (ccy := prog_11_method_1_code) (nLy := 1) (rmy := mr_Z_init) (n := 0) (idx := 9) (As := []) (st := [.ref v1, .ref x0]) (o := v1) (cells' := 8) (slots' := 93) hX (fun _ h => mc_Z_init h) mk_Z_init mq_95 rfl mn_94 ⟨(Nat.le_of_ble_eq_true rfl), (Nat.le_of_ble_eq_true rfl)⟩ rfl rfl (Nat.le_of_ble_eq_true rfl) ⟨(Nat.le_of_ble_eq_true rfl), (Nat.le_of_ble_eq_true rfl)⟩ rfl rfl md_W_init_9 (fun s3 => ?_)
  refine sp_putRF (pc := 12) (ci := 9) (k := 0) (idx := 10) hX mcl_9 (by decide) mq_284 rfl rfl hI rfl mty_9_0 md_W_init_12 (fun s4 => ?_)
  refine sp_aload_n (pc := 15) (k := 0) (i := 0) hX rfl 0 rfl md_W_init_15 ?_
  refine sp_new (pc := 16) (ci := 3) (idx := 16) (slots' := 96) hX mcl_3 mdf_3 mq_126 mq_127 mq_71 (Nat.le_of_ble_eq_true rfl) (Nat.le_of_ble_eq_true rfl) rfl md_W_init_16 (fun v5 s6 => ?_)
  refine sp_dup (pc := 19) hX rfl md_W_init_19 ?_
  refine sp_callIV (pc := 20) (y := my_H_init) (ccy := prog_6_method_1_code) (nLy := 2) (rmy := mr_H_init) (n := 0) (idx := 18) (As := []) (st := [.ref v5, .ref x0]) (o := v5) (cells' := 42) (slots' := 472) hX (fun _ h => mc_H_init h) mk_H_init mq_129 rfl mq_128 ⟨(Nat.le_of_ble_eq_true rfl), (Nat.le_of_ble_eq_true rfl)⟩ rfl rfl (Nat.le_of_ble_eq_true rfl) ⟨(Nat.le_of_ble_eq_true rfl), (Nat.le_of_ble_eq_true rfl)⟩ rfl rfl md_W_init_20 (fun s7 => ?_)
  refine sp_putRF (pc := 23) (ci := 9) (k := 1) (idx := 19) hX mcl_9 (by decide) mq_285 rfl rfl hI rfl mty_9_1 md_W_init_23 (fun s8 => ?_)
  refine sp_aload_n (pc := 26) (k := 0) (i := 0) hX rfl 0 rfl md_W_init_26 ?_
  refine sp_new (pc := 27) (ci := 2) (idx := 23) (slots' := 478) hX mcl_2 mdf_2 mq_146 mq_147 mq_72 (Nat.le_of_ble_eq_true rfl) (Nat.le_of_ble_eq_true rfl) rfl md_W_init_27 (fun v9 s10 => ?_)
  refine sp_dup (pc := 30) hX rfl md_W_init_30 ?_
  refine sp_callIVN (pc := 31) (y := my_T_init) (ccy := prog_5_method_1_code) (nLy := 1) (rmy := mr_T_init) (n := 0) (idx := 25) (As := []) (st := [.ref v9, .ref x0]) (o := v9) (cells' := 46) (slots' := 590) hX (fun _ h => mc_T_init h) mk_T_init mq_149 rfl mn_148 ⟨(Nat.le_of_ble_eq_true rfl), (Nat.le_of_ble_eq_true rfl)⟩ rfl rfl (Nat.le_of_ble_eq_true rfl) ⟨(Nat.le_of_ble_eq_true rfl), (Nat.le_of_ble_eq_true rfl)⟩ rfl rfl md_W_init_31 (fun s11 => ?_)
  refine sp_putRF (pc := 34) (ci := 9) (k := 2) (idx := 26) hX mcl_9 (by decide) mq_286 rfl rfl hI rfl mty_9_2 md_W_init_34 (fun s12 => ?_)
  refine sp_aload_n (pc := 37) (k := 0) (i := 0) hX rfl 0 rfl md_W_init_37 ?_
  refine sp_new (pc := 38) (ci := 0) (idx := 30) (slots' := 596) hX mcl_0 mdf_0 mq_175 mq_176 mq_73 (Nat.le_of_ble_eq_true rfl) (Nat.le_of_ble_eq_true rfl) rfl md_W_init_38 (fun v13 s14 => ?_)
  refine sp_dup (pc := 41) hX rfl md_W_init_41 ?_
  refine sp_callIVN (pc := 42) (y := my_E_init) (ccy := prog_2_method_1_code) (nLy := 1) (rmy := mr_E_init) (n := 0) (idx := 32) (As := []) (st := [.ref v13, .ref x0]) (o := v13) (cells' := 57) (slots' := 691) hX (fun _ h => mc_E_init h) mk_E_init mq_178 rfl mn_177 ⟨(Nat.le_of_ble_eq_true rfl), (Nat.le_of_ble_eq_true rfl)⟩ rfl rfl (Nat.le_of_ble_eq_true rfl) ⟨(Nat.le_of_ble_eq_true rfl), (Nat.le_of_ble_eq_true rfl)⟩ rfl rfl md_W_init_42 (fun s15 => ?_)
  refine sp_putRF (pc := 45) (ci := 9) (k := 3) (idx := 33) hX mcl_9 (by decide) mq_287 rfl rfl hI rfl mty_9_3 md_W_init_45 (fun s16 => ?_)
  refine sp_aload_n (pc := 48) (k := 0) (i := 0) hX rfl 0 rfl md_W_init_48 ?_
  refine sp_new (pc := 49) (ci := 1) (idx := 37) (slots' := 693) hX mcl_1 mdf_1 mq_222 mq_223 mq_75 (Nat.le_of_ble_eq_true rfl) (Nat.le_of_ble_eq_true rfl) rfl md_W_init_49 (fun v17 s18 => ?_)
  refine sp_dup (pc := 52) hX rfl md_W_init_52 ?_
  refine sp_callIVN (pc := 53) (y := my_R_init) (ccy := prog_4_method_1_code) (nLy := 1) (rmy := mr_R_init) (n := 0) (idx := 39) (As := []) (st := [.ref v17, .ref x0]) (o := v17) (cells' := 62) (slots' := 731) hX (fun _ h => mc_R_init h) mk_R_init mq_225 rfl mn_224 ⟨(Nat.le_of_ble_eq_true rfl), (Nat.le_of_ble_eq_true rfl)⟩ rfl rfl (Nat.le_of_ble_eq_true rfl) ⟨(Nat.le_of_ble_eq_true rfl), (Nat.le_of_ble_eq_true rfl)⟩ rfl rfl md_W_init_53 (fun s19 => ?_)
  refine sp_putRF (pc := 56) (ci := 9) (k := 4) (idx := 40) hX mcl_9 (by decide) mq_288 rfl rfl hI rfl mty_9_4 md_W_init_56 (fun s20 => ?_)
  refine sp_aload_n (pc := 59) (k := 0) (i := 0) hX rfl 0 rfl md_W_init_59 ?_
  refine sp_new (pc := 60) (ci := 8) (idx := 44) (slots' := 732) hX mcl_8 mdf_8 mq_239 mq_240 mq_76 (Nat.le_of_ble_eq_true rfl) (Nat.le_of_ble_eq_true rfl) rfl md_W_init_60 (fun v21 s22 => ?_)
  refine sp_dup (pc := 63) hX rfl md_W_init_63 ?_
  refine sp_callIVN (pc := 64) (y := my_D_init) (ccy := prog_12_method_1_code) (nLy := 1) (rmy := mr_D_init) (n := 0) (idx := 46) (As := []) (st := [.ref v21, .ref x0]) (o := v21) (cells' := 80) (slots' := 1004) hX (fun _ h => mc_D_init h) mk_D_init mq_242 rfl mn_241 ⟨(Nat.le_of_ble_eq_true rfl), (Nat.le_of_ble_eq_true rfl)⟩ rfl rfl (Nat.le_of_ble_eq_true rfl) ⟨(Nat.le_of_ble_eq_true rfl), (Nat.le_of_ble_eq_true rfl)⟩ rfl rfl md_W_init_64 (fun s23 => ?_)
  refine sp_putRF (pc := 67) (ci := 9) (k := 5) (idx := 47) hX mcl_9 (by decide) mq_289 rfl rfl hI rfl mty_9_5 md_W_init_67 (fun s24 => ?_)
  refine sp_aload_n (pc := 70) (k := 0) (i := 0) hX rfl 0 rfl md_W_init_70 ?_
  refine sp_new (pc := 71) (ci := 6) (idx := 51) (slots' := 1006) hX mcl_6 mdf_6 mq_250 mq_251 mq_77 (Nat.le_of_ble_eq_true rfl) (Nat.le_of_ble_eq_true rfl) rfl md_W_init_71 (fun v25 s26 => ?_)
  refine sp_dup (pc := 74) hX rfl md_W_init_74 ?_
  refine sp_callIVN (pc := 75) (y := my_Q_init) (ccy := prog_9_method_1_code) (nLy := 1) (rmy := mr_Q_init) (n := 0) (idx := 53) (As := []) (st := [.ref v25, .ref x0]) (o := v25) (cells' := 83) (slots' := 1038) hX (fun _ h => mc_Q_init h) mk_Q_init mq_253 rfl mn_252 ⟨(Nat.le_of_ble_eq_true rfl), (Nat.le_of_ble_eq_true rfl)⟩ rfl rfl (Nat.le_of_ble_eq_true rfl) ⟨(Nat.le_of_ble_eq_true rfl), (Nat.le_of_ble_eq_true rfl)⟩ rfl rfl md_W_init_75 (fun s27 => ?_)
  refine sp_putRF (pc := 78) (ci := 9) (k := 6) (idx := 54) hX mcl_9 (by decide) mq_290 rfl rfl hI rfl mty_9_6 md_W_init_78 (fun s28 => ?_)
  refine sp_aload_n (pc := 81) (k := 0) (i := 0) hX rfl 0 rfl md_W_init_81 ?_
  refine sp_new (pc := 82) (ci := 5) (idx := 58) (slots' := 1042) hX mcl_5 mdf_5 mq_263 mq_264 mq_78 (Nat.le_of_ble_eq_true rfl) (Nat.le_of_ble_eq_true rfl) rfl md_W_init_82 (fun v29 s30 => ?_)
  refine sp_dup (pc := 85) hX rfl md_W_init_85 ?_
  refine sp_callIVN (pc := 86) (y := my_B_init) (ccy := prog_8_method_1_code) (nLy := 1) (rmy := mr_B_init) (n := 0) (idx := 60) (As := []) (st := [.ref v29, .ref x0]) (o := v29) (cells' := 87) (slots' := 1093) hX (fun _ h => mc_B_init h) mk_B_init mq_266 rfl mn_265 ⟨(Nat.le_of_ble_eq_true rfl), (Nat.le_of_ble_eq_true rfl)⟩ rfl rfl (Nat.le_of_ble_eq_true rfl) ⟨(Nat.le_of_ble_eq_true rfl), (Nat.le_of_ble_eq_true rfl)⟩ rfl rfl md_W_init_86 (fun s31 => ?_)
  refine sp_putRF (pc := 89) (ci := 9) (k := 7) (idx := 61) hX mcl_9 (by decide) mq_291 rfl rfl hI rfl mty_9_7 md_W_init_89 (fun s32 => ?_)
  refine sp_aload_n (pc := 92) (k := 0) (i := 0) hX rfl 0 rfl md_W_init_92 ?_
  refine sp_bipush (pc := 93) hX (by decide) md_W_init_93 ?_
  refine sp_newa (pc := 95) (n := 16) (slots' := 1109) hX mq_125 (Nat.le_of_ble_eq_true rfl) (Nat.le_of_ble_eq_true rfl) rfl md_W_init_95 (fun v33 s34 => ?_)
  refine sp_putRF (pc := 97) (ci := 9) (k := 8) (idx := 65) hX mcl_9 (by decide) mq_292 rfl rfl hI rfl mty_9_8 md_W_init_97 (fun s35 => ?_)
  refine sp_aload_n (pc := 100) (k := 0) (i := 0) hX rfl 0 rfl md_W_init_100 ?_
  refine sp_bipush (pc := 101) hX (by decide) md_W_init_101 ?_
  refine sp_newa (pc := 103) (n := 16) (slots' := 1125) hX mq_125 (Nat.le_of_ble_eq_true rfl) (Nat.le_of_ble_eq_true rfl) rfl md_W_init_103 (fun v36 s37 => ?_)
  refine sp_putRF (pc := 105) (ci := 9) (k := 9) (idx := 69) hX mcl_9 (by decide) mq_293 rfl rfl hI rfl mty_9_9 md_W_init_105 (fun s38 => ?_)
  refine sp_aload_n (pc := 108) (k := 0) (i := 0) hX rfl 0 rfl md_W_init_108 ?_
  refine sp_iconst (pc := 109) hX md_W_init_109 ?_
  refine sp_newa (pc := 110) (n := 3) (slots' := 1128) hX mq_125 (Nat.le_of_ble_eq_true rfl) (Nat.le_of_ble_eq_true rfl) rfl md_W_init_110 (fun v39 s40 => ?_)
  refine sp_putRF (pc := 112) (ci := 9) (k := 10) (idx := 72) hX mcl_9 (by decide) mq_294 rfl rfl hI rfl mty_9_10 md_W_init_112 (fun s41 => ?_)
  exact sp_vret (pc := 115) hX hR rfl (Nat.le_of_ble_eq_true rfl) md_W_init_115
/-! PadeWorkbench.isPrime(I)Z -/
theorem md_W_isPrime_0 : decode prog_1_method_44_code 0 = .ok (.iload_n 0, 1) := by decide +kernel
theorem md_W_isPrime_1 : decode prog_1_method_44_code 1 = .ok (.iconst 2, 1) := by decide +kernel
theorem md_W_isPrime_2 : decode prog_1_method_44_code 2 = .ok (.if_icmp .lt 10, 3) := by decide +kernel
theorem md_W_isPrime_12 : decode prog_1_method_44_code 12 = .ok (.iconst 0, 1) := by decide +kernel
theorem md_W_isPrime_13 : decode prog_1_method_44_code 13 = .ok (.ireturn, 1) := by decide +kernel
theorem md_W_isPrime_5 : decode prog_1_method_44_code 5 = .ok (.iload_n 0, 1) := by decide +kernel
theorem md_W_isPrime_6 : decode prog_1_method_44_code 6 = .ok (.sipush 251, 3) := by decide +kernel
theorem md_W_isPrime_9 : decode prog_1_method_44_code 9 = .ok (.if_icmp .le 5, 3) := by decide +kernel
theorem md_W_isPrime_14 : decode prog_1_method_44_code 14 = .ok (.iconst 2, 1) := by decide +kernel
theorem md_W_isPrime_15 : decode prog_1_method_44_code 15 = .ok (.istore_n 1, 1) := by decide +kernel
theorem md_W_isPrime_16 : decode prog_1_method_44_code 16 = .ok (.iload_n 1, 1) := by decide +kernel
theorem md_W_isPrime_17 : decode prog_1_method_44_code 17 = .ok (.iload_n 1, 1) := by decide +kernel
theorem md_W_isPrime_18 : decode prog_1_method_44_code 18 = .ok (.imul, 1) := by decide +kernel
theorem md_W_isPrime_19 : decode prog_1_method_44_code 19 = .ok (.iload_n 0, 1) := by decide +kernel
theorem md_W_isPrime_20 : decode prog_1_method_44_code 20 = .ok (.if_icmp .gt 17, 3) := by decide +kernel
theorem md_W_isPrime_37 : decode prog_1_method_44_code 37 = .ok (.iconst 1, 1) := by decide +kernel
theorem md_W_isPrime_38 : decode prog_1_method_44_code 38 = .ok (.ireturn, 1) := by decide +kernel
theorem md_W_isPrime_23 : decode prog_1_method_44_code 23 = .ok (.iload_n 0, 1) := by decide +kernel
theorem md_W_isPrime_24 : decode prog_1_method_44_code 24 = .ok (.iload_n 1, 1) := by decide +kernel
theorem md_W_isPrime_25 : decode prog_1_method_44_code 25 = .ok (.irem, 1) := by decide +kernel
theorem md_W_isPrime_26 : decode prog_1_method_44_code 26 = .ok (.ifCond .ne 5, 3) := by decide +kernel
theorem md_W_isPrime_31 : decode prog_1_method_44_code 31 = .ok (.iinc 1 1, 3) := by decide +kernel
theorem md_W_isPrime_34 : decode prog_1_method_44_code 34 = .ok (.goto (-18), 3) := by decide +kernel
theorem md_W_isPrime_29 : decode prog_1_method_44_code 29 = .ok (.iconst 0, 1) := by decide +kernel
theorem md_W_isPrime_30 : decode prog_1_method_44_code 30 = .ok (.ireturn, 1) := by decide +kernel
def mb_W_isPrime_16 (rc : Int → Int → pw_Sto → Option (Int × pw_Sto)) : Int → Int → pw_Sto → Option (Int × pw_Sto) := fun x0 x1 σ => pw_ck (x1 * x1) x0 (if x0 < (x1 * x1) then some ((1 : Int), σ) else (pw_rem x0 x1).bind (fun v1 => pw_ck v1 0 (if v1 = 0 then some ((0 : Int), σ) else rc x0 (x1 + 1) σ)))
def ml_W_isPrime_16 : Nat → Int → Int → pw_Sto → Option (Int × pw_Sto) := pw_lp (fun _ _ _ => none) (mb_W_isPrime_16)
def mf_W_isPrime (x0 : Int) (σ : pw_Sto) : Option (Int × pw_Sto) := pw_ck x0 (2 : Int) (if x0 < (2 : Int) then some ((0 : Int), σ) else pw_ck x0 (251 : Int) (if x0 ≤ (251 : Int) then ml_W_isPrime_16 1000 x0 (2 : Int) σ else some ((0 : Int), σ)))
set_option maxHeartbeats 4000000 in
set_option maxRecDepth 20000 in
theorem sl_W_isPrime_16 {X : pw_X Int} (hX : pw_Ok X prog_1_method_44_code "PadeWorkbench" mr_W_isPrime 2) (hR : pw_RZ X prog_1_method_44_code) : ∀ (n : Nat) (x0 : Int) (x1 : Int) (σ : pw_Sto), pw_Sp X 0 0 16 [(0, Value.int (iI x0)), (1, Value.int (iI x1))] [] σ (ml_W_isPrime_16 n x0 x1 σ) := by
  intro n
  induction n with
  | zero => intros; exact pw_none
  | succ n ih =>
    intro x0 x1 σ
    show pw_Sp X 0 0 16 _ _ σ (mb_W_isPrime_16 (ml_W_isPrime_16 n) x0 x1 σ)
    unfold mb_W_isPrime_16
    refine sp_iload_n (pc := 16) (k := 1) (i := 1) hX rfl 1 rfl md_W_isPrime_16 ?_
    refine sp_iload_n (pc := 17) (k := 1) (i := 1) hX rfl 1 rfl md_W_isPrime_17 ?_
    refine sp_imul (pc := 18) hX md_W_isPrime_18 ?_
    refine sp_iload_n (pc := 19) (k := 0) (i := 0) hX rfl 0 rfl md_W_isPrime_19 ?_
    refine sp_icmp_gt (pc := 20) hX 37 (by decide) md_W_isPrime_20 (fun _ => ?_) (fun _ => ?_)
    · refine sp_iconst (pc := 37) hX md_W_isPrime_37 ?_
      exact sp_zret (pc := 38) hX hR (by decide) rfl (Nat.le_of_ble_eq_true rfl) md_W_isPrime_38
    · refine sp_iload_n (pc := 23) (k := 0) (i := 0) hX rfl 0 rfl md_W_isPrime_23 ?_
      refine sp_iload_n (pc := 24) (k := 1) (i := 1) hX rfl 1 rfl md_W_isPrime_24 ?_
      refine sp_irem (pc := 25) hX md_W_isPrime_25 (fun v1 => ?_)
      refine sp_if_ne (pc := 26) hX 31 (by decide) md_W_isPrime_26 (fun _ => ?_) (fun _ => ?_)
      · refine sp_iconst (pc := 29) hX md_W_isPrime_29 ?_
        exact sp_zret (pc := 30) hX hR (by decide) rfl (Nat.le_of_ble_eq_true rfl) md_W_isPrime_30
      · refine sp_iinc (pc := 31) (i := 1) (L' := [(1, Value.int (iI (x1 + 1))), (0, Value.int (iI x0))]) hX 1 rfl (by decide) rfl md_W_isPrime_31 ?_
        refine sp_goto (pc := 34) hX 16 (by decide) md_W_isPrime_34 ?_
        refine sp_sub [1, 0] (L' := [(0, Value.int (iI x0)), (1, Value.int (iI (x1 + 1)))]) rfl ?_
        exact ih x0 (x1 + 1) σ
set_option maxHeartbeats 4000000 in
set_option maxRecDepth 20000 in
theorem mc_W_isPrime {l : Launch} {E : pw_E} {σ : pw_Sto} {x0 : Int} {out : Int × pw_Sto} (h : mf_W_isPrime x0 σ = some out) : pw_CI l E my_W_isPrime prog_1_method_44_code 2 (some .boolean) mr_W_isPrime [.int (iI x0)] σ out := by
  unfold mf_W_isPrime at h
  refine pw_entryZ (by decide) (Nat.le_of_ble_eq_true rfl) h (fun X hX hR hI => ?_)
  change pw_Ok X prog_1_method_44_code "PadeWorkbench" mr_W_isPrime 2 at hX
  show pw_Sp X 0 0 0 [(0, Value.int (iI x0))] [] σ _
  refine sp_iload_n (pc := 0) (k := 0) (i := 0) hX rfl 0 rfl md_W_isPrime_0 ?_
  refine sp_iconst (pc := 1) hX md_W_isPrime_1 ?_
  refine sp_icmp_lt (pc := 2) hX 12 (by decide) md_W_isPrime_2 (fun _ => ?_) (fun _ => ?_)
  · refine sp_iconst (pc := 12) hX md_W_isPrime_12 ?_
    exact sp_zret (pc := 13) hX hR (by decide) rfl (Nat.le_of_ble_eq_true rfl) md_W_isPrime_13
  · refine sp_iload_n (pc := 5) (k := 0) (i := 0) hX rfl 0 rfl md_W_isPrime_5 ?_
    refine sp_sipush (pc := 6) hX (by decide) md_W_isPrime_6 ?_
    refine sp_icmp_le (pc := 9) hX 14 (by decide) md_W_isPrime_9 (fun _ => ?_) (fun _ => ?_)
    · refine sp_iconst (pc := 14) hX md_W_isPrime_14 ?_
      refine sp_istore_n (pc := 15) (k := 1) (i := 1) (L' := [(1, Value.int (iI (2 : Int))), (0, Value.int (iI x0))]) hX rfl (by decide) rfl md_W_isPrime_15 ?_
      refine sp_sub [1, 0] (L' := [(0, Value.int (iI x0)), (1, Value.int (iI (2 : Int)))]) rfl ?_
      exact sl_W_isPrime_16 hX hR 1000 x0 (2 : Int) σ
    · refine sp_iconst (pc := 12) hX md_W_isPrime_12 ?_
      exact sp_zret (pc := 13) hX hR (by decide) rfl (Nat.le_of_ble_eq_true rfl) md_W_isPrime_13
/-! PadeWorkbench.fail(I)I -/
theorem md_W_fail_0 : decode prog_1_method_37_code 0 = .ok (.bipush (-2), 2) := by decide +kernel
theorem md_W_fail_2 : decode prog_1_method_37_code 2 = .ok (.iload_n 1, 1) := by decide +kernel
theorem md_W_fail_3 : decode prog_1_method_37_code 3 = .ok (.isub, 1) := by decide +kernel
theorem md_W_fail_4 : decode prog_1_method_37_code 4 = .ok (.istore_n 2, 1) := by decide +kernel
theorem md_W_fail_5 : decode prog_1_method_37_code 5 = .ok (.iload_n 2, 1) := by decide +kernel
theorem md_W_fail_6 : decode prog_1_method_37_code 6 = .ok (.ifCond .lt 18, 3) := by decide +kernel
theorem md_W_fail_24 : decode prog_1_method_37_code 24 = .ok (.iload_n 1, 1) := by decide +kernel
theorem md_W_fail_25 : decode prog_1_method_37_code 25 = .ok (.ireturn, 1) := by decide +kernel
theorem md_W_fail_9 : decode prog_1_method_37_code 9 = .ok (.iload_n 2, 1) := by decide +kernel
theorem md_W_fail_10 : decode prog_1_method_37_code 10 = .ok (.iconst 3, 1) := by decide +kernel
theorem md_W_fail_11 : decode prog_1_method_37_code 11 = .ok (.if_icmp .ge 13, 3) := by decide +kernel
theorem md_W_fail_14 : decode prog_1_method_37_code 14 = .ok (.aload_n 0, 1) := by decide +kernel
theorem md_W_fail_15 : decode prog_1_method_37_code 15 = .ok (.getfield 72, 3) := by decide +kernel
theorem md_W_fail_18 : decode prog_1_method_37_code 18 = .ok (.iload_n 2, 1) := by decide +kernel
theorem md_W_fail_19 : decode prog_1_method_37_code 19 = .ok (.dup2, 1) := by decide +kernel
theorem md_W_fail_20 : decode prog_1_method_37_code 20 = .ok (.iaload, 1) := by decide +kernel
theorem md_W_fail_21 : decode prog_1_method_37_code 21 = .ok (.iconst 1, 1) := by decide +kernel
theorem md_W_fail_22 : decode prog_1_method_37_code 22 = .ok (.iadd, 1) := by decide +kernel
theorem md_W_fail_23 : decode prog_1_method_37_code 23 = .ok (.iastore, 1) := by decide +kernel
def mf_W_fail (x0 : Nat) (x1 : Int) (σ : pw_Sto) : Option (Int × pw_Sto) := pw_gd 9 x0 σ (pw_ck ((-2 : Int) - x1) 0 (if ((-2 : Int) - x1) < 0 then some (x1, σ) else pw_ck ((-2 : Int) - x1) (3 : Int) (if (3 : Int) ≤ ((-2 : Int) - x1) then some (x1, σ) else (pw_gr 9 x0 10 σ).bind (fun v1 => (pw_ai v1 ((-2 : Int) - x1) σ).bind (fun v2 => (pw_si v1 ((-2 : Int) - x1) (v2 + (1 : Int)) σ).bind (fun s3 => some (x1, s3)))))))
set_option maxHeartbeats 4000000 in
set_option maxRecDepth 20000 in
theorem mc_W_fail {l : Launch} {E : pw_E} {σ : pw_Sto} {x0 : Nat} {x1 : Int} {out : Int × pw_Sto} (h : mf_W_fail x0 x1 σ = some out) : pw_CI l E my_W_fail prog_1_method_37_code 3 (some .int) mr_W_fail [.ref x0, .int (iI x1)] σ out := by
  unfold mf_W_fail at h
  refine pw_entryI (by decide) (Nat.le_of_ble_eq_true rfl) (pw_gd_val h) (fun X hX hR hI => ?_)
  change pw_Ok X prog_1_method_37_code "PadeWorkbench" mr_W_fail 3 at hX
  show pw_Sp X 0 0 0 [(0, Value.ref x0), (1, Value.int (iI x1))] [] σ _
  refine sp_bipush (pc := 0) hX (by decide) md_W_fail_0 ?_
  refine sp_iload_n (pc := 2) (k := 1) (i := 1) hX rfl 1 rfl md_W_fail_2 ?_
  refine sp_isub (pc := 3) hX md_W_fail_3 ?_
  refine sp_istore_n (pc := 4) (k := 2) (i := 2) (L' := [(2, Value.int (iI ((-2 : Int) - x1))), (0, Value.ref x0), (1, Value.int (iI x1))]) hX rfl (by decide) rfl md_W_fail_4 ?_
  refine sp_iload_n (pc := 5) (k := 2) (i := 2) hX rfl 0 rfl md_W_fail_5 ?_
  refine sp_if_lt (pc := 6) hX 24 (by decide) md_W_fail_6 (fun _ => ?_) (fun _ => ?_)
  · refine sp_iload_n (pc := 24) (k := 1) (i := 1) hX rfl 2 rfl md_W_fail_24 ?_
    exact sp_iret (pc := 25) hX hR rfl (Nat.le_of_ble_eq_true rfl) md_W_fail_25
  · refine sp_iload_n (pc := 9) (k := 2) (i := 2) hX rfl 0 rfl md_W_fail_9 ?_
    refine sp_iconst (pc := 10) hX md_W_fail_10 ?_
    refine sp_icmp_ge (pc := 11) hX 24 (by decide) md_W_fail_11 (fun _ => ?_) (fun _ => ?_)
    · refine sp_iload_n (pc := 24) (k := 1) (i := 1) hX rfl 2 rfl md_W_fail_24 ?_
      exact sp_iret (pc := 25) hX hR rfl (Nat.le_of_ble_eq_true rfl) md_W_fail_25
    · refine sp_aload_n (pc := 14) (k := 0) (i := 0) hX rfl 1 rfl md_W_fail_14 ?_
      refine sp_getR (pc := 15) (ci := 9) (k := 10) (idx := 72) hX mcl_9 (by decide) mq_294 rfl md_W_fail_15 (fun v1 => ?_)
      refine sp_iload_n (pc := 18) (k := 2) (i := 2) hX rfl 0 rfl md_W_fail_18 ?_
      refine sp_dup2 (pc := 19) hX rfl rfl md_W_fail_19 ?_
      refine sp_iaload (pc := 20) hX md_W_fail_20 (fun v2 => ?_)
      refine sp_iconst (pc := 21) hX md_W_fail_21 ?_
      refine sp_iadd (pc := 22) hX md_W_fail_22 ?_
      refine sp_iastore (pc := 23) hX md_W_fail_23 (fun s3 => ?_)
      refine sp_iload_n (pc := 24) (k := 1) (i := 1) hX rfl 2 rfl md_W_fail_24 ?_
      exact sp_iret (pc := 25) hX hR rfl (Nat.le_of_ble_eq_true rfl) md_W_fail_25
/-! PadeWorkbench.setPrime(I)I -/
theorem md_W_setPrime_0 : decode prog_1_method_2_code 0 = .ok (.iload_n 1, 1) := by decide +kernel
theorem md_W_setPrime_1 : decode prog_1_method_2_code 1 = .ok (.invokestatic 75, 3) := by decide +kernel
theorem md_W_setPrime_4 : decode prog_1_method_2_code 4 = .ok (.ifCond .ne 10, 3) := by decide +kernel
theorem md_W_setPrime_14 : decode prog_1_method_2_code 14 = .ok (.aload_n 0, 1) := by decide +kernel
theorem md_W_setPrime_15 : decode prog_1_method_2_code 15 = .ok (.getfield 10, 3) := by decide +kernel
theorem md_W_setPrime_18 : decode prog_1_method_2_code 18 = .ok (.getfield 83, 3) := by decide +kernel
theorem md_W_setPrime_21 : decode prog_1_method_2_code 21 = .ok (.istore_n 2, 1) := by decide +kernel
theorem md_W_setPrime_22 : decode prog_1_method_2_code 22 = .ok (.aload_n 0, 1) := by decide +kernel
theorem md_W_setPrime_23 : decode prog_1_method_2_code 23 = .ok (.getfield 19, 3) := by decide +kernel
theorem md_W_setPrime_26 : decode prog_1_method_2_code 26 = .ok (.aload_n 0, 1) := by decide +kernel
theorem md_W_setPrime_27 : decode prog_1_method_2_code 27 = .ok (.getfield 10, 3) := by decide +kernel
theorem md_W_setPrime_30 : decode prog_1_method_2_code 30 = .ok (.invokevirtual 87, 3) := by decide +kernel
theorem md_W_setPrime_33 : decode prog_1_method_2_code 33 = .ok (.aload_n 0, 1) := by decide +kernel
theorem md_W_setPrime_34 : decode prog_1_method_2_code 34 = .ok (.getfield 10, 3) := by decide +kernel
theorem md_W_setPrime_37 : decode prog_1_method_2_code 37 = .ok (.iload_n 1, 1) := by decide +kernel
theorem md_W_setPrime_38 : decode prog_1_method_2_code 38 = .ok (.invokevirtual 91, 3) := by decide +kernel
theorem md_W_setPrime_41 : decode prog_1_method_2_code 41 = .ok (.iload_n 2, 1) := by decide +kernel
theorem md_W_setPrime_42 : decode prog_1_method_2_code 42 = .ok (.ireturn, 1) := by decide +kernel
theorem md_W_setPrime_7 : decode prog_1_method_2_code 7 = .ok (.aload_n 0, 1) := by decide +kernel
theorem md_W_setPrime_8 : decode prog_1_method_2_code 8 = .ok (.bipush (-2), 2) := by decide +kernel
theorem md_W_setPrime_10 : decode prog_1_method_2_code 10 = .ok (.invokevirtual 79, 3) := by decide +kernel
theorem md_W_setPrime_13 : decode prog_1_method_2_code 13 = .ok (.ireturn, 1) := by decide +kernel
def mf_W_setPrime (x0 : Nat) (x1 : Int) (σ : pw_Sto) : Option (Int × pw_Sto) := pw_gd 9 x0 σ (pw_bd (mf_W_isPrime x1 σ) (fun v2 s1 => pw_ck v2 0 (if v2 = 0 then pw_bd (mf_W_fail x0 (-2 : Int) s1) (fun v11 s10 => some (v11, s10)) else (pw_gr 9 x0 0 s1).bind (fun v3 => (pw_gi 7 v3 0 s1).bind (fun v4 => (pw_gr 9 x0 1 s1).bind (fun v5 => (pw_gr 9 x0 0 s1).bind (fun v6 => pw_bd (mf_H_keep v5 v6 s1) (fun _ s7 => (pw_gr 9 x0 0 s7).bind (fun v8 => pw_bd (mf_Z_restart v8 x1 s7) (fun _ s9 => some (v4, s9)))))))))))
set_option maxHeartbeats 4000000 in
set_option maxRecDepth 20000 in
theorem mc_W_setPrime {l : Launch} {E : pw_E} {σ : pw_Sto} {x0 : Nat} {x1 : Int} {out : Int × pw_Sto} (h : mf_W_setPrime x0 x1 σ = some out) : pw_CI l E my_W_setPrime prog_1_method_2_code 3 (some .int) mr_W_setPrime [.ref x0, .int (iI x1)] σ out := by
  unfold mf_W_setPrime at h
  refine pw_entryI (by decide) (Nat.le_of_ble_eq_true rfl) (pw_gd_val h) (fun X hX hR hI => ?_)
  change pw_Ok X prog_1_method_2_code "PadeWorkbench" mr_W_setPrime 3 at hX
  show pw_Sp X 0 0 0 [(0, Value.ref x0), (1, Value.int (iI x1))] [] σ _
  refine sp_iload_n (pc := 0) (k := 1) (i := 1) hX rfl 1 rfl md_W_setPrime_0 ?_
  refine sp_callSI (pc := 1) (y := my_W_isPrime) (ccy := prog_1_method_44_code) (nLy := 2) (ret := (some .boolean)) (rmy := mr_W_isPrime) (n := 1) (idx := 75) (As := [.int (iI x1)]) (st := []) (cells' := 0) (slots' := 0) hX (fun _ h => mc_W_isPrime h) mk_W_isPrime mq_323 mq_322 ⟨(Nat.le_of_ble_eq_true rfl), (Nat.le_of_ble_eq_true rfl)⟩ rfl rfl (Nat.le_of_ble_eq_true rfl) ⟨(Nat.le_of_ble_eq_true rfl), (Nat.le_of_ble_eq_true rfl)⟩ rfl rfl md_W_setPrime_1 (fun v2 s1 => ?_)
  refine sp_if_ne (pc := 4) hX 14 (by decide) md_W_setPrime_4 (fun _ => ?_) (fun _ => ?_)
  · refine sp_aload_n (pc := 7) (k := 0) (i := 0) hX rfl 0 rfl md_W_setPrime_7 ?_
    refine sp_bipush (pc := 8) hX (by decide) md_W_setPrime_8 ?_
    refine sp_callVI (pc := 10) (y := my_W_fail) (ccy := prog_1_method_37_code) (nLy := 3) (ret := (some .int)) (rmy := mr_W_fail) (n := 1) (idx := 79) (As := [.int (iI (-2 : Int))]) (st := []) (o := x0) (cells' := 0) (slots' := 0) hX (fun _ h => mc_W_fail h) mk_W_fail mv_W_fail mcl_9 (fun _ h => pw_gd_of h) mq_325 ⟨(Nat.le_of_ble_eq_true rfl), (Nat.le_of_ble_eq_true rfl)⟩ rfl rfl (Nat.le_of_ble_eq_true rfl) ⟨(Nat.le_of_ble_eq_true rfl), (Nat.le_of_ble_eq_true rfl)⟩ rfl rfl md_W_setPrime_10 (fun v11 s10 => ?_)
    exact sp_iret (pc := 13) hX hR rfl (Nat.le_of_ble_eq_true rfl) md_W_setPrime_13
  · refine sp_aload_n (pc := 14) (k := 0) (i := 0) hX rfl 0 rfl md_W_setPrime_14 ?_
    refine sp_getR (pc := 15) (ci := 9) (k := 0) (idx := 10) hX mcl_9 (by decide) mq_284 rfl md_W_setPrime_15 (fun v3 => ?_)
    refine sp_getIN (pc := 18) (ci := 7) (k := 0) (idx := 83) hX mcl_7 (by decide) mn_101 rfl md_W_setPrime_18 (fun v4 => ?_)
    refine sp_istore_n (pc := 21) (k := 2) (i := 2) (L' := [(2, Value.int (iI v4)), (0, Value.ref x0), (1, Value.int (iI x1))]) hX rfl (by decide) rfl md_W_setPrime_21 ?_
    refine sp_aload_n (pc := 22) (k := 0) (i := 0) hX rfl 1 rfl md_W_setPrime_22 ?_
    refine sp_getR (pc := 23) (ci := 9) (k := 1) (idx := 19) hX mcl_9 (by decide) mq_285 rfl md_W_setPrime_23 (fun v5 => ?_)
    refine sp_aload_n (pc := 26) (k := 0) (i := 0) hX rfl 1 rfl md_W_setPrime_26 ?_
    refine sp_getR (pc := 27) (ci := 9) (k := 0) (idx := 10) hX mcl_9 (by decide) mq_284 rfl md_W_setPrime_27 (fun v6 => ?_)
    refine sp_callVV (pc := 30) (y := my_H_keep) (ccy := prog_6_method_2_code) (nLy := 2) (ret := none) (rmy := mr_H_keep) (n := 1) (idx := 87) (As := [.ref v6]) (st := []) (o := v5) (cells' := 0) (slots' := 0) hX (fun _ h => mc_H_keep h) mk_H_keep mv_H_keep mcl_3 (fun _ h => pw_gd_of h) mq_329 ⟨(Nat.le_of_ble_eq_true rfl), (Nat.le_of_ble_eq_true rfl)⟩ rfl rfl (Nat.le_of_ble_eq_true rfl) ⟨(Nat.le_of_ble_eq_true rfl), (Nat.le_of_ble_eq_true rfl)⟩ rfl rfl md_W_setPrime_30 (fun s7 => ?_)
    refine sp_aload_n (pc := 33) (k := 0) (i := 0) hX rfl 1 rfl md_W_setPrime_33 ?_
    refine sp_getR (pc := 34) (ci := 9) (k := 0) (idx := 10) hX mcl_9 (by decide) mq_284 rfl md_W_setPrime_34 (fun v8 => ?_)
    refine sp_iload_n (pc := 37) (k := 1) (i := 1) hX rfl 2 rfl md_W_setPrime_37 ?_
    refine sp_callVV (pc := 38) (y := my_Z_restart) (ccy := prog_11_method_3_code) (nLy := 3) (ret := none) (rmy := mr_Z_restart) (n := 1) (idx := 91) (As := [.int (iI x1)]) (st := []) (o := v8) (cells' := 0) (slots' := 0) hX (fun _ h => mc_Z_restart h) mk_Z_restart mv_Z_restart mcl_7 (fun _ h => pw_gd_of h) mq_340 ⟨(Nat.le_of_ble_eq_true rfl), (Nat.le_of_ble_eq_true rfl)⟩ rfl rfl (Nat.le_of_ble_eq_true rfl) ⟨(Nat.le_of_ble_eq_true rfl), (Nat.le_of_ble_eq_true rfl)⟩ rfl rfl md_W_setPrime_38 (fun s9 => ?_)
    refine sp_iload_n (pc := 41) (k := 2) (i := 2) hX rfl 0 rfl md_W_setPrime_41 ?_
    exact sp_iret (pc := 42) hX hR rfl (Nat.le_of_ble_eq_true rfl) md_W_setPrime_42
/-! PadeWorkbench.isSlot(I)Z -/
theorem md_W_isSlot_0 : decode prog_1_method_38_code 0 = .ok (.iload_n 0, 1) := by decide +kernel
theorem md_W_isSlot_1 : decode prog_1_method_38_code 1 = .ok (.ifCond .lt 12, 3) := by decide +kernel
theorem md_W_isSlot_13 : decode prog_1_method_38_code 13 = .ok (.iconst 0, 1) := by decide +kernel
theorem md_W_isSlot_14 : decode prog_1_method_38_code 14 = .ok (.ireturn, 1) := by decide +kernel
theorem md_W_isSlot_4 : decode prog_1_method_38_code 4 = .ok (.iload_n 0, 1) := by decide +kernel
theorem md_W_isSlot_5 : decode prog_1_method_38_code 5 = .ok (.iconst 4, 1) := by decide +kernel
theorem md_W_isSlot_6 : decode prog_1_method_38_code 6 = .ok (.if_icmp .ge 7, 3) := by decide +kernel
theorem md_W_isSlot_9 : decode prog_1_method_38_code 9 = .ok (.iconst 1, 1) := by decide +kernel
theorem md_W_isSlot_10 : decode prog_1_method_38_code 10 = .ok (.goto 4, 3) := by decide +kernel
def mf_W_isSlot (x0 : Int) (σ : pw_Sto) : Option (Int × pw_Sto) := pw_ck x0 0 (if x0 < 0 then some ((0 : Int), σ) else pw_ck x0 (4 : Int) (if (4 : Int) ≤ x0 then some ((0 : Int), σ) else some ((1 : Int), σ)))
set_option maxHeartbeats 4000000 in
set_option maxRecDepth 20000 in
theorem mc_W_isSlot {l : Launch} {E : pw_E} {σ : pw_Sto} {x0 : Int} {out : Int × pw_Sto} (h : mf_W_isSlot x0 σ = some out) : pw_CI l E my_W_isSlot prog_1_method_38_code 1 (some .boolean) mr_W_isSlot [.int (iI x0)] σ out := by
  unfold mf_W_isSlot at h
  refine pw_entryZ (by decide) (Nat.le_of_ble_eq_true rfl) h (fun X hX hR hI => ?_)
  change pw_Ok X prog_1_method_38_code "PadeWorkbench" mr_W_isSlot 1 at hX
  show pw_Sp X 0 0 0 [(0, Value.int (iI x0))] [] σ _
  refine sp_iload_n (pc := 0) (k := 0) (i := 0) hX rfl 0 rfl md_W_isSlot_0 ?_
  refine sp_if_lt (pc := 1) hX 13 (by decide) md_W_isSlot_1 (fun _ => ?_) (fun _ => ?_)
  · refine sp_iconst (pc := 13) hX md_W_isSlot_13 ?_
    exact sp_zret (pc := 14) hX hR (by decide) rfl (Nat.le_of_ble_eq_true rfl) md_W_isSlot_14
  · refine sp_iload_n (pc := 4) (k := 0) (i := 0) hX rfl 0 rfl md_W_isSlot_4 ?_
    refine sp_iconst (pc := 5) hX md_W_isSlot_5 ?_
    refine sp_icmp_ge (pc := 6) hX 13 (by decide) md_W_isSlot_6 (fun _ => ?_) (fun _ => ?_)
    · refine sp_iconst (pc := 13) hX md_W_isSlot_13 ?_
      exact sp_zret (pc := 14) hX hR (by decide) rfl (Nat.le_of_ble_eq_true rfl) md_W_isSlot_14
    · refine sp_iconst (pc := 9) hX md_W_isSlot_9 ?_
      refine sp_goto (pc := 10) hX 14 (by decide) md_W_isSlot_10 ?_
      exact sp_zret (pc := 14) hX hR (by decide) rfl (Nat.le_of_ble_eq_true rfl) md_W_isSlot_14
/-! PadeWorkbench.isElement(I)Z -/
theorem md_W_isElement_0 : decode prog_1_method_40_code 0 = .ok (.iload_n 1, 1) := by decide +kernel
theorem md_W_isElement_1 : decode prog_1_method_40_code 1 = .ok (.ifCond .lt 18, 3) := by decide +kernel
theorem md_W_isElement_19 : decode prog_1_method_40_code 19 = .ok (.iconst 0, 1) := by decide +kernel
theorem md_W_isElement_20 : decode prog_1_method_40_code 20 = .ok (.ireturn, 1) := by decide +kernel
theorem md_W_isElement_4 : decode prog_1_method_40_code 4 = .ok (.iload_n 1, 1) := by decide +kernel
theorem md_W_isElement_5 : decode prog_1_method_40_code 5 = .ok (.aload_n 0, 1) := by decide +kernel
theorem md_W_isElement_6 : decode prog_1_method_40_code 6 = .ok (.getfield 10, 3) := by decide +kernel
theorem md_W_isElement_9 : decode prog_1_method_40_code 9 = .ok (.getfield 83, 3) := by decide +kernel
theorem md_W_isElement_12 : decode prog_1_method_40_code 12 = .ok (.if_icmp .ge 7, 3) := by decide +kernel
theorem md_W_isElement_15 : decode prog_1_method_40_code 15 = .ok (.iconst 1, 1) := by decide +kernel
theorem md_W_isElement_16 : decode prog_1_method_40_code 16 = .ok (.goto 4, 3) := by decide +kernel
def mf_W_isElement (x0 : Nat) (x1 : Int) (σ : pw_Sto) : Option (Int × pw_Sto) := pw_gd 9 x0 σ (pw_ck x1 0 (if x1 < 0 then some ((0 : Int), σ) else (pw_gr 9 x0 0 σ).bind (fun v1 => (pw_gi 7 v1 0 σ).bind (fun v2 => pw_ck x1 v2 (if v2 ≤ x1 then some ((0 : Int), σ) else some ((1 : Int), σ))))))
set_option maxHeartbeats 4000000 in
set_option maxRecDepth 20000 in
theorem mc_W_isElement {l : Launch} {E : pw_E} {σ : pw_Sto} {x0 : Nat} {x1 : Int} {out : Int × pw_Sto} (h : mf_W_isElement x0 x1 σ = some out) : pw_CI l E my_W_isElement prog_1_method_40_code 2 (some .boolean) mr_W_isElement [.ref x0, .int (iI x1)] σ out := by
  unfold mf_W_isElement at h
  refine pw_entryZ (by decide) (Nat.le_of_ble_eq_true rfl) (pw_gd_val h) (fun X hX hR hI => ?_)
  change pw_Ok X prog_1_method_40_code "PadeWorkbench" mr_W_isElement 2 at hX
  show pw_Sp X 0 0 0 [(0, Value.ref x0), (1, Value.int (iI x1))] [] σ _
  refine sp_iload_n (pc := 0) (k := 1) (i := 1) hX rfl 1 rfl md_W_isElement_0 ?_
  refine sp_if_lt (pc := 1) hX 19 (by decide) md_W_isElement_1 (fun _ => ?_) (fun _ => ?_)
  · refine sp_iconst (pc := 19) hX md_W_isElement_19 ?_
    exact sp_zret (pc := 20) hX hR (by decide) rfl (Nat.le_of_ble_eq_true rfl) md_W_isElement_20
  · refine sp_iload_n (pc := 4) (k := 1) (i := 1) hX rfl 1 rfl md_W_isElement_4 ?_
    refine sp_aload_n (pc := 5) (k := 0) (i := 0) hX rfl 0 rfl md_W_isElement_5 ?_
    refine sp_getR (pc := 6) (ci := 9) (k := 0) (idx := 10) hX mcl_9 (by decide) mq_284 rfl md_W_isElement_6 (fun v1 => ?_)
    refine sp_getIN (pc := 9) (ci := 7) (k := 0) (idx := 83) hX mcl_7 (by decide) mn_101 rfl md_W_isElement_9 (fun v2 => ?_)
    refine sp_icmp_ge (pc := 12) hX 19 (by decide) md_W_isElement_12 (fun _ => ?_) (fun _ => ?_)
    · refine sp_iconst (pc := 19) hX md_W_isElement_19 ?_
      exact sp_zret (pc := 20) hX hR (by decide) rfl (Nat.le_of_ble_eq_true rfl) md_W_isElement_20
    · refine sp_iconst (pc := 15) hX md_W_isElement_15 ?_
      refine sp_goto (pc := 16) hX 20 (by decide) md_W_isElement_16 ?_
      exact sp_zret (pc := 20) hX hR (by decide) rfl (Nat.le_of_ble_eq_true rfl) md_W_isElement_20
/-! PadeWorkbench.set(III)I -/
theorem md_W_set_0 : decode prog_1_method_3_code 0 = .ok (.iload_n 1, 1) := by decide +kernel
theorem md_W_set_1 : decode prog_1_method_3_code 1 = .ok (.invokestatic 95, 3) := by decide +kernel
theorem md_W_set_4 : decode prog_1_method_3_code 4 = .ok (.ifCond .eq 18, 3) := by decide +kernel
theorem md_W_set_22 : decode prog_1_method_3_code 22 = .ok (.aload_n 0, 1) := by decide +kernel
theorem md_W_set_23 : decode prog_1_method_3_code 23 = .ok (.bipush (-2), 2) := by decide +kernel
theorem md_W_set_25 : decode prog_1_method_3_code 25 = .ok (.invokevirtual 79, 3) := by decide +kernel
theorem md_W_set_28 : decode prog_1_method_3_code 28 = .ok (.ireturn, 1) := by decide +kernel
theorem md_W_set_7 : decode prog_1_method_3_code 7 = .ok (.iload_n 2, 1) := by decide +kernel
theorem md_W_set_8 : decode prog_1_method_3_code 8 = .ok (.invokestatic 98, 3) := by decide +kernel
theorem md_W_set_11 : decode prog_1_method_3_code 11 = .ok (.ifCond .eq 11, 3) := by decide +kernel
theorem md_W_set_14 : decode prog_1_method_3_code 14 = .ok (.aload_n 0, 1) := by decide +kernel
theorem md_W_set_15 : decode prog_1_method_3_code 15 = .ok (.iload_n 3, 1) := by decide +kernel
theorem md_W_set_16 : decode prog_1_method_3_code 16 = .ok (.invokevirtual 101, 3) := by decide +kernel
theorem md_W_set_19 : decode prog_1_method_3_code 19 = .ok (.ifCond .ne 10, 3) := by decide +kernel
theorem md_W_set_29 : decode prog_1_method_3_code 29 = .ok (.aload_n 0, 1) := by decide +kernel
theorem md_W_set_30 : decode prog_1_method_3_code 30 = .ok (.getfield 19, 3) := by decide +kernel
theorem md_W_set_33 : decode prog_1_method_3_code 33 = .ok (.aload_n 0, 1) := by decide +kernel
theorem md_W_set_34 : decode prog_1_method_3_code 34 = .ok (.getfield 10, 3) := by decide +kernel
theorem md_W_set_37 : decode prog_1_method_3_code 37 = .ok (.invokevirtual 87, 3) := by decide +kernel
theorem md_W_set_40 : decode prog_1_method_3_code 40 = .ok (.aload_n 0, 1) := by decide +kernel
theorem md_W_set_41 : decode prog_1_method_3_code 41 = .ok (.getfield 10, 3) := by decide +kernel
theorem md_W_set_44 : decode prog_1_method_3_code 44 = .ok (.getfield 104, 3) := by decide +kernel
theorem md_W_set_47 : decode prog_1_method_3_code 47 = .ok (.iload_n 1, 1) := by decide +kernel
theorem md_W_set_48 : decode prog_1_method_3_code 48 = .ok (.aaload, 1) := by decide +kernel
theorem md_W_set_49 : decode prog_1_method_3_code 49 = .ok (.iload_n 2, 1) := by decide +kernel
theorem md_W_set_50 : decode prog_1_method_3_code 50 = .ok (.iaload, 1) := by decide +kernel
theorem md_W_set_51 : decode prog_1_method_3_code 51 = .ok (.istore 4, 2) := by decide +kernel
theorem md_W_set_53 : decode prog_1_method_3_code 53 = .ok (.aload_n 0, 1) := by decide +kernel
theorem md_W_set_54 : decode prog_1_method_3_code 54 = .ok (.getfield 10, 3) := by decide +kernel
theorem md_W_set_57 : decode prog_1_method_3_code 57 = .ok (.getfield 104, 3) := by decide +kernel
theorem md_W_set_60 : decode prog_1_method_3_code 60 = .ok (.iload_n 1, 1) := by decide +kernel
theorem md_W_set_61 : decode prog_1_method_3_code 61 = .ok (.aaload, 1) := by decide +kernel
theorem md_W_set_62 : decode prog_1_method_3_code 62 = .ok (.iload_n 2, 1) := by decide +kernel
theorem md_W_set_63 : decode prog_1_method_3_code 63 = .ok (.iload_n 3, 1) := by decide +kernel
theorem md_W_set_64 : decode prog_1_method_3_code 64 = .ok (.iastore, 1) := by decide +kernel
theorem md_W_set_65 : decode prog_1_method_3_code 65 = .ok (.iload 4, 2) := by decide +kernel
theorem md_W_set_67 : decode prog_1_method_3_code 67 = .ok (.ireturn, 1) := by decide +kernel
def mj_W_set_22 (x0 : Nat) (σ : pw_Sto) : Option (Int × pw_Sto) := pw_bd (mf_W_fail x0 (-2 : Int) σ) (fun v4 s3 => some (v4, s3))
def mf_W_set (x0 : Nat) (x1 : Int) (x2 : Int) (x3 : Int) (σ : pw_Sto) : Option (Int × pw_Sto) := pw_gd 9 x0 σ (pw_bd (mf_W_isSlot x1 σ) (fun v2 s1 => pw_ck v2 0 (if v2 = 0 then mj_W_set_22 x0 s1 else pw_bd (mf_W_isTerm x2 s1) (fun v6 s5 => pw_ck v6 0 (if v6 = 0 then mj_W_set_22 x0 s5 else pw_bd (mf_W_isElement x0 x3 s5) (fun v8 s7 => pw_ck v8 0 (if v8 = 0 then mj_W_set_22 x0 s7 else (pw_gr 9 x0 1 s7).bind (fun v9 => (pw_gr 9 x0 0 s7).bind (fun v10 => pw_bd (mf_H_keep v9 v10 s7) (fun _ s11 => (pw_gr 9 x0 0 s11).bind (fun v12 => (pw_gr 7 v12 1 s11).bind (fun v13 => (pw_ar 13 v13 x1 s11).bind (fun v14 => (pw_ai v14 x2 s11).bind (fun v15 => (pw_gr 9 x0 0 s11).bind (fun v16 => (pw_gr 7 v16 1 s11).bind (fun v17 => (pw_ar 13 v17 x1 s11).bind (fun v18 => (pw_si v18 x2 x3 s11).bind (fun s19 => some (v15, s19)))))))))))))))))))
set_option maxHeartbeats 4000000 in
set_option maxRecDepth 20000 in
theorem sj_W_set_22 {X : pw_X Int} (hX : pw_Ok X prog_1_method_3_code "PadeWorkbench" mr_W_set 5) (hR : pw_RI X prog_1_method_3_code) (x0 : Nat) (σ : pw_Sto) : pw_Sp X 0 0 22 [(0, Value.ref x0)] [] σ (mj_W_set_22 x0 σ) := by
  unfold mj_W_set_22
  refine sp_aload_n (pc := 22) (k := 0) (i := 0) hX rfl 0 rfl md_W_set_22 ?_
  refine sp_bipush (pc := 23) hX (by decide) md_W_set_23 ?_
  refine sp_callVI (pc := 25) (y := my_W_fail) (ccy := prog_1_method_37_code) (nLy := 3) (ret := (some .int)) (rmy := mr_W_fail) (n := 1) (idx := 79) (As := [.int (iI (-2 : Int))]) (st := []) (o := x0) (cells' := 0) (slots' := 0) hX (fun _ h => mc_W_fail h) mk_W_fail mv_W_fail mcl_9 (fun _ h => pw_gd_of h) mq_325 ⟨(Nat.le_of_ble_eq_true rfl), (Nat.le_of_ble_eq_true rfl)⟩ rfl rfl (Nat.le_of_ble_eq_true rfl) ⟨(Nat.le_of_ble_eq_true rfl), (Nat.le_of_ble_eq_true rfl)⟩ rfl rfl md_W_set_25 (fun v4 s3 => ?_)
  exact sp_iret (pc := 28) hX hR rfl (Nat.le_of_ble_eq_true rfl) md_W_set_28
set_option maxHeartbeats 4000000 in
set_option maxRecDepth 20000 in
theorem mc_W_set {l : Launch} {E : pw_E} {σ : pw_Sto} {x0 : Nat} {x1 : Int} {x2 : Int} {x3 : Int} {out : Int × pw_Sto} (h : mf_W_set x0 x1 x2 x3 σ = some out) : pw_CI l E my_W_set prog_1_method_3_code 5 (some .int) mr_W_set [.ref x0, .int (iI x1), .int (iI x2), .int (iI x3)] σ out := by
  unfold mf_W_set at h
  refine pw_entryI (by decide) (Nat.le_of_ble_eq_true rfl) (pw_gd_val h) (fun X hX hR hI => ?_)
  change pw_Ok X prog_1_method_3_code "PadeWorkbench" mr_W_set 5 at hX
  show pw_Sp X 0 0 0 [(0, Value.ref x0), (1, Value.int (iI x1)), (2, Value.int (iI x2)), (3, Value.int (iI x3))] [] σ _
  refine sp_iload_n (pc := 0) (k := 1) (i := 1) hX rfl 1 rfl md_W_set_0 ?_
  refine sp_callSI (pc := 1) (y := my_W_isSlot) (ccy := prog_1_method_38_code) (nLy := 1) (ret := (some .boolean)) (rmy := mr_W_isSlot) (n := 1) (idx := 95) (As := [.int (iI x1)]) (st := []) (cells' := 0) (slots' := 0) hX (fun _ h => mc_W_isSlot h) mk_W_isSlot mq_352 mq_351 ⟨(Nat.le_of_ble_eq_true rfl), (Nat.le_of_ble_eq_true rfl)⟩ rfl rfl (Nat.le_of_ble_eq_true rfl) ⟨(Nat.le_of_ble_eq_true rfl), (Nat.le_of_ble_eq_true rfl)⟩ rfl rfl md_W_set_1 (fun v2 s1 => ?_)
  refine sp_if_eq (pc := 4) hX 22 (by decide) md_W_set_4 (fun _ => ?_) (fun _ => ?_)
  · refine sp_sub [0] (L' := [(0, Value.ref x0)]) rfl ?_
    exact sj_W_set_22 hX hR x0 s1
  · refine sp_iload_n (pc := 7) (k := 2) (i := 2) hX rfl 2 rfl md_W_set_7 ?_
    refine sp_callSI (pc := 8) (y := my_W_isTerm) (ccy := prog_1_method_39_code) (nLy := 1) (ret := (some .boolean)) (rmy := mr_W_isTerm) (n := 1) (idx := 98) (As := [.int (iI x2)]) (st := []) (cells' := 0) (slots' := 0) hX (fun _ h => mc_W_isTerm h) mk_W_isTerm mq_355 mq_354 ⟨(Nat.le_of_ble_eq_true rfl), (Nat.le_of_ble_eq_true rfl)⟩ rfl rfl (Nat.le_of_ble_eq_true rfl) ⟨(Nat.le_of_ble_eq_true rfl), (Nat.le_of_ble_eq_true rfl)⟩ rfl rfl md_W_set_8 (fun v6 s5 => ?_)
    refine sp_if_eq (pc := 11) hX 22 (by decide) md_W_set_11 (fun _ => ?_) (fun _ => ?_)
    · refine sp_sub [0] (L' := [(0, Value.ref x0)]) rfl ?_
      exact sj_W_set_22 hX hR x0 s5
    · refine sp_aload_n (pc := 14) (k := 0) (i := 0) hX rfl 0 rfl md_W_set_14 ?_
      refine sp_iload_n (pc := 15) (k := 3) (i := 3) hX rfl 3 rfl md_W_set_15 ?_
      refine sp_callVI (pc := 16) (y := my_W_isElement) (ccy := prog_1_method_40_code) (nLy := 2) (ret := (some .boolean)) (rmy := mr_W_isElement) (n := 1) (idx := 101) (As := [.int (iI x3)]) (st := []) (o := x0) (cells' := 0) (slots' := 0) hX (fun _ h => mc_W_isElement h) mk_W_isElement mv_W_isElement mcl_9 (fun _ h => pw_gd_of h) mq_357 ⟨(Nat.le_of_ble_eq_true rfl), (Nat.le_of_ble_eq_true rfl)⟩ rfl rfl (Nat.le_of_ble_eq_true rfl) ⟨(Nat.le_of_ble_eq_true rfl), (Nat.le_of_ble_eq_true rfl)⟩ rfl rfl md_W_set_16 (fun v8 s7 => ?_)
      refine sp_if_ne (pc := 19) hX 29 (by decide) md_W_set_19 (fun _ => ?_) (fun _ => ?_)
      · refine sp_sub [0] (L' := [(0, Value.ref x0)]) rfl ?_
        exact sj_W_set_22 hX hR x0 s7
      · refine sp_aload_n (pc := 29) (k := 0) (i := 0) hX rfl 0 rfl md_W_set_29 ?_
        refine sp_getR (pc := 30) (ci := 9) (k := 1) (idx := 19) hX mcl_9 (by decide) mq_285 rfl md_W_set_30 (fun v9 => ?_)
        refine sp_aload_n (pc := 33) (k := 0) (i := 0) hX rfl 0 rfl md_W_set_33 ?_
        refine sp_getR (pc := 34) (ci := 9) (k := 0) (idx := 10) hX mcl_9 (by decide) mq_284 rfl md_W_set_34 (fun v10 => ?_)
        refine sp_callVV (pc := 37) (y := my_H_keep) (ccy := prog_6_method_2_code) (nLy := 2) (ret := none) (rmy := mr_H_keep) (n := 1) (idx := 87) (As := [.ref v10]) (st := []) (o := v9) (cells' := 0) (slots' := 0) hX (fun _ h => mc_H_keep h) mk_H_keep mv_H_keep mcl_3 (fun _ h => pw_gd_of h) mq_329 ⟨(Nat.le_of_ble_eq_true rfl), (Nat.le_of_ble_eq_true rfl)⟩ rfl rfl (Nat.le_of_ble_eq_true rfl) ⟨(Nat.le_of_ble_eq_true rfl), (Nat.le_of_ble_eq_true rfl)⟩ rfl rfl md_W_set_37 (fun s11 => ?_)
        refine sp_aload_n (pc := 40) (k := 0) (i := 0) hX rfl 0 rfl md_W_set_40 ?_
        refine sp_getR (pc := 41) (ci := 9) (k := 0) (idx := 10) hX mcl_9 (by decide) mq_284 rfl md_W_set_41 (fun v12 => ?_)
        refine sp_getRN (pc := 44) (ci := 7) (k := 1) (idx := 104) hX mcl_7 (by decide) mn_104 rfl md_W_set_44 (fun v13 => ?_)
        refine sp_iload_n (pc := 47) (k := 1) (i := 1) hX rfl 1 rfl md_W_set_47 ?_
        refine sp_aaG (pc := 48) hX md_W_set_48 (fun v14 => ?_)
        refine sp_iload_n (pc := 49) (k := 2) (i := 2) hX rfl 2 rfl md_W_set_49 ?_
        refine sp_iaload (pc := 50) hX md_W_set_50 (fun v15 => ?_)
        refine sp_istore (pc := 51) (i := 4) (L' := [(4, Value.int (iI v15)), (0, Value.ref x0), (1, Value.int (iI x1)), (2, Value.int (iI x2)), (3, Value.int (iI x3))]) hX (by decide) rfl md_W_set_51 ?_
        refine sp_aload_n (pc := 53) (k := 0) (i := 0) hX rfl 1 rfl md_W_set_53 ?_
        refine sp_getR (pc := 54) (ci := 9) (k := 0) (idx := 10) hX mcl_9 (by decide) mq_284 rfl md_W_set_54 (fun v16 => ?_)
        refine sp_getRN (pc := 57) (ci := 7) (k := 1) (idx := 104) hX mcl_7 (by decide) mn_104 rfl md_W_set_57 (fun v17 => ?_)
        refine sp_iload_n (pc := 60) (k := 1) (i := 1) hX rfl 2 rfl md_W_set_60 ?_
        refine sp_aaG (pc := 61) hX md_W_set_61 (fun v18 => ?_)
        refine sp_iload_n (pc := 62) (k := 2) (i := 2) hX rfl 3 rfl md_W_set_62 ?_
        refine sp_iload_n (pc := 63) (k := 3) (i := 3) hX rfl 4 rfl md_W_set_63 ?_
        refine sp_iastore (pc := 64) hX md_W_set_64 (fun s19 => ?_)
        refine sp_iload (pc := 65) (i := 4) hX 0 rfl md_W_set_65 ?_
        exact sp_iret (pc := 67) hX hR rfl (Nat.le_of_ble_eq_true rfl) md_W_set_67
/-! PadeWorkbench.coefficient(II)I -/
theorem md_W_coefficient_0 : decode prog_1_method_4_code 0 = .ok (.iload_n 1, 1) := by decide +kernel
theorem md_W_coefficient_1 : decode prog_1_method_4_code 1 = .ok (.invokestatic 95, 3) := by decide +kernel
theorem md_W_coefficient_4 : decode prog_1_method_4_code 4 = .ok (.ifCond .eq 10, 3) := by decide +kernel
theorem md_W_coefficient_14 : decode prog_1_method_4_code 14 = .ok (.aload_n 0, 1) := by decide +kernel
theorem md_W_coefficient_15 : decode prog_1_method_4_code 15 = .ok (.bipush (-2), 2) := by decide +kernel
theorem md_W_coefficient_17 : decode prog_1_method_4_code 17 = .ok (.invokevirtual 79, 3) := by decide +kernel
theorem md_W_coefficient_20 : decode prog_1_method_4_code 20 = .ok (.ireturn, 1) := by decide +kernel
theorem md_W_coefficient_7 : decode prog_1_method_4_code 7 = .ok (.iload_n 2, 1) := by decide +kernel
theorem md_W_coefficient_8 : decode prog_1_method_4_code 8 = .ok (.invokestatic 98, 3) := by decide +kernel
theorem md_W_coefficient_11 : decode prog_1_method_4_code 11 = .ok (.ifCond .ne 10, 3) := by decide +kernel
theorem md_W_coefficient_21 : decode prog_1_method_4_code 21 = .ok (.aload_n 0, 1) := by decide +kernel
theorem md_W_coefficient_22 : decode prog_1_method_4_code 22 = .ok (.getfield 10, 3) := by decide +kernel
theorem md_W_coefficient_25 : decode prog_1_method_4_code 25 = .ok (.getfield 104, 3) := by decide +kernel
theorem md_W_coefficient_28 : decode prog_1_method_4_code 28 = .ok (.iload_n 1, 1) := by decide +kernel
theorem md_W_coefficient_29 : decode prog_1_method_4_code 29 = .ok (.aaload, 1) := by decide +kernel
theorem md_W_coefficient_30 : decode prog_1_method_4_code 30 = .ok (.iload_n 2, 1) := by decide +kernel
theorem md_W_coefficient_31 : decode prog_1_method_4_code 31 = .ok (.iaload, 1) := by decide +kernel
theorem md_W_coefficient_32 : decode prog_1_method_4_code 32 = .ok (.ireturn, 1) := by decide +kernel
def mj_W_coefficient_14 (x0 : Nat) (σ : pw_Sto) : Option (Int × pw_Sto) := pw_bd (mf_W_fail x0 (-2 : Int) σ) (fun v4 s3 => some (v4, s3))
def mf_W_coefficient (x0 : Nat) (x1 : Int) (x2 : Int) (σ : pw_Sto) : Option (Int × pw_Sto) := pw_gd 9 x0 σ (pw_bd (mf_W_isSlot x1 σ) (fun v2 s1 => pw_ck v2 0 (if v2 = 0 then mj_W_coefficient_14 x0 s1 else pw_bd (mf_W_isTerm x2 s1) (fun v6 s5 => pw_ck v6 0 (if v6 = 0 then mj_W_coefficient_14 x0 s5 else (pw_gr 9 x0 0 s5).bind (fun v7 => (pw_gr 7 v7 1 s5).bind (fun v8 => (pw_ar 13 v8 x1 s5).bind (fun v9 => (pw_ai v9 x2 s5).bind (fun v10 => some (v10, s5))))))))))
set_option maxHeartbeats 4000000 in
set_option maxRecDepth 20000 in
theorem sj_W_coefficient_14 {X : pw_X Int} (hX : pw_Ok X prog_1_method_4_code "PadeWorkbench" mr_W_coefficient 3) (hR : pw_RI X prog_1_method_4_code) (x0 : Nat) (σ : pw_Sto) : pw_Sp X 0 0 14 [(0, Value.ref x0)] [] σ (mj_W_coefficient_14 x0 σ) := by
  unfold mj_W_coefficient_14
  refine sp_aload_n (pc := 14) (k := 0) (i := 0) hX rfl 0 rfl md_W_coefficient_14 ?_
  refine sp_bipush (pc := 15) hX (by decide) md_W_coefficient_15 ?_
  refine sp_callVI (pc := 17) (y := my_W_fail) (ccy := prog_1_method_37_code) (nLy := 3) (ret := (some .int)) (rmy := mr_W_fail) (n := 1) (idx := 79) (As := [.int (iI (-2 : Int))]) (st := []) (o := x0) (cells' := 0) (slots' := 0) hX (fun _ h => mc_W_fail h) mk_W_fail mv_W_fail mcl_9 (fun _ h => pw_gd_of h) mq_325 ⟨(Nat.le_of_ble_eq_true rfl), (Nat.le_of_ble_eq_true rfl)⟩ rfl rfl (Nat.le_of_ble_eq_true rfl) ⟨(Nat.le_of_ble_eq_true rfl), (Nat.le_of_ble_eq_true rfl)⟩ rfl rfl md_W_coefficient_17 (fun v4 s3 => ?_)
  exact sp_iret (pc := 20) hX hR rfl (Nat.le_of_ble_eq_true rfl) md_W_coefficient_20
set_option maxHeartbeats 4000000 in
set_option maxRecDepth 20000 in
theorem mc_W_coefficient {l : Launch} {E : pw_E} {σ : pw_Sto} {x0 : Nat} {x1 : Int} {x2 : Int} {out : Int × pw_Sto} (h : mf_W_coefficient x0 x1 x2 σ = some out) : pw_CI l E my_W_coefficient prog_1_method_4_code 3 (some .int) mr_W_coefficient [.ref x0, .int (iI x1), .int (iI x2)] σ out := by
  unfold mf_W_coefficient at h
  refine pw_entryI (by decide) (Nat.le_of_ble_eq_true rfl) (pw_gd_val h) (fun X hX hR hI => ?_)
  change pw_Ok X prog_1_method_4_code "PadeWorkbench" mr_W_coefficient 3 at hX
  show pw_Sp X 0 0 0 [(0, Value.ref x0), (1, Value.int (iI x1)), (2, Value.int (iI x2))] [] σ _
  refine sp_iload_n (pc := 0) (k := 1) (i := 1) hX rfl 1 rfl md_W_coefficient_0 ?_
  refine sp_callSI (pc := 1) (y := my_W_isSlot) (ccy := prog_1_method_38_code) (nLy := 1) (ret := (some .boolean)) (rmy := mr_W_isSlot) (n := 1) (idx := 95) (As := [.int (iI x1)]) (st := []) (cells' := 0) (slots' := 0) hX (fun _ h => mc_W_isSlot h) mk_W_isSlot mq_352 mq_351 ⟨(Nat.le_of_ble_eq_true rfl), (Nat.le_of_ble_eq_true rfl)⟩ rfl rfl (Nat.le_of_ble_eq_true rfl) ⟨(Nat.le_of_ble_eq_true rfl), (Nat.le_of_ble_eq_true rfl)⟩ rfl rfl md_W_coefficient_1 (fun v2 s1 => ?_)
  refine sp_if_eq (pc := 4) hX 14 (by decide) md_W_coefficient_4 (fun _ => ?_) (fun _ => ?_)
  · refine sp_sub [0] (L' := [(0, Value.ref x0)]) rfl ?_
    exact sj_W_coefficient_14 hX hR x0 s1
  · refine sp_iload_n (pc := 7) (k := 2) (i := 2) hX rfl 2 rfl md_W_coefficient_7 ?_
    refine sp_callSI (pc := 8) (y := my_W_isTerm) (ccy := prog_1_method_39_code) (nLy := 1) (ret := (some .boolean)) (rmy := mr_W_isTerm) (n := 1) (idx := 98) (As := [.int (iI x2)]) (st := []) (cells' := 0) (slots' := 0) hX (fun _ h => mc_W_isTerm h) mk_W_isTerm mq_355 mq_354 ⟨(Nat.le_of_ble_eq_true rfl), (Nat.le_of_ble_eq_true rfl)⟩ rfl rfl (Nat.le_of_ble_eq_true rfl) ⟨(Nat.le_of_ble_eq_true rfl), (Nat.le_of_ble_eq_true rfl)⟩ rfl rfl md_W_coefficient_8 (fun v6 s5 => ?_)
    refine sp_if_ne (pc := 11) hX 21 (by decide) md_W_coefficient_11 (fun _ => ?_) (fun _ => ?_)
    · refine sp_sub [0] (L' := [(0, Value.ref x0)]) rfl ?_
      exact sj_W_coefficient_14 hX hR x0 s5
    · refine sp_aload_n (pc := 21) (k := 0) (i := 0) hX rfl 0 rfl md_W_coefficient_21 ?_
      refine sp_getR (pc := 22) (ci := 9) (k := 0) (idx := 10) hX mcl_9 (by decide) mq_284 rfl md_W_coefficient_22 (fun v7 => ?_)
      refine sp_getRN (pc := 25) (ci := 7) (k := 1) (idx := 104) hX mcl_7 (by decide) mn_104 rfl md_W_coefficient_25 (fun v8 => ?_)
      refine sp_iload_n (pc := 28) (k := 1) (i := 1) hX rfl 1 rfl md_W_coefficient_28 ?_
      refine sp_aaG (pc := 29) hX md_W_coefficient_29 (fun v9 => ?_)
      refine sp_iload_n (pc := 30) (k := 2) (i := 2) hX rfl 2 rfl md_W_coefficient_30 ?_
      refine sp_iaload (pc := 31) hX md_W_coefficient_31 (fun v10 => ?_)
      exact sp_iret (pc := 32) hX hR rfl (Nat.le_of_ble_eq_true rfl) md_W_coefficient_32
/-! PadeWorkbench.store(I)I -/
theorem md_W_store_0 : decode prog_1_method_45_code 0 = .ok (.aload_n 0, 1) := by decide +kernel
theorem md_W_store_1 : decode prog_1_method_45_code 1 = .ok (.getfield 19, 3) := by decide +kernel
theorem md_W_store_4 : decode prog_1_method_45_code 4 = .ok (.aload_n 0, 1) := by decide +kernel
theorem md_W_store_5 : decode prog_1_method_45_code 5 = .ok (.getfield 10, 3) := by decide +kernel
theorem md_W_store_8 : decode prog_1_method_45_code 8 = .ok (.invokevirtual 87, 3) := by decide +kernel
theorem md_W_store_11 : decode prog_1_method_45_code 11 = .ok (.aload_n 0, 1) := by decide +kernel
theorem md_W_store_12 : decode prog_1_method_45_code 12 = .ok (.getfield 65, 3) := by decide +kernel
theorem md_W_store_15 : decode prog_1_method_45_code 15 = .ok (.iconst 0, 1) := by decide +kernel
theorem md_W_store_16 : decode prog_1_method_45_code 16 = .ok (.aload_n 0, 1) := by decide +kernel
theorem md_W_store_17 : decode prog_1_method_45_code 17 = .ok (.getfield 10, 3) := by decide +kernel
theorem md_W_store_20 : decode prog_1_method_45_code 20 = .ok (.getfield 104, 3) := by decide +kernel
theorem md_W_store_23 : decode prog_1_method_45_code 23 = .ok (.iload_n 1, 1) := by decide +kernel
theorem md_W_store_24 : decode prog_1_method_45_code 24 = .ok (.aaload, 1) := by decide +kernel
theorem md_W_store_25 : decode prog_1_method_45_code 25 = .ok (.iconst 0, 1) := by decide +kernel
theorem md_W_store_26 : decode prog_1_method_45_code 26 = .ok (.bipush 16, 2) := by decide +kernel
theorem md_W_store_28 : decode prog_1_method_45_code 28 = .ok (.invokestatic 270, 3) := by decide +kernel
theorem md_W_store_31 : decode prog_1_method_45_code 31 = .ok (.aload_n 0, 1) := by decide +kernel
theorem md_W_store_32 : decode prog_1_method_45_code 32 = .ok (.getfield 65, 3) := by decide +kernel
theorem md_W_store_35 : decode prog_1_method_45_code 35 = .ok (.invokestatic 276, 3) := by decide +kernel
theorem md_W_store_38 : decode prog_1_method_45_code 38 = .ok (.ireturn, 1) := by decide +kernel
def mf_W_store (x0 : Nat) (x1 : Int) (σ : pw_Sto) : Option (Int × pw_Sto) := pw_gd 9 x0 σ ((pw_gr 9 x0 1 σ).bind (fun v1 => (pw_gr 9 x0 0 σ).bind (fun v2 => pw_bd (mf_H_keep v1 v2 σ) (fun _ s3 => (pw_gr 9 x0 8 s3).bind (fun v4 => (pw_gr 9 x0 0 s3).bind (fun v5 => (pw_gr 7 v5 1 s3).bind (fun v6 => (pw_ar 13 v6 x1 s3).bind (fun v7 => (pw_cp v4 (0 : Int) v7 (0 : Int) (16 : Int) s3).bind (fun s8 => (pw_gr 9 x0 8 s8).bind (fun v9 => pw_bd (mf_S_countOfNonZero v9 s8) (fun v11 s10 => some (v11, s10))))))))))))
set_option maxHeartbeats 4000000 in
set_option maxRecDepth 20000 in
theorem mc_W_store {l : Launch} {E : pw_E} {σ : pw_Sto} {x0 : Nat} {x1 : Int} {out : Int × pw_Sto} (h : mf_W_store x0 x1 σ = some out) : pw_CI l E my_W_store prog_1_method_45_code 2 (some .int) mr_W_store [.ref x0, .int (iI x1)] σ out := by
  unfold mf_W_store at h
  refine pw_entryI (by decide) (Nat.le_of_ble_eq_true rfl) (pw_gd_val h) (fun X hX hR hI => ?_)
  change pw_Ok X prog_1_method_45_code "PadeWorkbench" mr_W_store 2 at hX
  show pw_Sp X 0 0 0 [(0, Value.ref x0), (1, Value.int (iI x1))] [] σ _
  refine sp_aload_n (pc := 0) (k := 0) (i := 0) hX rfl 0 rfl md_W_store_0 ?_
  refine sp_getR (pc := 1) (ci := 9) (k := 1) (idx := 19) hX mcl_9 (by decide) mq_285 rfl md_W_store_1 (fun v1 => ?_)
  refine sp_aload_n (pc := 4) (k := 0) (i := 0) hX rfl 0 rfl md_W_store_4 ?_
  refine sp_getR (pc := 5) (ci := 9) (k := 0) (idx := 10) hX mcl_9 (by decide) mq_284 rfl md_W_store_5 (fun v2 => ?_)
  refine sp_callVV (pc := 8) (y := my_H_keep) (ccy := prog_6_method_2_code) (nLy := 2) (ret := none) (rmy := mr_H_keep) (n := 1) (idx := 87) (As := [.ref v2]) (st := []) (o := v1) (cells' := 0) (slots' := 0) hX (fun _ h => mc_H_keep h) mk_H_keep mv_H_keep mcl_3 (fun _ h => pw_gd_of h) mq_329 ⟨(Nat.le_of_ble_eq_true rfl), (Nat.le_of_ble_eq_true rfl)⟩ rfl rfl (Nat.le_of_ble_eq_true rfl) ⟨(Nat.le_of_ble_eq_true rfl), (Nat.le_of_ble_eq_true rfl)⟩ rfl rfl md_W_store_8 (fun s3 => ?_)
  refine sp_aload_n (pc := 11) (k := 0) (i := 0) hX rfl 0 rfl md_W_store_11 ?_
  refine sp_getR (pc := 12) (ci := 9) (k := 8) (idx := 65) hX mcl_9 (by decide) mq_292 rfl md_W_store_12 (fun v4 => ?_)
  refine sp_iconst (pc := 15) hX md_W_store_15 ?_
  refine sp_aload_n (pc := 16) (k := 0) (i := 0) hX rfl 0 rfl md_W_store_16 ?_
  refine sp_getR (pc := 17) (ci := 9) (k := 0) (idx := 10) hX mcl_9 (by decide) mq_284 rfl md_W_store_17 (fun v5 => ?_)
  refine sp_getRN (pc := 20) (ci := 7) (k := 1) (idx := 104) hX mcl_7 (by decide) mn_104 rfl md_W_store_20 (fun v6 => ?_)
  refine sp_iload_n (pc := 23) (k := 1) (i := 1) hX rfl 1 rfl md_W_store_23 ?_
  refine sp_aaG (pc := 24) hX md_W_store_24 (fun v7 => ?_)
  refine sp_iconst (pc := 25) hX md_W_store_25 ?_
  refine sp_bipush (pc := 26) hX (by decide) md_W_store_26 ?_
  refine sp_copy (pc := 28) (idx := 270) hX mq_379 mq_339 mq_338 mq_80 (Nat.le_of_ble_eq_true rfl) (Nat.le_of_ble_eq_true rfl) md_W_store_28 (fun s8 => ?_)
  refine sp_aload_n (pc := 31) (k := 0) (i := 0) hX rfl 0 rfl md_W_store_31 ?_
  refine sp_getR (pc := 32) (ci := 9) (k := 8) (idx := 65) hX mcl_9 (by decide) mq_292 rfl md_W_store_32 (fun v9 => ?_)
  refine sp_callSI (pc := 35) (y := my_S_countOfNonZero) (ccy := prog_10_method_6_code) (nLy := 3) (ret := (some .int)) (rmy := mr_S_countOfNonZero) (n := 1) (idx := 276) (As := [.ref v9]) (st := []) (cells' := 0) (slots' := 0) hX (fun _ h => mc_S_countOfNonZero h) mk_S_countOfNonZero mq_381 mq_380 ⟨(Nat.le_of_ble_eq_true rfl), (Nat.le_of_ble_eq_true rfl)⟩ rfl rfl (Nat.le_of_ble_eq_true rfl) ⟨(Nat.le_of_ble_eq_true rfl), (Nat.le_of_ble_eq_true rfl)⟩ rfl rfl md_W_store_35 (fun v11 s10 => ?_)
  exact sp_iret (pc := 38) hX hR rfl (Nat.le_of_ble_eq_true rfl) md_W_store_38
/-! PadeWorkbench.add(III)I -/
theorem md_W_add_0 : decode prog_1_method_5_code 0 = .ok (.iload_n 1, 1) := by decide +kernel
theorem md_W_add_1 : decode prog_1_method_5_code 1 = .ok (.invokestatic 95, 3) := by decide +kernel
theorem md_W_add_4 : decode prog_1_method_5_code 4 = .ok (.ifCond .eq 17, 3) := by decide +kernel
theorem md_W_add_21 : decode prog_1_method_5_code 21 = .ok (.aload_n 0, 1) := by decide +kernel
theorem md_W_add_22 : decode prog_1_method_5_code 22 = .ok (.bipush (-2), 2) := by decide +kernel
theorem md_W_add_24 : decode prog_1_method_5_code 24 = .ok (.invokevirtual 79, 3) := by decide +kernel
theorem md_W_add_27 : decode prog_1_method_5_code 27 = .ok (.ireturn, 1) := by decide +kernel
theorem md_W_add_7 : decode prog_1_method_5_code 7 = .ok (.iload_n 2, 1) := by decide +kernel
theorem md_W_add_8 : decode prog_1_method_5_code 8 = .ok (.invokestatic 95, 3) := by decide +kernel
theorem md_W_add_11 : decode prog_1_method_5_code 11 = .ok (.ifCond .eq 10, 3) := by decide +kernel
theorem md_W_add_14 : decode prog_1_method_5_code 14 = .ok (.iload_n 3, 1) := by decide +kernel
theorem md_W_add_15 : decode prog_1_method_5_code 15 = .ok (.invokestatic 95, 3) := by decide +kernel
theorem md_W_add_18 : decode prog_1_method_5_code 18 = .ok (.ifCond .ne 10, 3) := by decide +kernel
theorem md_W_add_28 : decode prog_1_method_5_code 28 = .ok (.aload_n 0, 1) := by decide +kernel
theorem md_W_add_29 : decode prog_1_method_5_code 29 = .ok (.getfield 10, 3) := by decide +kernel
theorem md_W_add_32 : decode prog_1_method_5_code 32 = .ok (.getfield 104, 3) := by decide +kernel
theorem md_W_add_35 : decode prog_1_method_5_code 35 = .ok (.iload_n 1, 1) := by decide +kernel
theorem md_W_add_36 : decode prog_1_method_5_code 36 = .ok (.aaload, 1) := by decide +kernel
theorem md_W_add_37 : decode prog_1_method_5_code 37 = .ok (.aload_n 0, 1) := by decide +kernel
theorem md_W_add_38 : decode prog_1_method_5_code 38 = .ok (.getfield 10, 3) := by decide +kernel
theorem md_W_add_41 : decode prog_1_method_5_code 41 = .ok (.getfield 104, 3) := by decide +kernel
theorem md_W_add_44 : decode prog_1_method_5_code 44 = .ok (.iload_n 2, 1) := by decide +kernel
theorem md_W_add_45 : decode prog_1_method_5_code 45 = .ok (.aaload, 1) := by decide +kernel
theorem md_W_add_46 : decode prog_1_method_5_code 46 = .ok (.aload_n 0, 1) := by decide +kernel
theorem md_W_add_47 : decode prog_1_method_5_code 47 = .ok (.getfield 65, 3) := by decide +kernel
theorem md_W_add_50 : decode prog_1_method_5_code 50 = .ok (.aload_n 0, 1) := by decide +kernel
theorem md_W_add_51 : decode prog_1_method_5_code 51 = .ok (.getfield 10, 3) := by decide +kernel
theorem md_W_add_54 : decode prog_1_method_5_code 54 = .ok (.getfield 83, 3) := by decide +kernel
theorem md_W_add_57 : decode prog_1_method_5_code 57 = .ok (.invokestatic 108, 3) := by decide +kernel
theorem md_W_add_60 : decode prog_1_method_5_code 60 = .ok (.aload_n 0, 1) := by decide +kernel
theorem md_W_add_61 : decode prog_1_method_5_code 61 = .ok (.iload_n 3, 1) := by decide +kernel
theorem md_W_add_62 : decode prog_1_method_5_code 62 = .ok (.invokevirtual 114, 3) := by decide +kernel
theorem md_W_add_65 : decode prog_1_method_5_code 65 = .ok (.ireturn, 1) := by decide +kernel
def mj_W_add_21 (x0 : Nat) (σ : pw_Sto) : Option (Int × pw_Sto) := pw_bd (mf_W_fail x0 (-2 : Int) σ) (fun v4 s3 => some (v4, s3))
def mf_W_add (x0 : Nat) (x1 : Int) (x2 : Int) (x3 : Int) (σ : pw_Sto) : Option (Int × pw_Sto) := pw_gd 9 x0 σ (pw_bd (mf_W_isSlot x1 σ) (fun v2 s1 => pw_ck v2 0 (if v2 = 0 then mj_W_add_21 x0 s1 else pw_bd (mf_W_isSlot x2 s1) (fun v6 s5 => pw_ck v6 0 (if v6 = 0 then mj_W_add_21 x0 s5 else pw_bd (mf_W_isSlot x3 s5) (fun v8 s7 => pw_ck v8 0 (if v8 = 0 then mj_W_add_21 x0 s7 else (pw_gr 9 x0 0 s7).bind (fun v9 => (pw_gr 7 v9 1 s7).bind (fun v10 => (pw_ar 13 v10 x1 s7).bind (fun v11 => (pw_gr 9 x0 0 s7).bind (fun v12 => (pw_gr 7 v12 1 s7).bind (fun v13 => (pw_ar 13 v13 x2 s7).bind (fun v14 => (pw_gr 9 x0 8 s7).bind (fun v15 => (pw_gr 9 x0 0 s7).bind (fun v16 => (pw_gi 7 v16 0 s7).bind (fun v17 => pw_bd (mf_S_sum v11 v14 v15 v17 s7) (fun _ s18 => pw_bd (mf_W_store x0 x3 s18) (fun v20 s19 => some (v20, s19)))))))))))))))))))
set_option maxHeartbeats 4000000 in
set_option maxRecDepth 20000 in
theorem sj_W_add_21 {X : pw_X Int} (hX : pw_Ok X prog_1_method_5_code "PadeWorkbench" mr_W_add 4) (hR : pw_RI X prog_1_method_5_code) (x0 : Nat) (σ : pw_Sto) : pw_Sp X 0 0 21 [(0, Value.ref x0)] [] σ (mj_W_add_21 x0 σ) := by
  unfold mj_W_add_21
  refine sp_aload_n (pc := 21) (k := 0) (i := 0) hX rfl 0 rfl md_W_add_21 ?_
  refine sp_bipush (pc := 22) hX (by decide) md_W_add_22 ?_
  refine sp_callVI (pc := 24) (y := my_W_fail) (ccy := prog_1_method_37_code) (nLy := 3) (ret := (some .int)) (rmy := mr_W_fail) (n := 1) (idx := 79) (As := [.int (iI (-2 : Int))]) (st := []) (o := x0) (cells' := 0) (slots' := 0) hX (fun _ h => mc_W_fail h) mk_W_fail mv_W_fail mcl_9 (fun _ h => pw_gd_of h) mq_325 ⟨(Nat.le_of_ble_eq_true rfl), (Nat.le_of_ble_eq_true rfl)⟩ rfl rfl (Nat.le_of_ble_eq_true rfl) ⟨(Nat.le_of_ble_eq_true rfl), (Nat.le_of_ble_eq_true rfl)⟩ rfl rfl md_W_add_24 (fun v4 s3 => ?_)
  exact sp_iret (pc := 27) hX hR rfl (Nat.le_of_ble_eq_true rfl) md_W_add_27
set_option maxHeartbeats 4000000 in
set_option maxRecDepth 20000 in
theorem mc_W_add {l : Launch} {E : pw_E} {σ : pw_Sto} {x0 : Nat} {x1 : Int} {x2 : Int} {x3 : Int} {out : Int × pw_Sto} (h : mf_W_add x0 x1 x2 x3 σ = some out) : pw_CI l E my_W_add prog_1_method_5_code 4 (some .int) mr_W_add [.ref x0, .int (iI x1), .int (iI x2), .int (iI x3)] σ out := by
  unfold mf_W_add at h
  refine pw_entryI (by decide) (Nat.le_of_ble_eq_true rfl) (pw_gd_val h) (fun X hX hR hI => ?_)
  change pw_Ok X prog_1_method_5_code "PadeWorkbench" mr_W_add 4 at hX
  show pw_Sp X 0 0 0 [(0, Value.ref x0), (1, Value.int (iI x1)), (2, Value.int (iI x2)), (3, Value.int (iI x3))] [] σ _
  refine sp_iload_n (pc := 0) (k := 1) (i := 1) hX rfl 1 rfl md_W_add_0 ?_
  refine sp_callSI (pc := 1) (y := my_W_isSlot) (ccy := prog_1_method_38_code) (nLy := 1) (ret := (some .boolean)) (rmy := mr_W_isSlot) (n := 1) (idx := 95) (As := [.int (iI x1)]) (st := []) (cells' := 0) (slots' := 0) hX (fun _ h => mc_W_isSlot h) mk_W_isSlot mq_352 mq_351 ⟨(Nat.le_of_ble_eq_true rfl), (Nat.le_of_ble_eq_true rfl)⟩ rfl rfl (Nat.le_of_ble_eq_true rfl) ⟨(Nat.le_of_ble_eq_true rfl), (Nat.le_of_ble_eq_true rfl)⟩ rfl rfl md_W_add_1 (fun v2 s1 => ?_)
  refine sp_if_eq (pc := 4) hX 21 (by decide) md_W_add_4 (fun _ => ?_) (fun _ => ?_)
  · refine sp_sub [0] (L' := [(0, Value.ref x0)]) rfl ?_
    exact sj_W_add_21 hX hR x0 s1
  · refine sp_iload_n (pc := 7) (k := 2) (i := 2) hX rfl 2 rfl md_W_add_7 ?_
    refine sp_callSI (pc := 8) (y := my_W_isSlot) (ccy := prog_1_method_38_code) (nLy := 1) (ret := (some .boolean)) (rmy := mr_W_isSlot) (n := 1) (idx := 95) (As := [.int (iI x2)]) (st := []) (cells' := 0) (slots' := 0) hX (fun _ h => mc_W_isSlot h) mk_W_isSlot mq_352 mq_351 ⟨(Nat.le_of_ble_eq_true rfl), (Nat.le_of_ble_eq_true rfl)⟩ rfl rfl (Nat.le_of_ble_eq_true rfl) ⟨(Nat.le_of_ble_eq_true rfl), (Nat.le_of_ble_eq_true rfl)⟩ rfl rfl md_W_add_8 (fun v6 s5 => ?_)
    refine sp_if_eq (pc := 11) hX 21 (by decide) md_W_add_11 (fun _ => ?_) (fun _ => ?_)
    · refine sp_sub [0] (L' := [(0, Value.ref x0)]) rfl ?_
      exact sj_W_add_21 hX hR x0 s5
    · refine sp_iload_n (pc := 14) (k := 3) (i := 3) hX rfl 3 rfl md_W_add_14 ?_
      refine sp_callSI (pc := 15) (y := my_W_isSlot) (ccy := prog_1_method_38_code) (nLy := 1) (ret := (some .boolean)) (rmy := mr_W_isSlot) (n := 1) (idx := 95) (As := [.int (iI x3)]) (st := []) (cells' := 0) (slots' := 0) hX (fun _ h => mc_W_isSlot h) mk_W_isSlot mq_352 mq_351 ⟨(Nat.le_of_ble_eq_true rfl), (Nat.le_of_ble_eq_true rfl)⟩ rfl rfl (Nat.le_of_ble_eq_true rfl) ⟨(Nat.le_of_ble_eq_true rfl), (Nat.le_of_ble_eq_true rfl)⟩ rfl rfl md_W_add_15 (fun v8 s7 => ?_)
      refine sp_if_ne (pc := 18) hX 28 (by decide) md_W_add_18 (fun _ => ?_) (fun _ => ?_)
      · refine sp_sub [0] (L' := [(0, Value.ref x0)]) rfl ?_
        exact sj_W_add_21 hX hR x0 s7
      · refine sp_aload_n (pc := 28) (k := 0) (i := 0) hX rfl 0 rfl md_W_add_28 ?_
        refine sp_getR (pc := 29) (ci := 9) (k := 0) (idx := 10) hX mcl_9 (by decide) mq_284 rfl md_W_add_29 (fun v9 => ?_)
        refine sp_getRN (pc := 32) (ci := 7) (k := 1) (idx := 104) hX mcl_7 (by decide) mn_104 rfl md_W_add_32 (fun v10 => ?_)
        refine sp_iload_n (pc := 35) (k := 1) (i := 1) hX rfl 1 rfl md_W_add_35 ?_
        refine sp_aaG (pc := 36) hX md_W_add_36 (fun v11 => ?_)
        refine sp_aload_n (pc := 37) (k := 0) (i := 0) hX rfl 0 rfl md_W_add_37 ?_
        refine sp_getR (pc := 38) (ci := 9) (k := 0) (idx := 10) hX mcl_9 (by decide) mq_284 rfl md_W_add_38 (fun v12 => ?_)
        refine sp_getRN (pc := 41) (ci := 7) (k := 1) (idx := 104) hX mcl_7 (by decide) mn_104 rfl md_W_add_41 (fun v13 => ?_)
        refine sp_iload_n (pc := 44) (k := 2) (i := 2) hX rfl 2 rfl md_W_add_44 ?_
        refine sp_aaG (pc := 45) hX md_W_add_45 (fun v14 => ?_)
        refine sp_aload_n (pc := 46) (k := 0) (i := 0) hX rfl 0 rfl md_W_add_46 ?_
        refine sp_getR (pc := 47) (ci := 9) (k := 8) (idx := 65) hX mcl_9 (by decide) mq_292 rfl md_W_add_47 (fun v15 => ?_)
        refine sp_aload_n (pc := 50) (k := 0) (i := 0) hX rfl 0 rfl md_W_add_50 ?_
        refine sp_getR (pc := 51) (ci := 9) (k := 0) (idx := 10) hX mcl_9 (by decide) mq_284 rfl md_W_add_51 (fun v16 => ?_)
        refine sp_getIN (pc := 54) (ci := 7) (k := 0) (idx := 83) hX mcl_7 (by decide) mn_101 rfl md_W_add_54 (fun v17 => ?_)
        refine sp_callSV (pc := 57) (y := my_S_sum) (ccy := prog_10_method_2_code) (nLy := 5) (ret := none) (rmy := mr_S_sum) (n := 4) (idx := 108) (As := [.ref v11, .ref v14, .ref v15, .int (iI v17)]) (st := []) (cells' := 0) (slots' := 0) hX (fun _ h => mc_S_sum h) mk_S_sum mq_370 mq_369 ⟨(Nat.le_of_ble_eq_true rfl), (Nat.le_of_ble_eq_true rfl)⟩ rfl rfl (Nat.le_of_ble_eq_true rfl) ⟨(Nat.le_of_ble_eq_true rfl), (Nat.le_of_ble_eq_true rfl)⟩ rfl rfl md_W_add_57 (fun s18 => ?_)
        refine sp_aload_n (pc := 60) (k := 0) (i := 0) hX rfl 0 rfl md_W_add_60 ?_
        refine sp_iload_n (pc := 61) (k := 3) (i := 3) hX rfl 3 rfl md_W_add_61 ?_
        refine sp_callVI (pc := 62) (y := my_W_store) (ccy := prog_1_method_45_code) (nLy := 2) (ret := (some .int)) (rmy := mr_W_store) (n := 1) (idx := 114) (As := [.int (iI x3)]) (st := []) (o := x0) (cells' := 0) (slots' := 0) hX (fun _ h => mc_W_store h) mk_W_store mv_W_store mcl_9 (fun _ h => pw_gd_of h) mq_375 ⟨(Nat.le_of_ble_eq_true rfl), (Nat.le_of_ble_eq_true rfl)⟩ rfl rfl (Nat.le_of_ble_eq_true rfl) ⟨(Nat.le_of_ble_eq_true rfl), (Nat.le_of_ble_eq_true rfl)⟩ rfl rfl md_W_add_62 (fun v20 s19 => ?_)
        exact sp_iret (pc := 65) hX hR rfl (Nat.le_of_ble_eq_true rfl) md_W_add_65
/-! PadeWorkbench.multiply(III)I -/
theorem md_W_multiply_0 : decode prog_1_method_6_code 0 = .ok (.iload_n 1, 1) := by decide +kernel
theorem md_W_multiply_1 : decode prog_1_method_6_code 1 = .ok (.invokestatic 95, 3) := by decide +kernel
theorem md_W_multiply_4 : decode prog_1_method_6_code 4 = .ok (.ifCond .eq 17, 3) := by decide +kernel
theorem md_W_multiply_21 : decode prog_1_method_6_code 21 = .ok (.aload_n 0, 1) := by decide +kernel
theorem md_W_multiply_22 : decode prog_1_method_6_code 22 = .ok (.bipush (-2), 2) := by decide +kernel
theorem md_W_multiply_24 : decode prog_1_method_6_code 24 = .ok (.invokevirtual 79, 3) := by decide +kernel
theorem md_W_multiply_27 : decode prog_1_method_6_code 27 = .ok (.ireturn, 1) := by decide +kernel
theorem md_W_multiply_7 : decode prog_1_method_6_code 7 = .ok (.iload_n 2, 1) := by decide +kernel
theorem md_W_multiply_8 : decode prog_1_method_6_code 8 = .ok (.invokestatic 95, 3) := by decide +kernel
theorem md_W_multiply_11 : decode prog_1_method_6_code 11 = .ok (.ifCond .eq 10, 3) := by decide +kernel
theorem md_W_multiply_14 : decode prog_1_method_6_code 14 = .ok (.iload_n 3, 1) := by decide +kernel
theorem md_W_multiply_15 : decode prog_1_method_6_code 15 = .ok (.invokestatic 95, 3) := by decide +kernel
theorem md_W_multiply_18 : decode prog_1_method_6_code 18 = .ok (.ifCond .ne 10, 3) := by decide +kernel
theorem md_W_multiply_28 : decode prog_1_method_6_code 28 = .ok (.aload_n 0, 1) := by decide +kernel
theorem md_W_multiply_29 : decode prog_1_method_6_code 29 = .ok (.getfield 10, 3) := by decide +kernel
theorem md_W_multiply_32 : decode prog_1_method_6_code 32 = .ok (.getfield 104, 3) := by decide +kernel
theorem md_W_multiply_35 : decode prog_1_method_6_code 35 = .ok (.iload_n 1, 1) := by decide +kernel
theorem md_W_multiply_36 : decode prog_1_method_6_code 36 = .ok (.aaload, 1) := by decide +kernel
theorem md_W_multiply_37 : decode prog_1_method_6_code 37 = .ok (.aload_n 0, 1) := by decide +kernel
theorem md_W_multiply_38 : decode prog_1_method_6_code 38 = .ok (.getfield 10, 3) := by decide +kernel
theorem md_W_multiply_41 : decode prog_1_method_6_code 41 = .ok (.getfield 104, 3) := by decide +kernel
theorem md_W_multiply_44 : decode prog_1_method_6_code 44 = .ok (.iload_n 2, 1) := by decide +kernel
theorem md_W_multiply_45 : decode prog_1_method_6_code 45 = .ok (.aaload, 1) := by decide +kernel
theorem md_W_multiply_46 : decode prog_1_method_6_code 46 = .ok (.aload_n 0, 1) := by decide +kernel
theorem md_W_multiply_47 : decode prog_1_method_6_code 47 = .ok (.getfield 65, 3) := by decide +kernel
theorem md_W_multiply_50 : decode prog_1_method_6_code 50 = .ok (.aload_n 0, 1) := by decide +kernel
theorem md_W_multiply_51 : decode prog_1_method_6_code 51 = .ok (.getfield 10, 3) := by decide +kernel
theorem md_W_multiply_54 : decode prog_1_method_6_code 54 = .ok (.getfield 83, 3) := by decide +kernel
theorem md_W_multiply_57 : decode prog_1_method_6_code 57 = .ok (.invokestatic 117, 3) := by decide +kernel
theorem md_W_multiply_60 : decode prog_1_method_6_code 60 = .ok (.aload_n 0, 1) := by decide +kernel
theorem md_W_multiply_61 : decode prog_1_method_6_code 61 = .ok (.iload_n 3, 1) := by decide +kernel
theorem md_W_multiply_62 : decode prog_1_method_6_code 62 = .ok (.invokevirtual 114, 3) := by decide +kernel
theorem md_W_multiply_65 : decode prog_1_method_6_code 65 = .ok (.ireturn, 1) := by decide +kernel
def mj_W_multiply_21 (x0 : Nat) (σ : pw_Sto) : Option (Int × pw_Sto) := pw_bd (mf_W_fail x0 (-2 : Int) σ) (fun v4 s3 => some (v4, s3))
def mf_W_multiply (x0 : Nat) (x1 : Int) (x2 : Int) (x3 : Int) (σ : pw_Sto) : Option (Int × pw_Sto) := pw_gd 9 x0 σ (pw_bd (mf_W_isSlot x1 σ) (fun v2 s1 => pw_ck v2 0 (if v2 = 0 then mj_W_multiply_21 x0 s1 else pw_bd (mf_W_isSlot x2 s1) (fun v6 s5 => pw_ck v6 0 (if v6 = 0 then mj_W_multiply_21 x0 s5 else pw_bd (mf_W_isSlot x3 s5) (fun v8 s7 => pw_ck v8 0 (if v8 = 0 then mj_W_multiply_21 x0 s7 else (pw_gr 9 x0 0 s7).bind (fun v9 => (pw_gr 7 v9 1 s7).bind (fun v10 => (pw_ar 13 v10 x1 s7).bind (fun v11 => (pw_gr 9 x0 0 s7).bind (fun v12 => (pw_gr 7 v12 1 s7).bind (fun v13 => (pw_ar 13 v13 x2 s7).bind (fun v14 => (pw_gr 9 x0 8 s7).bind (fun v15 => (pw_gr 9 x0 0 s7).bind (fun v16 => (pw_gi 7 v16 0 s7).bind (fun v17 => pw_bd (mf_S_product v11 v14 v15 v17 s7) (fun _ s18 => pw_bd (mf_W_store x0 x3 s18) (fun v20 s19 => some (v20, s19)))))))))))))))))))
set_option maxHeartbeats 4000000 in
set_option maxRecDepth 20000 in
theorem sj_W_multiply_21 {X : pw_X Int} (hX : pw_Ok X prog_1_method_6_code "PadeWorkbench" mr_W_multiply 4) (hR : pw_RI X prog_1_method_6_code) (x0 : Nat) (σ : pw_Sto) : pw_Sp X 0 0 21 [(0, Value.ref x0)] [] σ (mj_W_multiply_21 x0 σ) := by
  unfold mj_W_multiply_21
  refine sp_aload_n (pc := 21) (k := 0) (i := 0) hX rfl 0 rfl md_W_multiply_21 ?_
  refine sp_bipush (pc := 22) hX (by decide) md_W_multiply_22 ?_
  refine sp_callVI (pc := 24) (y := my_W_fail) (ccy := prog_1_method_37_code) (nLy := 3) (ret := (some .int)) (rmy := mr_W_fail) (n := 1) (idx := 79) (As := [.int (iI (-2 : Int))]) (st := []) (o := x0) (cells' := 0) (slots' := 0) hX (fun _ h => mc_W_fail h) mk_W_fail mv_W_fail mcl_9 (fun _ h => pw_gd_of h) mq_325 ⟨(Nat.le_of_ble_eq_true rfl), (Nat.le_of_ble_eq_true rfl)⟩ rfl rfl (Nat.le_of_ble_eq_true rfl) ⟨(Nat.le_of_ble_eq_true rfl), (Nat.le_of_ble_eq_true rfl)⟩ rfl rfl md_W_multiply_24 (fun v4 s3 => ?_)
  exact sp_iret (pc := 27) hX hR rfl (Nat.le_of_ble_eq_true rfl) md_W_multiply_27
set_option maxHeartbeats 4000000 in
set_option maxRecDepth 20000 in
theorem mc_W_multiply {l : Launch} {E : pw_E} {σ : pw_Sto} {x0 : Nat} {x1 : Int} {x2 : Int} {x3 : Int} {out : Int × pw_Sto} (h : mf_W_multiply x0 x1 x2 x3 σ = some out) : pw_CI l E my_W_multiply prog_1_method_6_code 4 (some .int) mr_W_multiply [.ref x0, .int (iI x1), .int (iI x2), .int (iI x3)] σ out := by
  unfold mf_W_multiply at h
  refine pw_entryI (by decide) (Nat.le_of_ble_eq_true rfl) (pw_gd_val h) (fun X hX hR hI => ?_)
  change pw_Ok X prog_1_method_6_code "PadeWorkbench" mr_W_multiply 4 at hX
  show pw_Sp X 0 0 0 [(0, Value.ref x0), (1, Value.int (iI x1)), (2, Value.int (iI x2)), (3, Value.int (iI x3))] [] σ _
  refine sp_iload_n (pc := 0) (k := 1) (i := 1) hX rfl 1 rfl md_W_multiply_0 ?_
  refine sp_callSI (pc := 1) (y := my_W_isSlot) (ccy := prog_1_method_38_code) (nLy := 1) (ret := (some .boolean)) (rmy := mr_W_isSlot) (n := 1) (idx := 95) (As := [.int (iI x1)]) (st := []) (cells' := 0) (slots' := 0) hX (fun _ h => mc_W_isSlot h) mk_W_isSlot mq_352 mq_351 ⟨(Nat.le_of_ble_eq_true rfl), (Nat.le_of_ble_eq_true rfl)⟩ rfl rfl (Nat.le_of_ble_eq_true rfl) ⟨(Nat.le_of_ble_eq_true rfl), (Nat.le_of_ble_eq_true rfl)⟩ rfl rfl md_W_multiply_1 (fun v2 s1 => ?_)
  refine sp_if_eq (pc := 4) hX 21 (by decide) md_W_multiply_4 (fun _ => ?_) (fun _ => ?_)
  · refine sp_sub [0] (L' := [(0, Value.ref x0)]) rfl ?_
    exact sj_W_multiply_21 hX hR x0 s1
  · refine sp_iload_n (pc := 7) (k := 2) (i := 2) hX rfl 2 rfl md_W_multiply_7 ?_
    refine sp_callSI (pc := 8) (y := my_W_isSlot) (ccy := prog_1_method_38_code) (nLy := 1) (ret := (some .boolean)) (rmy := mr_W_isSlot) (n := 1) (idx := 95) (As := [.int (iI x2)]) (st := []) (cells' := 0) (slots' := 0) hX (fun _ h => mc_W_isSlot h) mk_W_isSlot mq_352 mq_351 ⟨(Nat.le_of_ble_eq_true rfl), (Nat.le_of_ble_eq_true rfl)⟩ rfl rfl (Nat.le_of_ble_eq_true rfl) ⟨(Nat.le_of_ble_eq_true rfl), (Nat.le_of_ble_eq_true rfl)⟩ rfl rfl md_W_multiply_8 (fun v6 s5 => ?_)
    refine sp_if_eq (pc := 11) hX 21 (by decide) md_W_multiply_11 (fun _ => ?_) (fun _ => ?_)
    · refine sp_sub [0] (L' := [(0, Value.ref x0)]) rfl ?_
      exact sj_W_multiply_21 hX hR x0 s5
    · refine sp_iload_n (pc := 14) (k := 3) (i := 3) hX rfl 3 rfl md_W_multiply_14 ?_
      refine sp_callSI (pc := 15) (y := my_W_isSlot) (ccy := prog_1_method_38_code) (nLy := 1) (ret := (some .boolean)) (rmy := mr_W_isSlot) (n := 1) (idx := 95) (As := [.int (iI x3)]) (st := []) (cells' := 0) (slots' := 0) hX (fun _ h => mc_W_isSlot h) mk_W_isSlot mq_352 mq_351 ⟨(Nat.le_of_ble_eq_true rfl), (Nat.le_of_ble_eq_true rfl)⟩ rfl rfl (Nat.le_of_ble_eq_true rfl) ⟨(Nat.le_of_ble_eq_true rfl), (Nat.le_of_ble_eq_true rfl)⟩ rfl rfl md_W_multiply_15 (fun v8 s7 => ?_)
      refine sp_if_ne (pc := 18) hX 28 (by decide) md_W_multiply_18 (fun _ => ?_) (fun _ => ?_)
      · refine sp_sub [0] (L' := [(0, Value.ref x0)]) rfl ?_
        exact sj_W_multiply_21 hX hR x0 s7
      · refine sp_aload_n (pc := 28) (k := 0) (i := 0) hX rfl 0 rfl md_W_multiply_28 ?_
        refine sp_getR (pc := 29) (ci := 9) (k := 0) (idx := 10) hX mcl_9 (by decide) mq_284 rfl md_W_multiply_29 (fun v9 => ?_)
        refine sp_getRN (pc := 32) (ci := 7) (k := 1) (idx := 104) hX mcl_7 (by decide) mn_104 rfl md_W_multiply_32 (fun v10 => ?_)
        refine sp_iload_n (pc := 35) (k := 1) (i := 1) hX rfl 1 rfl md_W_multiply_35 ?_
        refine sp_aaG (pc := 36) hX md_W_multiply_36 (fun v11 => ?_)
        refine sp_aload_n (pc := 37) (k := 0) (i := 0) hX rfl 0 rfl md_W_multiply_37 ?_
        refine sp_getR (pc := 38) (ci := 9) (k := 0) (idx := 10) hX mcl_9 (by decide) mq_284 rfl md_W_multiply_38 (fun v12 => ?_)
        refine sp_getRN (pc := 41) (ci := 7) (k := 1) (idx := 104) hX mcl_7 (by decide) mn_104 rfl md_W_multiply_41 (fun v13 => ?_)
        refine sp_iload_n (pc := 44) (k := 2) (i := 2) hX rfl 2 rfl md_W_multiply_44 ?_
        refine sp_aaG (pc := 45) hX md_W_multiply_45 (fun v14 => ?_)
        refine sp_aload_n (pc := 46) (k := 0) (i := 0) hX rfl 0 rfl md_W_multiply_46 ?_
        refine sp_getR (pc := 47) (ci := 9) (k := 8) (idx := 65) hX mcl_9 (by decide) mq_292 rfl md_W_multiply_47 (fun v15 => ?_)
        refine sp_aload_n (pc := 50) (k := 0) (i := 0) hX rfl 0 rfl md_W_multiply_50 ?_
        refine sp_getR (pc := 51) (ci := 9) (k := 0) (idx := 10) hX mcl_9 (by decide) mq_284 rfl md_W_multiply_51 (fun v16 => ?_)
        refine sp_getIN (pc := 54) (ci := 7) (k := 0) (idx := 83) hX mcl_7 (by decide) mn_101 rfl md_W_multiply_54 (fun v17 => ?_)
        refine sp_callSV (pc := 57) (y := my_S_product) (ccy := prog_10_method_3_code) (nLy := 7) (ret := none) (rmy := mr_S_product) (n := 4) (idx := 117) (As := [.ref v11, .ref v14, .ref v15, .int (iI v17)]) (st := []) (cells' := 0) (slots' := 0) hX (fun _ h => mc_S_product h) mk_S_product mq_388 mq_387 ⟨(Nat.le_of_ble_eq_true rfl), (Nat.le_of_ble_eq_true rfl)⟩ rfl rfl (Nat.le_of_ble_eq_true rfl) ⟨(Nat.le_of_ble_eq_true rfl), (Nat.le_of_ble_eq_true rfl)⟩ rfl rfl md_W_multiply_57 (fun s18 => ?_)
        refine sp_aload_n (pc := 60) (k := 0) (i := 0) hX rfl 0 rfl md_W_multiply_60 ?_
        refine sp_iload_n (pc := 61) (k := 3) (i := 3) hX rfl 3 rfl md_W_multiply_61 ?_
        refine sp_callVI (pc := 62) (y := my_W_store) (ccy := prog_1_method_45_code) (nLy := 2) (ret := (some .int)) (rmy := mr_W_store) (n := 1) (idx := 114) (As := [.int (iI x3)]) (st := []) (o := x0) (cells' := 0) (slots' := 0) hX (fun _ h => mc_W_store h) mk_W_store mv_W_store mcl_9 (fun _ h => pw_gd_of h) mq_375 ⟨(Nat.le_of_ble_eq_true rfl), (Nat.le_of_ble_eq_true rfl)⟩ rfl rfl (Nat.le_of_ble_eq_true rfl) ⟨(Nat.le_of_ble_eq_true rfl), (Nat.le_of_ble_eq_true rfl)⟩ rfl rfl md_W_multiply_62 (fun v20 s19 => ?_)
        exact sp_iret (pc := 65) hX hR rfl (Nat.le_of_ble_eq_true rfl) md_W_multiply_65
/-! PadeWorkbench.invert(II)I -/
theorem md_W_invert_0 : decode prog_1_method_7_code 0 = .ok (.iload_n 1, 1) := by decide +kernel
theorem md_W_invert_1 : decode prog_1_method_7_code 1 = .ok (.invokestatic 95, 3) := by decide +kernel
theorem md_W_invert_4 : decode prog_1_method_7_code 4 = .ok (.ifCond .eq 10, 3) := by decide +kernel
theorem md_W_invert_14 : decode prog_1_method_7_code 14 = .ok (.aload_n 0, 1) := by decide +kernel
theorem md_W_invert_15 : decode prog_1_method_7_code 15 = .ok (.bipush (-2), 2) := by decide +kernel
theorem md_W_invert_17 : decode prog_1_method_7_code 17 = .ok (.invokevirtual 79, 3) := by decide +kernel
theorem md_W_invert_20 : decode prog_1_method_7_code 20 = .ok (.ireturn, 1) := by decide +kernel
theorem md_W_invert_7 : decode prog_1_method_7_code 7 = .ok (.iload_n 2, 1) := by decide +kernel
theorem md_W_invert_8 : decode prog_1_method_7_code 8 = .ok (.invokestatic 95, 3) := by decide +kernel
theorem md_W_invert_11 : decode prog_1_method_7_code 11 = .ok (.ifCond .ne 10, 3) := by decide +kernel
theorem md_W_invert_21 : decode prog_1_method_7_code 21 = .ok (.aload_n 0, 1) := by decide +kernel
theorem md_W_invert_22 : decode prog_1_method_7_code 22 = .ok (.getfield 10, 3) := by decide +kernel
theorem md_W_invert_25 : decode prog_1_method_7_code 25 = .ok (.getfield 104, 3) := by decide +kernel
theorem md_W_invert_28 : decode prog_1_method_7_code 28 = .ok (.iload_n 1, 1) := by decide +kernel
theorem md_W_invert_29 : decode prog_1_method_7_code 29 = .ok (.aaload, 1) := by decide +kernel
theorem md_W_invert_30 : decode prog_1_method_7_code 30 = .ok (.iconst 0, 1) := by decide +kernel
theorem md_W_invert_31 : decode prog_1_method_7_code 31 = .ok (.iaload, 1) := by decide +kernel
theorem md_W_invert_32 : decode prog_1_method_7_code 32 = .ok (.ifCond .ne 10, 3) := by decide +kernel
theorem md_W_invert_42 : decode prog_1_method_7_code 42 = .ok (.aload_n 0, 1) := by decide +kernel
theorem md_W_invert_43 : decode prog_1_method_7_code 43 = .ok (.getfield 10, 3) := by decide +kernel
theorem md_W_invert_46 : decode prog_1_method_7_code 46 = .ok (.getfield 104, 3) := by decide +kernel
theorem md_W_invert_49 : decode prog_1_method_7_code 49 = .ok (.iload_n 1, 1) := by decide +kernel
theorem md_W_invert_50 : decode prog_1_method_7_code 50 = .ok (.aaload, 1) := by decide +kernel
theorem md_W_invert_51 : decode prog_1_method_7_code 51 = .ok (.aload_n 0, 1) := by decide +kernel
theorem md_W_invert_52 : decode prog_1_method_7_code 52 = .ok (.getfield 65, 3) := by decide +kernel
theorem md_W_invert_55 : decode prog_1_method_7_code 55 = .ok (.aload_n 0, 1) := by decide +kernel
theorem md_W_invert_56 : decode prog_1_method_7_code 56 = .ok (.getfield 10, 3) := by decide +kernel
theorem md_W_invert_59 : decode prog_1_method_7_code 59 = .ok (.getfield 83, 3) := by decide +kernel
theorem md_W_invert_62 : decode prog_1_method_7_code 62 = .ok (.invokestatic 120, 3) := by decide +kernel
theorem md_W_invert_65 : decode prog_1_method_7_code 65 = .ok (.aload_n 0, 1) := by decide +kernel
theorem md_W_invert_66 : decode prog_1_method_7_code 66 = .ok (.iload_n 2, 1) := by decide +kernel
theorem md_W_invert_67 : decode prog_1_method_7_code 67 = .ok (.invokevirtual 114, 3) := by decide +kernel
theorem md_W_invert_70 : decode prog_1_method_7_code 70 = .ok (.ireturn, 1) := by decide +kernel
theorem md_W_invert_35 : decode prog_1_method_7_code 35 = .ok (.aload_n 0, 1) := by decide +kernel
theorem md_W_invert_36 : decode prog_1_method_7_code 36 = .ok (.bipush (-3), 2) := by decide +kernel
theorem md_W_invert_38 : decode prog_1_method_7_code 38 = .ok (.invokevirtual 79, 3) := by decide +kernel
theorem md_W_invert_41 : decode prog_1_method_7_code 41 = .ok (.ireturn, 1) := by decide +kernel
def mj_W_invert_14 (x0 : Nat) (σ : pw_Sto) : Option (Int × pw_Sto) := pw_bd (mf_W_fail x0 (-2 : Int) σ) (fun v4 s3 => some (v4, s3))
def mf_W_invert (x0 : Nat) (x1 : Int) (x2 : Int) (σ : pw_Sto) : Option (Int × pw_Sto) := pw_gd 9 x0 σ (pw_bd (mf_W_isSlot x1 σ) (fun v2 s1 => pw_ck v2 0 (if v2 = 0 then mj_W_invert_14 x0 s1 else pw_bd (mf_W_isSlot x2 s1) (fun v6 s5 => pw_ck v6 0 (if v6 = 0 then mj_W_invert_14 x0 s5 else (pw_gr 9 x0 0 s5).bind (fun v7 => (pw_gr 7 v7 1 s5).bind (fun v8 => (pw_ar 13 v8 x1 s5).bind (fun v9 => (pw_ai v9 (0 : Int) s5).bind (fun v10 => pw_ck v10 0 (if v10 = 0 then pw_bd (mf_W_fail x0 (-3 : Int) s5) (fun v21 s20 => some (v21, s20)) else (pw_gr 9 x0 0 s5).bind (fun v11 => (pw_gr 7 v11 1 s5).bind (fun v12 => (pw_ar 13 v12 x1 s5).bind (fun v13 => (pw_gr 9 x0 8 s5).bind (fun v14 => (pw_gr 9 x0 0 s5).bind (fun v15 => (pw_gi 7 v15 0 s5).bind (fun v16 => pw_bd (mf_S_reciprocal v13 v14 v16 s5) (fun _ s17 => pw_bd (mf_W_store x0 x2 s17) (fun v19 s18 => some (v19, s18)))))))))))))))))))
set_option maxHeartbeats 4000000 in
set_option maxRecDepth 20000 in
theorem sj_W_invert_14 {X : pw_X Int} (hX : pw_Ok X prog_1_method_7_code "PadeWorkbench" mr_W_invert 3) (hR : pw_RI X prog_1_method_7_code) (x0 : Nat) (σ : pw_Sto) : pw_Sp X 0 0 14 [(0, Value.ref x0)] [] σ (mj_W_invert_14 x0 σ) := by
  unfold mj_W_invert_14
  refine sp_aload_n (pc := 14) (k := 0) (i := 0) hX rfl 0 rfl md_W_invert_14 ?_
  refine sp_bipush (pc := 15) hX (by decide) md_W_invert_15 ?_
  refine sp_callVI (pc := 17) (y := my_W_fail) (ccy := prog_1_method_37_code) (nLy := 3) (ret := (some .int)) (rmy := mr_W_fail) (n := 1) (idx := 79) (As := [.int (iI (-2 : Int))]) (st := []) (o := x0) (cells' := 0) (slots' := 0) hX (fun _ h => mc_W_fail h) mk_W_fail mv_W_fail mcl_9 (fun _ h => pw_gd_of h) mq_325 ⟨(Nat.le_of_ble_eq_true rfl), (Nat.le_of_ble_eq_true rfl)⟩ rfl rfl (Nat.le_of_ble_eq_true rfl) ⟨(Nat.le_of_ble_eq_true rfl), (Nat.le_of_ble_eq_true rfl)⟩ rfl rfl md_W_invert_17 (fun v4 s3 => ?_)
  exact sp_iret (pc := 20) hX hR rfl (Nat.le_of_ble_eq_true rfl) md_W_invert_20
set_option maxHeartbeats 4000000 in
set_option maxRecDepth 20000 in
theorem mc_W_invert {l : Launch} {E : pw_E} {σ : pw_Sto} {x0 : Nat} {x1 : Int} {x2 : Int} {out : Int × pw_Sto} (h : mf_W_invert x0 x1 x2 σ = some out) : pw_CI l E my_W_invert prog_1_method_7_code 3 (some .int) mr_W_invert [.ref x0, .int (iI x1), .int (iI x2)] σ out := by
  unfold mf_W_invert at h
  refine pw_entryI (by decide) (Nat.le_of_ble_eq_true rfl) (pw_gd_val h) (fun X hX hR hI => ?_)
  change pw_Ok X prog_1_method_7_code "PadeWorkbench" mr_W_invert 3 at hX
  show pw_Sp X 0 0 0 [(0, Value.ref x0), (1, Value.int (iI x1)), (2, Value.int (iI x2))] [] σ _
  refine sp_iload_n (pc := 0) (k := 1) (i := 1) hX rfl 1 rfl md_W_invert_0 ?_
  refine sp_callSI (pc := 1) (y := my_W_isSlot) (ccy := prog_1_method_38_code) (nLy := 1) (ret := (some .boolean)) (rmy := mr_W_isSlot) (n := 1) (idx := 95) (As := [.int (iI x1)]) (st := []) (cells' := 0) (slots' := 0) hX (fun _ h => mc_W_isSlot h) mk_W_isSlot mq_352 mq_351 ⟨(Nat.le_of_ble_eq_true rfl), (Nat.le_of_ble_eq_true rfl)⟩ rfl rfl (Nat.le_of_ble_eq_true rfl) ⟨(Nat.le_of_ble_eq_true rfl), (Nat.le_of_ble_eq_true rfl)⟩ rfl rfl md_W_invert_1 (fun v2 s1 => ?_)
  refine sp_if_eq (pc := 4) hX 14 (by decide) md_W_invert_4 (fun _ => ?_) (fun _ => ?_)
  · refine sp_sub [0] (L' := [(0, Value.ref x0)]) rfl ?_
    exact sj_W_invert_14 hX hR x0 s1
  · refine sp_iload_n (pc := 7) (k := 2) (i := 2) hX rfl 2 rfl md_W_invert_7 ?_
    refine sp_callSI (pc := 8) (y := my_W_isSlot) (ccy := prog_1_method_38_code) (nLy := 1) (ret := (some .boolean)) (rmy := mr_W_isSlot) (n := 1) (idx := 95) (As := [.int (iI x2)]) (st := []) (cells' := 0) (slots' := 0) hX (fun _ h => mc_W_isSlot h) mk_W_isSlot mq_352 mq_351 ⟨(Nat.le_of_ble_eq_true rfl), (Nat.le_of_ble_eq_true rfl)⟩ rfl rfl (Nat.le_of_ble_eq_true rfl) ⟨(Nat.le_of_ble_eq_true rfl), (Nat.le_of_ble_eq_true rfl)⟩ rfl rfl md_W_invert_8 (fun v6 s5 => ?_)
    refine sp_if_ne (pc := 11) hX 21 (by decide) md_W_invert_11 (fun _ => ?_) (fun _ => ?_)
    · refine sp_sub [0] (L' := [(0, Value.ref x0)]) rfl ?_
      exact sj_W_invert_14 hX hR x0 s5
    · refine sp_aload_n (pc := 21) (k := 0) (i := 0) hX rfl 0 rfl md_W_invert_21 ?_
      refine sp_getR (pc := 22) (ci := 9) (k := 0) (idx := 10) hX mcl_9 (by decide) mq_284 rfl md_W_invert_22 (fun v7 => ?_)
      refine sp_getRN (pc := 25) (ci := 7) (k := 1) (idx := 104) hX mcl_7 (by decide) mn_104 rfl md_W_invert_25 (fun v8 => ?_)
      refine sp_iload_n (pc := 28) (k := 1) (i := 1) hX rfl 1 rfl md_W_invert_28 ?_
      refine sp_aaG (pc := 29) hX md_W_invert_29 (fun v9 => ?_)
      refine sp_iconst (pc := 30) hX md_W_invert_30 ?_
      refine sp_iaload (pc := 31) hX md_W_invert_31 (fun v10 => ?_)
      refine sp_if_ne (pc := 32) hX 42 (by decide) md_W_invert_32 (fun _ => ?_) (fun _ => ?_)
      · refine sp_aload_n (pc := 35) (k := 0) (i := 0) hX rfl 0 rfl md_W_invert_35 ?_
        refine sp_bipush (pc := 36) hX (by decide) md_W_invert_36 ?_
        refine sp_callVI (pc := 38) (y := my_W_fail) (ccy := prog_1_method_37_code) (nLy := 3) (ret := (some .int)) (rmy := mr_W_fail) (n := 1) (idx := 79) (As := [.int (iI (-3 : Int))]) (st := []) (o := x0) (cells' := 0) (slots' := 0) hX (fun _ h => mc_W_fail h) mk_W_fail mv_W_fail mcl_9 (fun _ h => pw_gd_of h) mq_325 ⟨(Nat.le_of_ble_eq_true rfl), (Nat.le_of_ble_eq_true rfl)⟩ rfl rfl (Nat.le_of_ble_eq_true rfl) ⟨(Nat.le_of_ble_eq_true rfl), (Nat.le_of_ble_eq_true rfl)⟩ rfl rfl md_W_invert_38 (fun v21 s20 => ?_)
        exact sp_iret (pc := 41) hX hR rfl (Nat.le_of_ble_eq_true rfl) md_W_invert_41
      · refine sp_aload_n (pc := 42) (k := 0) (i := 0) hX rfl 0 rfl md_W_invert_42 ?_
        refine sp_getR (pc := 43) (ci := 9) (k := 0) (idx := 10) hX mcl_9 (by decide) mq_284 rfl md_W_invert_43 (fun v11 => ?_)
        refine sp_getRN (pc := 46) (ci := 7) (k := 1) (idx := 104) hX mcl_7 (by decide) mn_104 rfl md_W_invert_46 (fun v12 => ?_)
        refine sp_iload_n (pc := 49) (k := 1) (i := 1) hX rfl 1 rfl md_W_invert_49 ?_
        refine sp_aaG (pc := 50) hX md_W_invert_50 (fun v13 => ?_)
        refine sp_aload_n (pc := 51) (k := 0) (i := 0) hX rfl 0 rfl md_W_invert_51 ?_
        refine sp_getR (pc := 52) (ci := 9) (k := 8) (idx := 65) hX mcl_9 (by decide) mq_292 rfl md_W_invert_52 (fun v14 => ?_)
        refine sp_aload_n (pc := 55) (k := 0) (i := 0) hX rfl 0 rfl md_W_invert_55 ?_
        refine sp_getR (pc := 56) (ci := 9) (k := 0) (idx := 10) hX mcl_9 (by decide) mq_284 rfl md_W_invert_56 (fun v15 => ?_)
        refine sp_getIN (pc := 59) (ci := 7) (k := 0) (idx := 83) hX mcl_7 (by decide) mn_101 rfl md_W_invert_59 (fun v16 => ?_)
        refine sp_callSV (pc := 62) (y := my_S_reciprocal) (ccy := prog_10_method_4_code) (nLy := 7) (ret := none) (rmy := mr_S_reciprocal) (n := 3) (idx := 120) (As := [.ref v13, .ref v14, .int (iI v16)]) (st := []) (cells' := 0) (slots' := 0) hX (fun _ h => mc_S_reciprocal h) mk_S_reciprocal mq_395 mq_394 ⟨(Nat.le_of_ble_eq_true rfl), (Nat.le_of_ble_eq_true rfl)⟩ rfl rfl (Nat.le_of_ble_eq_true rfl) ⟨(Nat.le_of_ble_eq_true rfl), (Nat.le_of_ble_eq_true rfl)⟩ rfl rfl md_W_invert_62 (fun s17 => ?_)
        refine sp_aload_n (pc := 65) (k := 0) (i := 0) hX rfl 0 rfl md_W_invert_65 ?_
        refine sp_iload_n (pc := 66) (k := 2) (i := 2) hX rfl 2 rfl md_W_invert_66 ?_
        refine sp_callVI (pc := 67) (y := my_W_store) (ccy := prog_1_method_45_code) (nLy := 2) (ret := (some .int)) (rmy := mr_W_store) (n := 1) (idx := 114) (As := [.int (iI x2)]) (st := []) (o := x0) (cells' := 0) (slots' := 0) hX (fun _ h => mc_W_store h) mk_W_store mv_W_store mcl_9 (fun _ h => pw_gd_of h) mq_375 ⟨(Nat.le_of_ble_eq_true rfl), (Nat.le_of_ble_eq_true rfl)⟩ rfl rfl (Nat.le_of_ble_eq_true rfl) ⟨(Nat.le_of_ble_eq_true rfl), (Nat.le_of_ble_eq_true rfl)⟩ rfl rfl md_W_invert_67 (fun v19 s18 => ?_)
        exact sp_iret (pc := 70) hX hR rfl (Nat.le_of_ble_eq_true rfl) md_W_invert_70
/-! PadeWorkbench.composeIntoResult([I[I)V -/
theorem md_W_composeIntoResult_0 : decode prog_1_method_46_code 0 = .ok (.aload_n 0, 1) := by decide +kernel
theorem md_W_composeIntoResult_1 : decode prog_1_method_46_code 1 = .ok (.getfield 65, 3) := by decide +kernel
theorem md_W_composeIntoResult_4 : decode prog_1_method_46_code 4 = .ok (.iconst 0, 1) := by decide +kernel
theorem md_W_composeIntoResult_5 : decode prog_1_method_46_code 5 = .ok (.invokestatic 280, 3) := by decide +kernel
theorem md_W_composeIntoResult_8 : decode prog_1_method_46_code 8 = .ok (.bipush 15, 2) := by decide +kernel
theorem md_W_composeIntoResult_10 : decode prog_1_method_46_code 10 = .ok (.istore_n 3, 1) := by decide +kernel
theorem md_W_composeIntoResult_11 : decode prog_1_method_46_code 11 = .ok (.iload_n 3, 1) := by decide +kernel
theorem md_W_composeIntoResult_12 : decode prog_1_method_46_code 12 = .ok (.ifCond .lt 69, 3) := by decide +kernel
theorem md_W_composeIntoResult_81 : decode prog_1_method_46_code 81 = .ok (.return_, 1) := by decide +kernel
theorem md_W_composeIntoResult_15 : decode prog_1_method_46_code 15 = .ok (.aload_n 0, 1) := by decide +kernel
theorem md_W_composeIntoResult_16 : decode prog_1_method_46_code 16 = .ok (.getfield 65, 3) := by decide +kernel
theorem md_W_composeIntoResult_19 : decode prog_1_method_46_code 19 = .ok (.aload_n 2, 1) := by decide +kernel
theorem md_W_composeIntoResult_20 : decode prog_1_method_46_code 20 = .ok (.aload_n 0, 1) := by decide +kernel
theorem md_W_composeIntoResult_21 : decode prog_1_method_46_code 21 = .ok (.getfield 69, 3) := by decide +kernel
theorem md_W_composeIntoResult_24 : decode prog_1_method_46_code 24 = .ok (.aload_n 0, 1) := by decide +kernel
theorem md_W_composeIntoResult_25 : decode prog_1_method_46_code 25 = .ok (.getfield 10, 3) := by decide +kernel
theorem md_W_composeIntoResult_28 : decode prog_1_method_46_code 28 = .ok (.getfield 83, 3) := by decide +kernel
theorem md_W_composeIntoResult_31 : decode prog_1_method_46_code 31 = .ok (.invokestatic 117, 3) := by decide +kernel
theorem md_W_composeIntoResult_34 : decode prog_1_method_46_code 34 = .ok (.aload_n 0, 1) := by decide +kernel
theorem md_W_composeIntoResult_35 : decode prog_1_method_46_code 35 = .ok (.getfield 69, 3) := by decide +kernel
theorem md_W_composeIntoResult_38 : decode prog_1_method_46_code 38 = .ok (.iconst 0, 1) := by decide +kernel
theorem md_W_composeIntoResult_39 : decode prog_1_method_46_code 39 = .ok (.aload_n 0, 1) := by decide +kernel
theorem md_W_composeIntoResult_40 : decode prog_1_method_46_code 40 = .ok (.getfield 65, 3) := by decide +kernel
theorem md_W_composeIntoResult_43 : decode prog_1_method_46_code 43 = .ok (.iconst 0, 1) := by decide +kernel
theorem md_W_composeIntoResult_44 : decode prog_1_method_46_code 44 = .ok (.bipush 16, 2) := by decide +kernel
theorem md_W_composeIntoResult_46 : decode prog_1_method_46_code 46 = .ok (.invokestatic 270, 3) := by decide +kernel
theorem md_W_composeIntoResult_49 : decode prog_1_method_46_code 49 = .ok (.aload_n 0, 1) := by decide +kernel
theorem md_W_composeIntoResult_50 : decode prog_1_method_46_code 50 = .ok (.getfield 65, 3) := by decide +kernel
theorem md_W_composeIntoResult_53 : decode prog_1_method_46_code 53 = .ok (.iconst 0, 1) := by decide +kernel
theorem md_W_composeIntoResult_54 : decode prog_1_method_46_code 54 = .ok (.aload_n 0, 1) := by decide +kernel
theorem md_W_composeIntoResult_55 : decode prog_1_method_46_code 55 = .ok (.getfield 65, 3) := by decide +kernel
theorem md_W_composeIntoResult_58 : decode prog_1_method_46_code 58 = .ok (.iconst 0, 1) := by decide +kernel
theorem md_W_composeIntoResult_59 : decode prog_1_method_46_code 59 = .ok (.iaload, 1) := by decide +kernel
theorem md_W_composeIntoResult_60 : decode prog_1_method_46_code 60 = .ok (.aload_n 1, 1) := by decide +kernel
theorem md_W_composeIntoResult_61 : decode prog_1_method_46_code 61 = .ok (.iload_n 3, 1) := by decide +kernel
theorem md_W_composeIntoResult_62 : decode prog_1_method_46_code 62 = .ok (.iaload, 1) := by decide +kernel
theorem md_W_composeIntoResult_63 : decode prog_1_method_46_code 63 = .ok (.iadd, 1) := by decide +kernel
theorem md_W_composeIntoResult_64 : decode prog_1_method_46_code 64 = .ok (.aload_n 0, 1) := by decide +kernel
theorem md_W_composeIntoResult_65 : decode prog_1_method_46_code 65 = .ok (.getfield 10, 3) := by decide +kernel
theorem md_W_composeIntoResult_68 : decode prog_1_method_46_code 68 = .ok (.getfield 83, 3) := by decide +kernel
theorem md_W_composeIntoResult_71 : decode prog_1_method_46_code 71 = .ok (.invokestatic 286, 3) := by decide +kernel
theorem md_W_composeIntoResult_74 : decode prog_1_method_46_code 74 = .ok (.iastore, 1) := by decide +kernel
theorem md_W_composeIntoResult_75 : decode prog_1_method_46_code 75 = .ok (.iinc 3 (-1), 3) := by decide +kernel
theorem md_W_composeIntoResult_78 : decode prog_1_method_46_code 78 = .ok (.goto (-67), 3) := by decide +kernel
def mb_W_composeIntoResult_11 (rc : Nat → Nat → Nat → Int → pw_Sto → Option (Unit × pw_Sto)) : Nat → Nat → Nat → Int → pw_Sto → Option (Unit × pw_Sto) := fun x0 x1 x2 x3 σ => pw_ck x3 0 (if x3 < 0 then some ((), σ) else (pw_gr 9 x0 8 σ).bind (fun v3 => (pw_gr 9 x0 9 σ).bind (fun v4 => (pw_gr 9 x0 0 σ).bind (fun v5 => (pw_gi 7 v5 0 σ).bind (fun v6 => pw_bd (mf_S_product v3 x2 v4 v6 σ) (fun _ s7 => (pw_gr 9 x0 9 s7).bind (fun v8 => (pw_gr 9 x0 8 s7).bind (fun v9 => (pw_cp v8 (0 : Int) v9 (0 : Int) (16 : Int) s7).bind (fun s10 => (pw_gr 9 x0 8 s10).bind (fun v11 => (pw_gr 9 x0 8 s10).bind (fun v12 => (pw_ai v12 (0 : Int) s10).bind (fun v13 => (pw_ai x1 x3 s10).bind (fun v14 => (pw_gr 9 x0 0 s10).bind (fun v15 => (pw_gi 7 v15 0 s10).bind (fun v16 => pw_bd (mf_K_reduce (v13 + v14) v16 s10) (fun v18 s17 => (pw_si v11 (0 : Int) v18 s17).bind (fun s19 => rc x0 x1 x2 (x3 + (-1)) s19)))))))))))))))))
def ml_W_composeIntoResult_11 : Nat → Nat → Nat → Nat → Int → pw_Sto → Option (Unit × pw_Sto) := pw_lp (fun _ _ _ _ _ => none) (mb_W_composeIntoResult_11)
def mf_W_composeIntoResult (x0 : Nat) (x1 : Nat) (x2 : Nat) (σ : pw_Sto) : Option (Unit × pw_Sto) := pw_gd 9 x0 σ ((pw_gr 9 x0 8 σ).bind (fun v1 => pw_bd (mf_A_fill v1 (0 : Int) σ) (fun _ s2 => ml_W_composeIntoResult_11 1000 x0 x1 x2 (15 : Int) s2)))
set_option maxHeartbeats 4000000 in
set_option maxRecDepth 20000 in
theorem sl_W_composeIntoResult_11 {X : pw_X Unit} (hX : pw_Ok X prog_1_method_46_code "PadeWorkbench" mr_W_composeIntoResult 4) (hR : pw_RV X prog_1_method_46_code) : ∀ (n : Nat) (x0 : Nat) (x1 : Nat) (x2 : Nat) (x3 : Int) (σ : pw_Sto), pw_Sp X 0 0 11 [(0, Value.ref x0), (1, Value.ref x1), (2, Value.ref x2), (3, Value.int (iI x3))] [] σ (ml_W_composeIntoResult_11 n x0 x1 x2 x3 σ) := by
  intro n
  induction n with
  | zero => intros; exact pw_none
  | succ n ih =>
    intro x0 x1 x2 x3 σ
    show pw_Sp X 0 0 11 _ _ σ (mb_W_composeIntoResult_11 (ml_W_composeIntoResult_11 n) x0 x1 x2 x3 σ)
    unfold mb_W_composeIntoResult_11
    refine sp_iload_n (pc := 11) (k := 3) (i := 3) hX rfl 3 rfl md_W_composeIntoResult_11 ?_
    refine sp_if_lt (pc := 12) hX 81 (by decide) md_W_composeIntoResult_12 (fun _ => ?_) (fun _ => ?_)
    · exact sp_vret (pc := 81) hX hR rfl (Nat.le_of_ble_eq_true rfl) md_W_composeIntoResult_81
    · refine sp_aload_n (pc := 15) (k := 0) (i := 0) hX rfl 0 rfl md_W_composeIntoResult_15 ?_
      refine sp_getR (pc := 16) (ci := 9) (k := 8) (idx := 65) hX mcl_9 (by decide) mq_292 rfl md_W_composeIntoResult_16 (fun v3 => ?_)
      refine sp_aload_n (pc := 19) (k := 2) (i := 2) hX rfl 2 rfl md_W_composeIntoResult_19 ?_
      refine sp_aload_n (pc := 20) (k := 0) (i := 0) hX rfl 0 rfl md_W_composeIntoResult_20 ?_
      refine sp_getR (pc := 21) (ci := 9) (k := 9) (idx := 69) hX mcl_9 (by decide) mq_293 rfl md_W_composeIntoResult_21 (fun v4 => ?_)
      refine sp_aload_n (pc := 24) (k := 0) (i := 0) hX rfl 0 rfl md_W_composeIntoResult_24 ?_
      refine sp_getR (pc := 25) (ci := 9) (k := 0) (idx := 10) hX mcl_9 (by decide) mq_284 rfl md_W_composeIntoResult_25 (fun v5 => ?_)
      refine sp_getIN (pc := 28) (ci := 7) (k := 0) (idx := 83) hX mcl_7 (by decide) mn_101 rfl md_W_composeIntoResult_28 (fun v6 => ?_)
      refine sp_callSV (pc := 31) (y := my_S_product) (ccy := prog_10_method_3_code) (nLy := 7) (ret := none) (rmy := mr_S_product) (n := 4) (idx := 117) (As := [.ref v3, .ref x2, .ref v4, .int (iI v6)]) (st := []) (cells' := 0) (slots' := 0) hX (fun _ h => mc_S_product h) mk_S_product mq_388 mq_387 ⟨(Nat.le_of_ble_eq_true rfl), (Nat.le_of_ble_eq_true rfl)⟩ rfl rfl (Nat.le_of_ble_eq_true rfl) ⟨(Nat.le_of_ble_eq_true rfl), (Nat.le_of_ble_eq_true rfl)⟩ rfl rfl md_W_composeIntoResult_31 (fun s7 => ?_)
      refine sp_aload_n (pc := 34) (k := 0) (i := 0) hX rfl 0 rfl md_W_composeIntoResult_34 ?_
      refine sp_getR (pc := 35) (ci := 9) (k := 9) (idx := 69) hX mcl_9 (by decide) mq_293 rfl md_W_composeIntoResult_35 (fun v8 => ?_)
      refine sp_iconst (pc := 38) hX md_W_composeIntoResult_38 ?_
      refine sp_aload_n (pc := 39) (k := 0) (i := 0) hX rfl 0 rfl md_W_composeIntoResult_39 ?_
      refine sp_getR (pc := 40) (ci := 9) (k := 8) (idx := 65) hX mcl_9 (by decide) mq_292 rfl md_W_composeIntoResult_40 (fun v9 => ?_)
      refine sp_iconst (pc := 43) hX md_W_composeIntoResult_43 ?_
      refine sp_bipush (pc := 44) hX (by decide) md_W_composeIntoResult_44 ?_
      refine sp_copy (pc := 46) (idx := 270) hX mq_379 mq_339 mq_338 mq_80 (Nat.le_of_ble_eq_true rfl) (Nat.le_of_ble_eq_true rfl) md_W_composeIntoResult_46 (fun s10 => ?_)
      refine sp_aload_n (pc := 49) (k := 0) (i := 0) hX rfl 0 rfl md_W_composeIntoResult_49 ?_
      refine sp_getR (pc := 50) (ci := 9) (k := 8) (idx := 65) hX mcl_9 (by decide) mq_292 rfl md_W_composeIntoResult_50 (fun v11 => ?_)
      refine sp_iconst (pc := 53) hX md_W_composeIntoResult_53 ?_
      refine sp_aload_n (pc := 54) (k := 0) (i := 0) hX rfl 0 rfl md_W_composeIntoResult_54 ?_
      refine sp_getR (pc := 55) (ci := 9) (k := 8) (idx := 65) hX mcl_9 (by decide) mq_292 rfl md_W_composeIntoResult_55 (fun v12 => ?_)
      refine sp_iconst (pc := 58) hX md_W_composeIntoResult_58 ?_
      refine sp_iaload (pc := 59) hX md_W_composeIntoResult_59 (fun v13 => ?_)
      refine sp_aload_n (pc := 60) (k := 1) (i := 1) hX rfl 1 rfl md_W_composeIntoResult_60 ?_
      refine sp_iload_n (pc := 61) (k := 3) (i := 3) hX rfl 3 rfl md_W_composeIntoResult_61 ?_
      refine sp_iaload (pc := 62) hX md_W_composeIntoResult_62 (fun v14 => ?_)
      refine sp_iadd (pc := 63) hX md_W_composeIntoResult_63 ?_
      refine sp_aload_n (pc := 64) (k := 0) (i := 0) hX rfl 0 rfl md_W_composeIntoResult_64 ?_
      refine sp_getR (pc := 65) (ci := 9) (k := 0) (idx := 10) hX mcl_9 (by decide) mq_284 rfl md_W_composeIntoResult_65 (fun v15 => ?_)
      refine sp_getIN (pc := 68) (ci := 7) (k := 0) (idx := 83) hX mcl_7 (by decide) mn_101 rfl md_W_composeIntoResult_68 (fun v16 => ?_)
      refine sp_callSI (pc := 71) (y := my_K_reduce) (ccy := prog_3_method_2_code) (nLy := 2) (ret := (some .int)) (rmy := mr_K_reduce) (n := 2) (idx := 286) (As := [.int (iI (v13 + v14)), .int (iI v16)]) (st := [.int (iI (0 : Int)), .ref v11]) (cells' := 0) (slots' := 0) hX (fun _ h => mc_K_reduce h) mk_K_reduce mq_373 mq_416 ⟨(Nat.le_of_ble_eq_true rfl), (Nat.le_of_ble_eq_true rfl)⟩ rfl rfl (Nat.le_of_ble_eq_true rfl) ⟨(Nat.le_of_ble_eq_true rfl), (Nat.le_of_ble_eq_true rfl)⟩ rfl rfl md_W_composeIntoResult_71 (fun v18 s17 => ?_)
      refine sp_iastore (pc := 74) hX md_W_composeIntoResult_74 (fun s19 => ?_)
      refine sp_iinc (pc := 75) (i := 3) (L' := [(3, Value.int (iI (x3 + (-1)))), (0, Value.ref x0), (1, Value.ref x1), (2, Value.ref x2)]) hX 3 rfl (by decide) rfl md_W_composeIntoResult_75 ?_
      refine sp_goto (pc := 78) hX 11 (by decide) md_W_composeIntoResult_78 ?_
      refine sp_sub [1, 2, 3, 0] (L' := [(0, Value.ref x0), (1, Value.ref x1), (2, Value.ref x2), (3, Value.int (iI (x3 + (-1))))]) rfl ?_
      exact ih x0 x1 x2 (x3 + (-1)) s19
set_option maxHeartbeats 4000000 in
set_option maxRecDepth 20000 in
theorem mc_W_composeIntoResult {l : Launch} {E : pw_E} {σ : pw_Sto} {x0 : Nat} {x1 : Nat} {x2 : Nat} {out : Unit × pw_Sto} (h : mf_W_composeIntoResult x0 x1 x2 σ = some out) : pw_CV l E my_W_composeIntoResult prog_1_method_46_code 4 none mr_W_composeIntoResult [.ref x0, .ref x1, .ref x2] σ out := by
  unfold mf_W_composeIntoResult at h
  refine pw_entryV (by decide) (Nat.le_of_ble_eq_true rfl) (pw_gd_val h) (fun X hX hR hI => ?_)
  change pw_Ok X prog_1_method_46_code "PadeWorkbench" mr_W_composeIntoResult 4 at hX
  show pw_Sp X 0 0 0 [(0, Value.ref x0), (1, Value.ref x1), (2, Value.ref x2)] [] σ _
  refine sp_aload_n (pc := 0) (k := 0) (i := 0) hX rfl 0 rfl md_W_composeIntoResult_0 ?_
  refine sp_getR (pc := 1) (ci := 9) (k := 8) (idx := 65) hX mcl_9 (by decide) mq_292 rfl md_W_composeIntoResult_1 (fun v1 => ?_)
  refine sp_iconst (pc := 4) hX md_W_composeIntoResult_4 ?_
  refine sp_callSV (pc := 5) (y := my_A_fill) (ccy := prog_16_method_103_code) (nLy := 4) (ret := none) (rmy := mr_A_fill) (n := 2) (idx := 280) (As := [.ref v1, .int (iI (0 : Int))]) (st := []) (cells' := 0) (slots' := 0) hX (fun _ h => mc_A_fill h) mk_A_fill mq_345 mq_415 ⟨(Nat.le_of_ble_eq_true rfl), (Nat.le_of_ble_eq_true rfl)⟩ rfl rfl (Nat.le_of_ble_eq_true rfl) ⟨(Nat.le_of_ble_eq_true rfl), (Nat.le_of_ble_eq_true rfl)⟩ rfl rfl md_W_composeIntoResult_5 (fun s2 => ?_)
  refine sp_bipush (pc := 8) hX (by decide) md_W_composeIntoResult_8 ?_
  refine sp_istore_n (pc := 10) (k := 3) (i := 3) (L' := [(3, Value.int (iI (15 : Int))), (0, Value.ref x0), (1, Value.ref x1), (2, Value.ref x2)]) hX rfl (by decide) rfl md_W_composeIntoResult_10 ?_
  refine sp_sub [1, 2, 3, 0] (L' := [(0, Value.ref x0), (1, Value.ref x1), (2, Value.ref x2), (3, Value.int (iI (15 : Int)))]) rfl ?_
  exact sl_W_composeIntoResult_11 hX hR 1000 x0 x1 x2 (15 : Int) s2
/-! PadeWorkbench.substitute(III)I -/
theorem md_W_substitute_0 : decode prog_1_method_8_code 0 = .ok (.iload_n 1, 1) := by decide +kernel
theorem md_W_substitute_1 : decode prog_1_method_8_code 1 = .ok (.invokestatic 95, 3) := by decide +kernel
theorem md_W_substitute_4 : decode prog_1_method_8_code 4 = .ok (.ifCond .eq 17, 3) := by decide +kernel
theorem md_W_substitute_21 : decode prog_1_method_8_code 21 = .ok (.aload_n 0, 1) := by decide +kernel
theorem md_W_substitute_22 : decode prog_1_method_8_code 22 = .ok (.bipush (-2), 2) := by decide +kernel
theorem md_W_substitute_24 : decode prog_1_method_8_code 24 = .ok (.invokevirtual 79, 3) := by decide +kernel
theorem md_W_substitute_27 : decode prog_1_method_8_code 27 = .ok (.ireturn, 1) := by decide +kernel
theorem md_W_substitute_7 : decode prog_1_method_8_code 7 = .ok (.iload_n 2, 1) := by decide +kernel
theorem md_W_substitute_8 : decode prog_1_method_8_code 8 = .ok (.invokestatic 95, 3) := by decide +kernel
theorem md_W_substitute_11 : decode prog_1_method_8_code 11 = .ok (.ifCond .eq 10, 3) := by decide +kernel
theorem md_W_substitute_14 : decode prog_1_method_8_code 14 = .ok (.iload_n 3, 1) := by decide +kernel
theorem md_W_substitute_15 : decode prog_1_method_8_code 15 = .ok (.invokestatic 95, 3) := by decide +kernel
theorem md_W_substitute_18 : decode prog_1_method_8_code 18 = .ok (.ifCond .ne 10, 3) := by decide +kernel
theorem md_W_substitute_28 : decode prog_1_method_8_code 28 = .ok (.aload_n 0, 1) := by decide +kernel
theorem md_W_substitute_29 : decode prog_1_method_8_code 29 = .ok (.getfield 10, 3) := by decide +kernel
theorem md_W_substitute_32 : decode prog_1_method_8_code 32 = .ok (.getfield 104, 3) := by decide +kernel
theorem md_W_substitute_35 : decode prog_1_method_8_code 35 = .ok (.iload_n 2, 1) := by decide +kernel
theorem md_W_substitute_36 : decode prog_1_method_8_code 36 = .ok (.aaload, 1) := by decide +kernel
theorem md_W_substitute_37 : decode prog_1_method_8_code 37 = .ok (.iconst 0, 1) := by decide +kernel
theorem md_W_substitute_38 : decode prog_1_method_8_code 38 = .ok (.iaload, 1) := by decide +kernel
theorem md_W_substitute_39 : decode prog_1_method_8_code 39 = .ok (.ifCond .eq 10, 3) := by decide +kernel
theorem md_W_substitute_49 : decode prog_1_method_8_code 49 = .ok (.aload_n 0, 1) := by decide +kernel
theorem md_W_substitute_50 : decode prog_1_method_8_code 50 = .ok (.aload_n 0, 1) := by decide +kernel
theorem md_W_substitute_51 : decode prog_1_method_8_code 51 = .ok (.getfield 10, 3) := by decide +kernel
theorem md_W_substitute_54 : decode prog_1_method_8_code 54 = .ok (.getfield 104, 3) := by decide +kernel
theorem md_W_substitute_57 : decode prog_1_method_8_code 57 = .ok (.iload_n 1, 1) := by decide +kernel
theorem md_W_substitute_58 : decode prog_1_method_8_code 58 = .ok (.aaload, 1) := by decide +kernel
theorem md_W_substitute_59 : decode prog_1_method_8_code 59 = .ok (.aload_n 0, 1) := by decide +kernel
theorem md_W_substitute_60 : decode prog_1_method_8_code 60 = .ok (.getfield 10, 3) := by decide +kernel
theorem md_W_substitute_63 : decode prog_1_method_8_code 63 = .ok (.getfield 104, 3) := by decide +kernel
theorem md_W_substitute_66 : decode prog_1_method_8_code 66 = .ok (.iload_n 2, 1) := by decide +kernel
theorem md_W_substitute_67 : decode prog_1_method_8_code 67 = .ok (.aaload, 1) := by decide +kernel
theorem md_W_substitute_68 : decode prog_1_method_8_code 68 = .ok (.invokevirtual 124, 3) := by decide +kernel
theorem md_W_substitute_71 : decode prog_1_method_8_code 71 = .ok (.aload_n 0, 1) := by decide +kernel
theorem md_W_substitute_72 : decode prog_1_method_8_code 72 = .ok (.iload_n 3, 1) := by decide +kernel
theorem md_W_substitute_73 : decode prog_1_method_8_code 73 = .ok (.invokevirtual 114, 3) := by decide +kernel
theorem md_W_substitute_76 : decode prog_1_method_8_code 76 = .ok (.ireturn, 1) := by decide +kernel
theorem md_W_substitute_42 : decode prog_1_method_8_code 42 = .ok (.aload_n 0, 1) := by decide +kernel
theorem md_W_substitute_43 : decode prog_1_method_8_code 43 = .ok (.bipush (-3), 2) := by decide +kernel
theorem md_W_substitute_45 : decode prog_1_method_8_code 45 = .ok (.invokevirtual 79, 3) := by decide +kernel
theorem md_W_substitute_48 : decode prog_1_method_8_code 48 = .ok (.ireturn, 1) := by decide +kernel
def mj_W_substitute_21 (x0 : Nat) (σ : pw_Sto) : Option (Int × pw_Sto) := pw_bd (mf_W_fail x0 (-2 : Int) σ) (fun v4 s3 => some (v4, s3))
def mf_W_substitute (x0 : Nat) (x1 : Int) (x2 : Int) (x3 : Int) (σ : pw_Sto) : Option (Int × pw_Sto) := pw_gd 9 x0 σ (pw_bd (mf_W_isSlot x1 σ) (fun v2 s1 => pw_ck v2 0 (if v2 = 0 then mj_W_substitute_21 x0 s1 else pw_bd (mf_W_isSlot x2 s1) (fun v6 s5 => pw_ck v6 0 (if v6 = 0 then mj_W_substitute_21 x0 s5 else pw_bd (mf_W_isSlot x3 s5) (fun v8 s7 => pw_ck v8 0 (if v8 = 0 then mj_W_substitute_21 x0 s7 else (pw_gr 9 x0 0 s7).bind (fun v9 => (pw_gr 7 v9 1 s7).bind (fun v10 => (pw_ar 13 v10 x2 s7).bind (fun v11 => (pw_ai v11 (0 : Int) s7).bind (fun v12 => pw_ck v12 0 (if v12 = 0 then (pw_gr 9 x0 0 s7).bind (fun v13 => (pw_gr 7 v13 1 s7).bind (fun v14 => (pw_ar 13 v14 x1 s7).bind (fun v15 => (pw_gr 9 x0 0 s7).bind (fun v16 => (pw_gr 7 v16 1 s7).bind (fun v17 => (pw_ar 13 v17 x2 s7).bind (fun v18 => pw_bd (mf_W_composeIntoResult x0 v15 v18 s7) (fun _ s19 => pw_bd (mf_W_store x0 x3 s19) (fun v21 s20 => some (v21, s20))))))))) else pw_bd (mf_W_fail x0 (-3 : Int) s7) (fun v23 s22 => some (v23, s22))))))))))))))
set_option maxHeartbeats 4000000 in
set_option maxRecDepth 20000 in
theorem sj_W_substitute_21 {X : pw_X Int} (hX : pw_Ok X prog_1_method_8_code "PadeWorkbench" mr_W_substitute 4) (hR : pw_RI X prog_1_method_8_code) (x0 : Nat) (σ : pw_Sto) : pw_Sp X 0 0 21 [(0, Value.ref x0)] [] σ (mj_W_substitute_21 x0 σ) := by
  unfold mj_W_substitute_21
  refine sp_aload_n (pc := 21) (k := 0) (i := 0) hX rfl 0 rfl md_W_substitute_21 ?_
  refine sp_bipush (pc := 22) hX (by decide) md_W_substitute_22 ?_
  refine sp_callVI (pc := 24) (y := my_W_fail) (ccy := prog_1_method_37_code) (nLy := 3) (ret := (some .int)) (rmy := mr_W_fail) (n := 1) (idx := 79) (As := [.int (iI (-2 : Int))]) (st := []) (o := x0) (cells' := 0) (slots' := 0) hX (fun _ h => mc_W_fail h) mk_W_fail mv_W_fail mcl_9 (fun _ h => pw_gd_of h) mq_325 ⟨(Nat.le_of_ble_eq_true rfl), (Nat.le_of_ble_eq_true rfl)⟩ rfl rfl (Nat.le_of_ble_eq_true rfl) ⟨(Nat.le_of_ble_eq_true rfl), (Nat.le_of_ble_eq_true rfl)⟩ rfl rfl md_W_substitute_24 (fun v4 s3 => ?_)
  exact sp_iret (pc := 27) hX hR rfl (Nat.le_of_ble_eq_true rfl) md_W_substitute_27
set_option maxHeartbeats 4000000 in
set_option maxRecDepth 20000 in
theorem mc_W_substitute {l : Launch} {E : pw_E} {σ : pw_Sto} {x0 : Nat} {x1 : Int} {x2 : Int} {x3 : Int} {out : Int × pw_Sto} (h : mf_W_substitute x0 x1 x2 x3 σ = some out) : pw_CI l E my_W_substitute prog_1_method_8_code 4 (some .int) mr_W_substitute [.ref x0, .int (iI x1), .int (iI x2), .int (iI x3)] σ out := by
  unfold mf_W_substitute at h
  refine pw_entryI (by decide) (Nat.le_of_ble_eq_true rfl) (pw_gd_val h) (fun X hX hR hI => ?_)
  change pw_Ok X prog_1_method_8_code "PadeWorkbench" mr_W_substitute 4 at hX
  show pw_Sp X 0 0 0 [(0, Value.ref x0), (1, Value.int (iI x1)), (2, Value.int (iI x2)), (3, Value.int (iI x3))] [] σ _
  refine sp_iload_n (pc := 0) (k := 1) (i := 1) hX rfl 1 rfl md_W_substitute_0 ?_
  refine sp_callSI (pc := 1) (y := my_W_isSlot) (ccy := prog_1_method_38_code) (nLy := 1) (ret := (some .boolean)) (rmy := mr_W_isSlot) (n := 1) (idx := 95) (As := [.int (iI x1)]) (st := []) (cells' := 0) (slots' := 0) hX (fun _ h => mc_W_isSlot h) mk_W_isSlot mq_352 mq_351 ⟨(Nat.le_of_ble_eq_true rfl), (Nat.le_of_ble_eq_true rfl)⟩ rfl rfl (Nat.le_of_ble_eq_true rfl) ⟨(Nat.le_of_ble_eq_true rfl), (Nat.le_of_ble_eq_true rfl)⟩ rfl rfl md_W_substitute_1 (fun v2 s1 => ?_)
  refine sp_if_eq (pc := 4) hX 21 (by decide) md_W_substitute_4 (fun _ => ?_) (fun _ => ?_)
  · refine sp_sub [0] (L' := [(0, Value.ref x0)]) rfl ?_
    exact sj_W_substitute_21 hX hR x0 s1
  · refine sp_iload_n (pc := 7) (k := 2) (i := 2) hX rfl 2 rfl md_W_substitute_7 ?_
    refine sp_callSI (pc := 8) (y := my_W_isSlot) (ccy := prog_1_method_38_code) (nLy := 1) (ret := (some .boolean)) (rmy := mr_W_isSlot) (n := 1) (idx := 95) (As := [.int (iI x2)]) (st := []) (cells' := 0) (slots' := 0) hX (fun _ h => mc_W_isSlot h) mk_W_isSlot mq_352 mq_351 ⟨(Nat.le_of_ble_eq_true rfl), (Nat.le_of_ble_eq_true rfl)⟩ rfl rfl (Nat.le_of_ble_eq_true rfl) ⟨(Nat.le_of_ble_eq_true rfl), (Nat.le_of_ble_eq_true rfl)⟩ rfl rfl md_W_substitute_8 (fun v6 s5 => ?_)
    refine sp_if_eq (pc := 11) hX 21 (by decide) md_W_substitute_11 (fun _ => ?_) (fun _ => ?_)
    · refine sp_sub [0] (L' := [(0, Value.ref x0)]) rfl ?_
      exact sj_W_substitute_21 hX hR x0 s5
    · refine sp_iload_n (pc := 14) (k := 3) (i := 3) hX rfl 3 rfl md_W_substitute_14 ?_
      refine sp_callSI (pc := 15) (y := my_W_isSlot) (ccy := prog_1_method_38_code) (nLy := 1) (ret := (some .boolean)) (rmy := mr_W_isSlot) (n := 1) (idx := 95) (As := [.int (iI x3)]) (st := []) (cells' := 0) (slots' := 0) hX (fun _ h => mc_W_isSlot h) mk_W_isSlot mq_352 mq_351 ⟨(Nat.le_of_ble_eq_true rfl), (Nat.le_of_ble_eq_true rfl)⟩ rfl rfl (Nat.le_of_ble_eq_true rfl) ⟨(Nat.le_of_ble_eq_true rfl), (Nat.le_of_ble_eq_true rfl)⟩ rfl rfl md_W_substitute_15 (fun v8 s7 => ?_)
      refine sp_if_ne (pc := 18) hX 28 (by decide) md_W_substitute_18 (fun _ => ?_) (fun _ => ?_)
      · refine sp_sub [0] (L' := [(0, Value.ref x0)]) rfl ?_
        exact sj_W_substitute_21 hX hR x0 s7
      · refine sp_aload_n (pc := 28) (k := 0) (i := 0) hX rfl 0 rfl md_W_substitute_28 ?_
        refine sp_getR (pc := 29) (ci := 9) (k := 0) (idx := 10) hX mcl_9 (by decide) mq_284 rfl md_W_substitute_29 (fun v9 => ?_)
        refine sp_getRN (pc := 32) (ci := 7) (k := 1) (idx := 104) hX mcl_7 (by decide) mn_104 rfl md_W_substitute_32 (fun v10 => ?_)
        refine sp_iload_n (pc := 35) (k := 2) (i := 2) hX rfl 2 rfl md_W_substitute_35 ?_
        refine sp_aaG (pc := 36) hX md_W_substitute_36 (fun v11 => ?_)
        refine sp_iconst (pc := 37) hX md_W_substitute_37 ?_
        refine sp_iaload (pc := 38) hX md_W_substitute_38 (fun v12 => ?_)
        refine sp_if_eq (pc := 39) hX 49 (by decide) md_W_substitute_39 (fun _ => ?_) (fun _ => ?_)
        · refine sp_aload_n (pc := 49) (k := 0) (i := 0) hX rfl 0 rfl md_W_substitute_49 ?_
          refine sp_aload_n (pc := 50) (k := 0) (i := 0) hX rfl 0 rfl md_W_substitute_50 ?_
          refine sp_getR (pc := 51) (ci := 9) (k := 0) (idx := 10) hX mcl_9 (by decide) mq_284 rfl md_W_substitute_51 (fun v13 => ?_)
          refine sp_getRN (pc := 54) (ci := 7) (k := 1) (idx := 104) hX mcl_7 (by decide) mn_104 rfl md_W_substitute_54 (fun v14 => ?_)
          refine sp_iload_n (pc := 57) (k := 1) (i := 1) hX rfl 1 rfl md_W_substitute_57 ?_
          refine sp_aaG (pc := 58) hX md_W_substitute_58 (fun v15 => ?_)
          refine sp_aload_n (pc := 59) (k := 0) (i := 0) hX rfl 0 rfl md_W_substitute_59 ?_
          refine sp_getR (pc := 60) (ci := 9) (k := 0) (idx := 10) hX mcl_9 (by decide) mq_284 rfl md_W_substitute_60 (fun v16 => ?_)
          refine sp_getRN (pc := 63) (ci := 7) (k := 1) (idx := 104) hX mcl_7 (by decide) mn_104 rfl md_W_substitute_63 (fun v17 => ?_)
          refine sp_iload_n (pc := 66) (k := 2) (i := 2) hX rfl 2 rfl md_W_substitute_66 ?_
          refine sp_aaG (pc := 67) hX md_W_substitute_67 (fun v18 => ?_)
          refine sp_callVV (pc := 68) (y := my_W_composeIntoResult) (ccy := prog_1_method_46_code) (nLy := 4) (ret := none) (rmy := mr_W_composeIntoResult) (n := 2) (idx := 124) (As := [.ref v15, .ref v18]) (st := []) (o := x0) (cells' := 0) (slots' := 0) hX (fun _ h => mc_W_composeIntoResult h) mk_W_composeIntoResult mv_W_composeIntoResult mcl_9 (fun _ h => pw_gd_of h) mq_411 ⟨(Nat.le_of_ble_eq_true rfl), (Nat.le_of_ble_eq_true rfl)⟩ rfl rfl (Nat.le_of_ble_eq_true rfl) ⟨(Nat.le_of_ble_eq_true rfl), (Nat.le_of_ble_eq_true rfl)⟩ rfl rfl md_W_substitute_68 (fun s19 => ?_)
          refine sp_aload_n (pc := 71) (k := 0) (i := 0) hX rfl 0 rfl md_W_substitute_71 ?_
          refine sp_iload_n (pc := 72) (k := 3) (i := 3) hX rfl 3 rfl md_W_substitute_72 ?_
          refine sp_callVI (pc := 73) (y := my_W_store) (ccy := prog_1_method_45_code) (nLy := 2) (ret := (some .int)) (rmy := mr_W_store) (n := 1) (idx := 114) (As := [.int (iI x3)]) (st := []) (o := x0) (cells' := 0) (slots' := 0) hX (fun _ h => mc_W_store h) mk_W_store mv_W_store mcl_9 (fun _ h => pw_gd_of h) mq_375 ⟨(Nat.le_of_ble_eq_true rfl), (Nat.le_of_ble_eq_true rfl)⟩ rfl rfl (Nat.le_of_ble_eq_true rfl) ⟨(Nat.le_of_ble_eq_true rfl), (Nat.le_of_ble_eq_true rfl)⟩ rfl rfl md_W_substitute_73 (fun v21 s20 => ?_)
          exact sp_iret (pc := 76) hX hR rfl (Nat.le_of_ble_eq_true rfl) md_W_substitute_76
        · refine sp_aload_n (pc := 42) (k := 0) (i := 0) hX rfl 0 rfl md_W_substitute_42 ?_
          refine sp_bipush (pc := 43) hX (by decide) md_W_substitute_43 ?_
          refine sp_callVI (pc := 45) (y := my_W_fail) (ccy := prog_1_method_37_code) (nLy := 3) (ret := (some .int)) (rmy := mr_W_fail) (n := 1) (idx := 79) (As := [.int (iI (-3 : Int))]) (st := []) (o := x0) (cells' := 0) (slots' := 0) hX (fun _ h => mc_W_fail h) mk_W_fail mv_W_fail mcl_9 (fun _ h => pw_gd_of h) mq_325 ⟨(Nat.le_of_ble_eq_true rfl), (Nat.le_of_ble_eq_true rfl)⟩ rfl rfl (Nat.le_of_ble_eq_true rfl) ⟨(Nat.le_of_ble_eq_true rfl), (Nat.le_of_ble_eq_true rfl)⟩ rfl rfl md_W_substitute_45 (fun v23 s22 => ?_)
          exact sp_iret (pc := 48) hX hR rfl (Nat.le_of_ble_eq_true rfl) md_W_substitute_48
/-! PadeWorkbench.derivative(II)I -/
theorem md_W_derivative_0 : decode prog_1_method_9_code 0 = .ok (.iload_n 1, 1) := by decide +kernel
theorem md_W_derivative_1 : decode prog_1_method_9_code 1 = .ok (.invokestatic 95, 3) := by decide +kernel
theorem md_W_derivative_4 : decode prog_1_method_9_code 4 = .ok (.ifCond .eq 10, 3) := by decide +kernel
theorem md_W_derivative_14 : decode prog_1_method_9_code 14 = .ok (.aload_n 0, 1) := by decide +kernel
theorem md_W_derivative_15 : decode prog_1_method_9_code 15 = .ok (.bipush (-2), 2) := by decide +kernel
theorem md_W_derivative_17 : decode prog_1_method_9_code 17 = .ok (.invokevirtual 79, 3) := by decide +kernel
theorem md_W_derivative_20 : decode prog_1_method_9_code 20 = .ok (.ireturn, 1) := by decide +kernel
theorem md_W_derivative_7 : decode prog_1_method_9_code 7 = .ok (.iload_n 2, 1) := by decide +kernel
theorem md_W_derivative_8 : decode prog_1_method_9_code 8 = .ok (.invokestatic 95, 3) := by decide +kernel
theorem md_W_derivative_11 : decode prog_1_method_9_code 11 = .ok (.ifCond .ne 10, 3) := by decide +kernel
theorem md_W_derivative_21 : decode prog_1_method_9_code 21 = .ok (.aload_n 0, 1) := by decide +kernel
theorem md_W_derivative_22 : decode prog_1_method_9_code 22 = .ok (.getfield 10, 3) := by decide +kernel
theorem md_W_derivative_25 : decode prog_1_method_9_code 25 = .ok (.getfield 104, 3) := by decide +kernel
theorem md_W_derivative_28 : decode prog_1_method_9_code 28 = .ok (.iload_n 1, 1) := by decide +kernel
theorem md_W_derivative_29 : decode prog_1_method_9_code 29 = .ok (.aaload, 1) := by decide +kernel
theorem md_W_derivative_30 : decode prog_1_method_9_code 30 = .ok (.aload_n 0, 1) := by decide +kernel
theorem md_W_derivative_31 : decode prog_1_method_9_code 31 = .ok (.getfield 65, 3) := by decide +kernel
theorem md_W_derivative_34 : decode prog_1_method_9_code 34 = .ok (.aload_n 0, 1) := by decide +kernel
theorem md_W_derivative_35 : decode prog_1_method_9_code 35 = .ok (.getfield 10, 3) := by decide +kernel
theorem md_W_derivative_38 : decode prog_1_method_9_code 38 = .ok (.getfield 83, 3) := by decide +kernel
theorem md_W_derivative_41 : decode prog_1_method_9_code 41 = .ok (.invokestatic 128, 3) := by decide +kernel
theorem md_W_derivative_44 : decode prog_1_method_9_code 44 = .ok (.aload_n 0, 1) := by decide +kernel
theorem md_W_derivative_45 : decode prog_1_method_9_code 45 = .ok (.iload_n 2, 1) := by decide +kernel
theorem md_W_derivative_46 : decode prog_1_method_9_code 46 = .ok (.invokevirtual 114, 3) := by decide +kernel
theorem md_W_derivative_49 : decode prog_1_method_9_code 49 = .ok (.ireturn, 1) := by decide +kernel
def mj_W_derivative_14 (x0 : Nat) (σ : pw_Sto) : Option (Int × pw_Sto) := pw_bd (mf_W_fail x0 (-2 : Int) σ) (fun v4 s3 => some (v4, s3))
def mf_W_derivative (x0 : Nat) (x1 : Int) (x2 : Int) (σ : pw_Sto) : Option (Int × pw_Sto) := pw_gd 9 x0 σ (pw_bd (mf_W_isSlot x1 σ) (fun v2 s1 => pw_ck v2 0 (if v2 = 0 then mj_W_derivative_14 x0 s1 else pw_bd (mf_W_isSlot x2 s1) (fun v6 s5 => pw_ck v6 0 (if v6 = 0 then mj_W_derivative_14 x0 s5 else (pw_gr 9 x0 0 s5).bind (fun v7 => (pw_gr 7 v7 1 s5).bind (fun v8 => (pw_ar 13 v8 x1 s5).bind (fun v9 => (pw_gr 9 x0 8 s5).bind (fun v10 => (pw_gr 9 x0 0 s5).bind (fun v11 => (pw_gi 7 v11 0 s5).bind (fun v12 => pw_bd (mf_S_slope v9 v10 v12 s5) (fun _ s13 => pw_bd (mf_W_store x0 x2 s13) (fun v15 s14 => some (v15, s14))))))))))))))
set_option maxHeartbeats 4000000 in
set_option maxRecDepth 20000 in
theorem sj_W_derivative_14 {X : pw_X Int} (hX : pw_Ok X prog_1_method_9_code "PadeWorkbench" mr_W_derivative 3) (hR : pw_RI X prog_1_method_9_code) (x0 : Nat) (σ : pw_Sto) : pw_Sp X 0 0 14 [(0, Value.ref x0)] [] σ (mj_W_derivative_14 x0 σ) := by
  unfold mj_W_derivative_14
  refine sp_aload_n (pc := 14) (k := 0) (i := 0) hX rfl 0 rfl md_W_derivative_14 ?_
  refine sp_bipush (pc := 15) hX (by decide) md_W_derivative_15 ?_
  refine sp_callVI (pc := 17) (y := my_W_fail) (ccy := prog_1_method_37_code) (nLy := 3) (ret := (some .int)) (rmy := mr_W_fail) (n := 1) (idx := 79) (As := [.int (iI (-2 : Int))]) (st := []) (o := x0) (cells' := 0) (slots' := 0) hX (fun _ h => mc_W_fail h) mk_W_fail mv_W_fail mcl_9 (fun _ h => pw_gd_of h) mq_325 ⟨(Nat.le_of_ble_eq_true rfl), (Nat.le_of_ble_eq_true rfl)⟩ rfl rfl (Nat.le_of_ble_eq_true rfl) ⟨(Nat.le_of_ble_eq_true rfl), (Nat.le_of_ble_eq_true rfl)⟩ rfl rfl md_W_derivative_17 (fun v4 s3 => ?_)
  exact sp_iret (pc := 20) hX hR rfl (Nat.le_of_ble_eq_true rfl) md_W_derivative_20
set_option maxHeartbeats 4000000 in
set_option maxRecDepth 20000 in
theorem mc_W_derivative {l : Launch} {E : pw_E} {σ : pw_Sto} {x0 : Nat} {x1 : Int} {x2 : Int} {out : Int × pw_Sto} (h : mf_W_derivative x0 x1 x2 σ = some out) : pw_CI l E my_W_derivative prog_1_method_9_code 3 (some .int) mr_W_derivative [.ref x0, .int (iI x1), .int (iI x2)] σ out := by
  unfold mf_W_derivative at h
  refine pw_entryI (by decide) (Nat.le_of_ble_eq_true rfl) (pw_gd_val h) (fun X hX hR hI => ?_)
  change pw_Ok X prog_1_method_9_code "PadeWorkbench" mr_W_derivative 3 at hX
  show pw_Sp X 0 0 0 [(0, Value.ref x0), (1, Value.int (iI x1)), (2, Value.int (iI x2))] [] σ _
  refine sp_iload_n (pc := 0) (k := 1) (i := 1) hX rfl 1 rfl md_W_derivative_0 ?_
  refine sp_callSI (pc := 1) (y := my_W_isSlot) (ccy := prog_1_method_38_code) (nLy := 1) (ret := (some .boolean)) (rmy := mr_W_isSlot) (n := 1) (idx := 95) (As := [.int (iI x1)]) (st := []) (cells' := 0) (slots' := 0) hX (fun _ h => mc_W_isSlot h) mk_W_isSlot mq_352 mq_351 ⟨(Nat.le_of_ble_eq_true rfl), (Nat.le_of_ble_eq_true rfl)⟩ rfl rfl (Nat.le_of_ble_eq_true rfl) ⟨(Nat.le_of_ble_eq_true rfl), (Nat.le_of_ble_eq_true rfl)⟩ rfl rfl md_W_derivative_1 (fun v2 s1 => ?_)
  refine sp_if_eq (pc := 4) hX 14 (by decide) md_W_derivative_4 (fun _ => ?_) (fun _ => ?_)
  · refine sp_sub [0] (L' := [(0, Value.ref x0)]) rfl ?_
    exact sj_W_derivative_14 hX hR x0 s1
  · refine sp_iload_n (pc := 7) (k := 2) (i := 2) hX rfl 2 rfl md_W_derivative_7 ?_
    refine sp_callSI (pc := 8) (y := my_W_isSlot) (ccy := prog_1_method_38_code) (nLy := 1) (ret := (some .boolean)) (rmy := mr_W_isSlot) (n := 1) (idx := 95) (As := [.int (iI x2)]) (st := []) (cells' := 0) (slots' := 0) hX (fun _ h => mc_W_isSlot h) mk_W_isSlot mq_352 mq_351 ⟨(Nat.le_of_ble_eq_true rfl), (Nat.le_of_ble_eq_true rfl)⟩ rfl rfl (Nat.le_of_ble_eq_true rfl) ⟨(Nat.le_of_ble_eq_true rfl), (Nat.le_of_ble_eq_true rfl)⟩ rfl rfl md_W_derivative_8 (fun v6 s5 => ?_)
    refine sp_if_ne (pc := 11) hX 21 (by decide) md_W_derivative_11 (fun _ => ?_) (fun _ => ?_)
    · refine sp_sub [0] (L' := [(0, Value.ref x0)]) rfl ?_
      exact sj_W_derivative_14 hX hR x0 s5
    · refine sp_aload_n (pc := 21) (k := 0) (i := 0) hX rfl 0 rfl md_W_derivative_21 ?_
      refine sp_getR (pc := 22) (ci := 9) (k := 0) (idx := 10) hX mcl_9 (by decide) mq_284 rfl md_W_derivative_22 (fun v7 => ?_)
      refine sp_getRN (pc := 25) (ci := 7) (k := 1) (idx := 104) hX mcl_7 (by decide) mn_104 rfl md_W_derivative_25 (fun v8 => ?_)
      refine sp_iload_n (pc := 28) (k := 1) (i := 1) hX rfl 1 rfl md_W_derivative_28 ?_
      refine sp_aaG (pc := 29) hX md_W_derivative_29 (fun v9 => ?_)
      refine sp_aload_n (pc := 30) (k := 0) (i := 0) hX rfl 0 rfl md_W_derivative_30 ?_
      refine sp_getR (pc := 31) (ci := 9) (k := 8) (idx := 65) hX mcl_9 (by decide) mq_292 rfl md_W_derivative_31 (fun v10 => ?_)
      refine sp_aload_n (pc := 34) (k := 0) (i := 0) hX rfl 0 rfl md_W_derivative_34 ?_
      refine sp_getR (pc := 35) (ci := 9) (k := 0) (idx := 10) hX mcl_9 (by decide) mq_284 rfl md_W_derivative_35 (fun v11 => ?_)
      refine sp_getIN (pc := 38) (ci := 7) (k := 0) (idx := 83) hX mcl_7 (by decide) mn_101 rfl md_W_derivative_38 (fun v12 => ?_)
      refine sp_callSV (pc := 41) (y := my_S_slope) (ccy := prog_10_method_5_code) (nLy := 4) (ret := none) (rmy := mr_S_slope) (n := 3) (idx := 128) (As := [.ref v9, .ref v10, .int (iI v12)]) (st := []) (cells' := 0) (slots' := 0) hX (fun _ h => mc_S_slope h) mk_S_slope mq_422 mq_421 ⟨(Nat.le_of_ble_eq_true rfl), (Nat.le_of_ble_eq_true rfl)⟩ rfl rfl (Nat.le_of_ble_eq_true rfl) ⟨(Nat.le_of_ble_eq_true rfl), (Nat.le_of_ble_eq_true rfl)⟩ rfl rfl md_W_derivative_41 (fun s13 => ?_)
      refine sp_aload_n (pc := 44) (k := 0) (i := 0) hX rfl 0 rfl md_W_derivative_44 ?_
      refine sp_iload_n (pc := 45) (k := 2) (i := 2) hX rfl 2 rfl md_W_derivative_45 ?_
      refine sp_callVI (pc := 46) (y := my_W_store) (ccy := prog_1_method_45_code) (nLy := 2) (ret := (some .int)) (rmy := mr_W_store) (n := 1) (idx := 114) (As := [.int (iI x2)]) (st := []) (o := x0) (cells' := 0) (slots' := 0) hX (fun _ h => mc_W_store h) mk_W_store mv_W_store mcl_9 (fun _ h => pw_gd_of h) mq_375 ⟨(Nat.le_of_ble_eq_true rfl), (Nat.le_of_ble_eq_true rfl)⟩ rfl rfl (Nat.le_of_ble_eq_true rfl) ⟨(Nat.le_of_ble_eq_true rfl), (Nat.le_of_ble_eq_true rfl)⟩ rfl rfl md_W_derivative_46 (fun v15 s14 => ?_)
      exact sp_iret (pc := 49) hX hR rfl (Nat.le_of_ble_eq_true rfl) md_W_derivative_49
/-! PadeWorkbench.append(I)I -/
theorem md_W_append_0 : decode prog_1_method_10_code 0 = .ok (.iload_n 1, 1) := by decide +kernel
theorem md_W_append_1 : decode prog_1_method_10_code 1 = .ok (.ifCond .lt 9, 3) := by decide +kernel
theorem md_W_append_10 : decode prog_1_method_10_code 10 = .ok (.aload_n 0, 1) := by decide +kernel
theorem md_W_append_11 : decode prog_1_method_10_code 11 = .ok (.bipush (-2), 2) := by decide +kernel
theorem md_W_append_13 : decode prog_1_method_10_code 13 = .ok (.invokevirtual 79, 3) := by decide +kernel
theorem md_W_append_16 : decode prog_1_method_10_code 16 = .ok (.ireturn, 1) := by decide +kernel
theorem md_W_append_4 : decode prog_1_method_10_code 4 = .ok (.iload_n 1, 1) := by decide +kernel
theorem md_W_append_5 : decode prog_1_method_10_code 5 = .ok (.bipush 127, 2) := by decide +kernel
theorem md_W_append_7 : decode prog_1_method_10_code 7 = .ok (.if_icmp .le 10, 3) := by decide +kernel
theorem md_W_append_17 : decode prog_1_method_10_code 17 = .ok (.aload_n 0, 1) := by decide +kernel
theorem md_W_append_18 : decode prog_1_method_10_code 18 = .ok (.getfield 26, 3) := by decide +kernel
theorem md_W_append_21 : decode prog_1_method_10_code 21 = .ok (.getfield 131, 3) := by decide +kernel
theorem md_W_append_24 : decode prog_1_method_10_code 24 = .ok (.bipush 80, 2) := by decide +kernel
theorem md_W_append_26 : decode prog_1_method_10_code 26 = .ok (.if_icmp .lt 10, 3) := by decide +kernel
theorem md_W_append_36 : decode prog_1_method_10_code 36 = .ok (.aload_n 0, 1) := by decide +kernel
theorem md_W_append_37 : decode prog_1_method_10_code 37 = .ok (.getfield 26, 3) := by decide +kernel
theorem md_W_append_40 : decode prog_1_method_10_code 40 = .ok (.iload_n 1, 1) := by decide +kernel
theorem md_W_append_41 : decode prog_1_method_10_code 41 = .ok (.invokevirtual 134, 3) := by decide +kernel
theorem md_W_append_44 : decode prog_1_method_10_code 44 = .ok (.aload_n 0, 1) := by decide +kernel
theorem md_W_append_45 : decode prog_1_method_10_code 45 = .ok (.getfield 26, 3) := by decide +kernel
theorem md_W_append_48 : decode prog_1_method_10_code 48 = .ok (.getfield 131, 3) := by decide +kernel
theorem md_W_append_51 : decode prog_1_method_10_code 51 = .ok (.ireturn, 1) := by decide +kernel
theorem md_W_append_29 : decode prog_1_method_10_code 29 = .ok (.aload_n 0, 1) := by decide +kernel
theorem md_W_append_30 : decode prog_1_method_10_code 30 = .ok (.bipush (-4), 2) := by decide +kernel
theorem md_W_append_32 : decode prog_1_method_10_code 32 = .ok (.invokevirtual 79, 3) := by decide +kernel
theorem md_W_append_35 : decode prog_1_method_10_code 35 = .ok (.ireturn, 1) := by decide +kernel
def mj_W_append_10 (x0 : Nat) (σ : pw_Sto) : Option (Int × pw_Sto) := pw_bd (mf_W_fail x0 (-2 : Int) σ) (fun v2 s1 => some (v2, s1))
def mf_W_append (x0 : Nat) (x1 : Int) (σ : pw_Sto) : Option (Int × pw_Sto) := pw_gd 9 x0 σ (pw_ck x1 0 (if x1 < 0 then mj_W_append_10 x0 σ else pw_ck x1 (127 : Int) (if x1 ≤ (127 : Int) then (pw_gr 9 x0 2 σ).bind (fun v3 => (pw_gi 2 v3 1 σ).bind (fun v4 => pw_ck v4 (80 : Int) (if v4 < (80 : Int) then (pw_gr 9 x0 2 σ).bind (fun v5 => pw_bd (mf_T_put v5 x1 σ) (fun _ s6 => (pw_gr 9 x0 2 s6).bind (fun v7 => (pw_gi 2 v7 1 s6).bind (fun v8 => some (v8, s6))))) else pw_bd (mf_W_fail x0 (-4 : Int) σ) (fun v10 s9 => some (v10, s9))))) else mj_W_append_10 x0 σ)))
set_option maxHeartbeats 4000000 in
set_option maxRecDepth 20000 in
theorem sj_W_append_10 {X : pw_X Int} (hX : pw_Ok X prog_1_method_10_code "PadeWorkbench" mr_W_append 2) (hR : pw_RI X prog_1_method_10_code) (x0 : Nat) (σ : pw_Sto) : pw_Sp X 0 0 10 [(0, Value.ref x0)] [] σ (mj_W_append_10 x0 σ) := by
  unfold mj_W_append_10
  refine sp_aload_n (pc := 10) (k := 0) (i := 0) hX rfl 0 rfl md_W_append_10 ?_
  refine sp_bipush (pc := 11) hX (by decide) md_W_append_11 ?_
  refine sp_callVI (pc := 13) (y := my_W_fail) (ccy := prog_1_method_37_code) (nLy := 3) (ret := (some .int)) (rmy := mr_W_fail) (n := 1) (idx := 79) (As := [.int (iI (-2 : Int))]) (st := []) (o := x0) (cells' := 0) (slots' := 0) hX (fun _ h => mc_W_fail h) mk_W_fail mv_W_fail mcl_9 (fun _ h => pw_gd_of h) mq_325 ⟨(Nat.le_of_ble_eq_true rfl), (Nat.le_of_ble_eq_true rfl)⟩ rfl rfl (Nat.le_of_ble_eq_true rfl) ⟨(Nat.le_of_ble_eq_true rfl), (Nat.le_of_ble_eq_true rfl)⟩ rfl rfl md_W_append_13 (fun v2 s1 => ?_)
  exact sp_iret (pc := 16) hX hR rfl (Nat.le_of_ble_eq_true rfl) md_W_append_16
set_option maxHeartbeats 4000000 in
set_option maxRecDepth 20000 in
theorem mc_W_append {l : Launch} {E : pw_E} {σ : pw_Sto} {x0 : Nat} {x1 : Int} {out : Int × pw_Sto} (h : mf_W_append x0 x1 σ = some out) : pw_CI l E my_W_append prog_1_method_10_code 2 (some .int) mr_W_append [.ref x0, .int (iI x1)] σ out := by
  unfold mf_W_append at h
  refine pw_entryI (by decide) (Nat.le_of_ble_eq_true rfl) (pw_gd_val h) (fun X hX hR hI => ?_)
  change pw_Ok X prog_1_method_10_code "PadeWorkbench" mr_W_append 2 at hX
  show pw_Sp X 0 0 0 [(0, Value.ref x0), (1, Value.int (iI x1))] [] σ _
  refine sp_iload_n (pc := 0) (k := 1) (i := 1) hX rfl 1 rfl md_W_append_0 ?_
  refine sp_if_lt (pc := 1) hX 10 (by decide) md_W_append_1 (fun _ => ?_) (fun _ => ?_)
  · refine sp_sub [0] (L' := [(0, Value.ref x0)]) rfl ?_
    exact sj_W_append_10 hX hR x0 σ
  · refine sp_iload_n (pc := 4) (k := 1) (i := 1) hX rfl 1 rfl md_W_append_4 ?_
    refine sp_bipush (pc := 5) hX (by decide) md_W_append_5 ?_
    refine sp_icmp_le (pc := 7) hX 17 (by decide) md_W_append_7 (fun _ => ?_) (fun _ => ?_)
    · refine sp_aload_n (pc := 17) (k := 0) (i := 0) hX rfl 0 rfl md_W_append_17 ?_
      refine sp_getR (pc := 18) (ci := 9) (k := 2) (idx := 26) hX mcl_9 (by decide) mq_286 rfl md_W_append_18 (fun v3 => ?_)
      refine sp_getIN (pc := 21) (ci := 2) (k := 1) (idx := 131) hX mcl_2 (by decide) mn_154 rfl md_W_append_21 (fun v4 => ?_)
      refine sp_bipush (pc := 24) hX (by decide) md_W_append_24 ?_
      refine sp_icmp_lt (pc := 26) hX 36 (by decide) md_W_append_26 (fun _ => ?_) (fun _ => ?_)
      · refine sp_aload_n (pc := 36) (k := 0) (i := 0) hX rfl 0 rfl md_W_append_36 ?_
        refine sp_getR (pc := 37) (ci := 9) (k := 2) (idx := 26) hX mcl_9 (by decide) mq_286 rfl md_W_append_37 (fun v5 => ?_)
        refine sp_iload_n (pc := 40) (k := 1) (i := 1) hX rfl 1 rfl md_W_append_40 ?_
        refine sp_callVV (pc := 41) (y := my_T_put) (ccy := prog_5_method_2_code) (nLy := 2) (ret := none) (rmy := mr_T_put) (n := 1) (idx := 134) (As := [.int (iI x1)]) (st := []) (o := v5) (cells' := 0) (slots' := 0) hX (fun _ h => mc_T_put h) mk_T_put mv_T_put mcl_2 (fun _ h => pw_gd_of h) mq_428 ⟨(Nat.le_of_ble_eq_true rfl), (Nat.le_of_ble_eq_true rfl)⟩ rfl rfl (Nat.le_of_ble_eq_true rfl) ⟨(Nat.le_of_ble_eq_true rfl), (Nat.le_of_ble_eq_true rfl)⟩ rfl rfl md_W_append_41 (fun s6 => ?_)
        refine sp_aload_n (pc := 44) (k := 0) (i := 0) hX rfl 0 rfl md_W_append_44 ?_
        refine sp_getR (pc := 45) (ci := 9) (k := 2) (idx := 26) hX mcl_9 (by decide) mq_286 rfl md_W_append_45 (fun v7 => ?_)
        refine sp_getIN (pc := 48) (ci := 2) (k := 1) (idx := 131) hX mcl_2 (by decide) mn_154 rfl md_W_append_48 (fun v8 => ?_)
        exact sp_iret (pc := 51) hX hR rfl (Nat.le_of_ble_eq_true rfl) md_W_append_51
      · refine sp_aload_n (pc := 29) (k := 0) (i := 0) hX rfl 0 rfl md_W_append_29 ?_
        refine sp_bipush (pc := 30) hX (by decide) md_W_append_30 ?_
        refine sp_callVI (pc := 32) (y := my_W_fail) (ccy := prog_1_method_37_code) (nLy := 3) (ret := (some .int)) (rmy := mr_W_fail) (n := 1) (idx := 79) (As := [.int (iI (-4 : Int))]) (st := []) (o := x0) (cells' := 0) (slots' := 0) hX (fun _ h => mc_W_fail h) mk_W_fail mv_W_fail mcl_9 (fun _ h => pw_gd_of h) mq_325 ⟨(Nat.le_of_ble_eq_true rfl), (Nat.le_of_ble_eq_true rfl)⟩ rfl rfl (Nat.le_of_ble_eq_true rfl) ⟨(Nat.le_of_ble_eq_true rfl), (Nat.le_of_ble_eq_true rfl)⟩ rfl rfl md_W_append_32 (fun v10 s9 => ?_)
        exact sp_iret (pc := 35) hX hR rfl (Nat.le_of_ble_eq_true rfl) md_W_append_35
    · refine sp_sub [0] (L' := [(0, Value.ref x0)]) rfl ?_
      exact sj_W_append_10 hX hR x0 σ
/-! PadeWorkbench.clearText()I -/
theorem md_W_clearText_0 : decode prog_1_method_11_code 0 = .ok (.aload_n 0, 1) := by decide +kernel
theorem md_W_clearText_1 : decode prog_1_method_11_code 1 = .ok (.getfield 26, 3) := by decide +kernel
theorem md_W_clearText_4 : decode prog_1_method_11_code 4 = .ok (.getfield 131, 3) := by decide +kernel
theorem md_W_clearText_7 : decode prog_1_method_11_code 7 = .ok (.istore_n 1, 1) := by decide +kernel
theorem md_W_clearText_8 : decode prog_1_method_11_code 8 = .ok (.aload_n 0, 1) := by decide +kernel
theorem md_W_clearText_9 : decode prog_1_method_11_code 9 = .ok (.getfield 26, 3) := by decide +kernel
theorem md_W_clearText_12 : decode prog_1_method_11_code 12 = .ok (.iconst 0, 1) := by decide +kernel
theorem md_W_clearText_13 : decode prog_1_method_11_code 13 = .ok (.putfield 131, 3) := by decide +kernel
theorem md_W_clearText_16 : decode prog_1_method_11_code 16 = .ok (.iload_n 1, 1) := by decide +kernel
theorem md_W_clearText_17 : decode prog_1_method_11_code 17 = .ok (.ireturn, 1) := by decide +kernel
def mf_W_clearText (x0 : Nat) (σ : pw_Sto) : Option (Int × pw_Sto) := pw_gd 9 x0 σ ((pw_gr 9 x0 2 σ).bind (fun v1 => (pw_gi 2 v1 1 σ).bind (fun v2 => (pw_gr 9 x0 2 σ).bind (fun v3 => (pw_pi 2 v3 1 (0 : Int) σ).bind (fun s4 => some (v2, s4))))))
set_option maxHeartbeats 4000000 in
set_option maxRecDepth 20000 in
theorem mc_W_clearText {l : Launch} {E : pw_E} {σ : pw_Sto} {x0 : Nat} {out : Int × pw_Sto} (h : mf_W_clearText x0 σ = some out) : pw_CI l E my_W_clearText prog_1_method_11_code 2 (some .int) mr_W_clearText [.ref x0] σ out := by
  unfold mf_W_clearText at h
  refine pw_entryI (by decide) (Nat.le_of_ble_eq_true rfl) (pw_gd_val h) (fun X hX hR hI => ?_)
  change pw_Ok X prog_1_method_11_code "PadeWorkbench" mr_W_clearText 2 at hX
  show pw_Sp X 0 0 0 [(0, Value.ref x0)] [] σ _
  refine sp_aload_n (pc := 0) (k := 0) (i := 0) hX rfl 0 rfl md_W_clearText_0 ?_
  refine sp_getR (pc := 1) (ci := 9) (k := 2) (idx := 26) hX mcl_9 (by decide) mq_286 rfl md_W_clearText_1 (fun v1 => ?_)
  refine sp_getIN (pc := 4) (ci := 2) (k := 1) (idx := 131) hX mcl_2 (by decide) mn_154 rfl md_W_clearText_4 (fun v2 => ?_)
  refine sp_istore_n (pc := 7) (k := 1) (i := 1) (L' := [(1, Value.int (iI v2)), (0, Value.ref x0)]) hX rfl (by decide) rfl md_W_clearText_7 ?_
  refine sp_aload_n (pc := 8) (k := 0) (i := 0) hX rfl 1 rfl md_W_clearText_8 ?_
  refine sp_getR (pc := 9) (ci := 9) (k := 2) (idx := 26) hX mcl_9 (by decide) mq_286 rfl md_W_clearText_9 (fun v3 => ?_)
  refine sp_iconst (pc := 12) hX md_W_clearText_12 ?_
  refine sp_putIN (pc := 13) (ci := 2) (k := 1) (idx := 131) hX mcl_2 (by decide) mn_154 rfl rfl rfl md_W_clearText_13 (fun s4 => ?_)
  refine sp_iload_n (pc := 16) (k := 1) (i := 1) hX rfl 0 rfl md_W_clearText_16 ?_
  exact sp_iret (pc := 17) hX hR rfl (Nat.le_of_ble_eq_true rfl) md_W_clearText_17
/-! PadeWorkbench.parse(I)I -/
theorem md_W_parse_0 : decode prog_1_method_12_code 0 = .ok (.iload_n 1, 1) := by decide +kernel
theorem md_W_parse_1 : decode prog_1_method_12_code 1 = .ok (.invokestatic 95, 3) := by decide +kernel
theorem md_W_parse_4 : decode prog_1_method_12_code 4 = .ok (.ifCond .ne 10, 3) := by decide +kernel
theorem md_W_parse_14 : decode prog_1_method_12_code 14 = .ok (.aload_n 0, 1) := by decide +kernel
theorem md_W_parse_15 : decode prog_1_method_12_code 15 = .ok (.getfield 26, 3) := by decide +kernel
theorem md_W_parse_18 : decode prog_1_method_12_code 18 = .ok (.aload_n 0, 1) := by decide +kernel
theorem md_W_parse_19 : decode prog_1_method_12_code 19 = .ok (.getfield 10, 3) := by decide +kernel
theorem md_W_parse_22 : decode prog_1_method_12_code 22 = .ok (.getfield 83, 3) := by decide +kernel
theorem md_W_parse_25 : decode prog_1_method_12_code 25 = .ok (.invokevirtual 137, 3) := by decide +kernel
theorem md_W_parse_28 : decode prog_1_method_12_code 28 = .ok (.ifCond .ne 14, 3) := by decide +kernel
theorem md_W_parse_42 : decode prog_1_method_12_code 42 = .ok (.aload_n 0, 1) := by decide +kernel
theorem md_W_parse_43 : decode prog_1_method_12_code 43 = .ok (.getfield 26, 3) := by decide +kernel
theorem md_W_parse_46 : decode prog_1_method_12_code 46 = .ok (.getfield 143, 3) := by decide +kernel
theorem md_W_parse_49 : decode prog_1_method_12_code 49 = .ok (.iconst 0, 1) := by decide +kernel
theorem md_W_parse_50 : decode prog_1_method_12_code 50 = .ok (.iaload, 1) := by decide +kernel
theorem md_W_parse_51 : decode prog_1_method_12_code 51 = .ok (.ifCond .ne 10, 3) := by decide +kernel
theorem md_W_parse_61 : decode prog_1_method_12_code 61 = .ok (.aload_n 0, 1) := by decide +kernel
theorem md_W_parse_62 : decode prog_1_method_12_code 62 = .ok (.getfield 26, 3) := by decide +kernel
theorem md_W_parse_65 : decode prog_1_method_12_code 65 = .ok (.getfield 143, 3) := by decide +kernel
theorem md_W_parse_68 : decode prog_1_method_12_code 68 = .ok (.aload_n 0, 1) := by decide +kernel
theorem md_W_parse_69 : decode prog_1_method_12_code 69 = .ok (.getfield 69, 3) := by decide +kernel
theorem md_W_parse_72 : decode prog_1_method_12_code 72 = .ok (.aload_n 0, 1) := by decide +kernel
theorem md_W_parse_73 : decode prog_1_method_12_code 73 = .ok (.getfield 10, 3) := by decide +kernel
theorem md_W_parse_76 : decode prog_1_method_12_code 76 = .ok (.getfield 83, 3) := by decide +kernel
theorem md_W_parse_79 : decode prog_1_method_12_code 79 = .ok (.invokestatic 120, 3) := by decide +kernel
theorem md_W_parse_82 : decode prog_1_method_12_code 82 = .ok (.aload_n 0, 1) := by decide +kernel
theorem md_W_parse_83 : decode prog_1_method_12_code 83 = .ok (.getfield 26, 3) := by decide +kernel
theorem md_W_parse_86 : decode prog_1_method_12_code 86 = .ok (.getfield 146, 3) := by decide +kernel
theorem md_W_parse_89 : decode prog_1_method_12_code 89 = .ok (.aload_n 0, 1) := by decide +kernel
theorem md_W_parse_90 : decode prog_1_method_12_code 90 = .ok (.getfield 69, 3) := by decide +kernel
theorem md_W_parse_93 : decode prog_1_method_12_code 93 = .ok (.aload_n 0, 1) := by decide +kernel
theorem md_W_parse_94 : decode prog_1_method_12_code 94 = .ok (.getfield 65, 3) := by decide +kernel
theorem md_W_parse_97 : decode prog_1_method_12_code 97 = .ok (.aload_n 0, 1) := by decide +kernel
theorem md_W_parse_98 : decode prog_1_method_12_code 98 = .ok (.getfield 10, 3) := by decide +kernel
theorem md_W_parse_101 : decode prog_1_method_12_code 101 = .ok (.getfield 83, 3) := by decide +kernel
theorem md_W_parse_104 : decode prog_1_method_12_code 104 = .ok (.invokestatic 117, 3) := by decide +kernel
theorem md_W_parse_107 : decode prog_1_method_12_code 107 = .ok (.aload_n 0, 1) := by decide +kernel
theorem md_W_parse_108 : decode prog_1_method_12_code 108 = .ok (.iload_n 1, 1) := by decide +kernel
theorem md_W_parse_109 : decode prog_1_method_12_code 109 = .ok (.invokevirtual 114, 3) := by decide +kernel
theorem md_W_parse_112 : decode prog_1_method_12_code 112 = .ok (.ireturn, 1) := by decide +kernel
theorem md_W_parse_54 : decode prog_1_method_12_code 54 = .ok (.aload_n 0, 1) := by decide +kernel
theorem md_W_parse_55 : decode prog_1_method_12_code 55 = .ok (.bipush (-3), 2) := by decide +kernel
theorem md_W_parse_57 : decode prog_1_method_12_code 57 = .ok (.invokevirtual 79, 3) := by decide +kernel
theorem md_W_parse_60 : decode prog_1_method_12_code 60 = .ok (.ireturn, 1) := by decide +kernel
theorem md_W_parse_31 : decode prog_1_method_12_code 31 = .ok (.bipush (-10), 2) := by decide +kernel
theorem md_W_parse_33 : decode prog_1_method_12_code 33 = .ok (.aload_n 0, 1) := by decide +kernel
theorem md_W_parse_34 : decode prog_1_method_12_code 34 = .ok (.getfield 26, 3) := by decide +kernel
theorem md_W_parse_37 : decode prog_1_method_12_code 37 = .ok (.getfield 140, 3) := by decide +kernel
theorem md_W_parse_40 : decode prog_1_method_12_code 40 = .ok (.isub, 1) := by decide +kernel
theorem md_W_parse_41 : decode prog_1_method_12_code 41 = .ok (.ireturn, 1) := by decide +kernel
theorem md_W_parse_7 : decode prog_1_method_12_code 7 = .ok (.aload_n 0, 1) := by decide +kernel
theorem md_W_parse_8 : decode prog_1_method_12_code 8 = .ok (.bipush (-2), 2) := by decide +kernel
theorem md_W_parse_10 : decode prog_1_method_12_code 10 = .ok (.invokevirtual 79, 3) := by decide +kernel
theorem md_W_parse_13 : decode prog_1_method_12_code 13 = .ok (.ireturn, 1) := by decide +kernel
def mf_W_parse (x0 : Nat) (x1 : Int) (σ : pw_Sto) : Option (Int × pw_Sto) := pw_gd 9 x0 σ (pw_bd (mf_W_isSlot x1 σ) (fun v2 s1 => pw_ck v2 0 (if v2 = 0 then pw_bd (mf_W_fail x0 (-2 : Int) s1) (fun v31 s30 => some (v31, s30)) else (pw_gr 9 x0 2 s1).bind (fun v3 => (pw_gr 9 x0 0 s1).bind (fun v4 => (pw_gi 7 v4 0 s1).bind (fun v5 => pw_bd (mf_T_readFraction v3 v5 s1) (fun v7 s6 => pw_ck v7 0 (if v7 = 0 then (pw_gr 9 x0 2 s6).bind (fun v28 => (pw_gi 2 v28 2 s6).bind (fun v29 => some (((-10 : Int) - v29), s6))) else (pw_gr 9 x0 2 s6).bind (fun v8 => (pw_gr 2 v8 5 s6).bind (fun v9 => (pw_ai v9 (0 : Int) s6).bind (fun v10 => pw_ck v10 0 (if v10 = 0 then pw_bd (mf_W_fail x0 (-3 : Int) s6) (fun v27 s26 => some (v27, s26)) else (pw_gr 9 x0 2 s6).bind (fun v11 => (pw_gr 2 v11 5 s6).bind (fun v12 => (pw_gr 9 x0 9 s6).bind (fun v13 => (pw_gr 9 x0 0 s6).bind (fun v14 => (pw_gi 7 v14 0 s6).bind (fun v15 => pw_bd (mf_S_reciprocal v12 v13 v15 s6) (fun _ s16 => (pw_gr 9 x0 2 s16).bind (fun v17 => (pw_gr 2 v17 4 s16).bind (fun v18 => (pw_gr 9 x0 9 s16).bind (fun v19 => (pw_gr 9 x0 8 s16).bind (fun v20 => (pw_gr 9 x0 0 s16).bind (fun v21 => (pw_gi 7 v21 0 s16).bind (fun v22 => pw_bd (mf_S_product v18 v19 v20 v22 s16) (fun _ s23 => pw_bd (mf_W_store x0 x1 s23) (fun v25 s24 => some (v25, s24)))))))))))))))))))))))))))
set_option maxHeartbeats 4000000 in
set_option maxRecDepth 20000 in
theorem mc_W_parse {l : Launch} {E : pw_E} {σ : pw_Sto} {x0 : Nat} {x1 : Int} {out : Int × pw_Sto} (h : mf_W_parse x0 x1 σ = some out) : pw_CI l E my_W_parse prog_1_method_12_code 2 (some .int) mr_W_parse [.ref x0, .int (iI x1)] σ out := by
  unfold mf_W_parse at h
  refine pw_entryI (by decide) (Nat.le_of_ble_eq_true rfl) (pw_gd_val h) (fun X hX hR hI => ?_)
  change pw_Ok X prog_1_method_12_code "PadeWorkbench" mr_W_parse 2 at hX
  show pw_Sp X 0 0 0 [(0, Value.ref x0), (1, Value.int (iI x1))] [] σ _
  refine sp_iload_n (pc := 0) (k := 1) (i := 1) hX rfl 1 rfl md_W_parse_0 ?_
  refine sp_callSI (pc := 1) (y := my_W_isSlot) (ccy := prog_1_method_38_code) (nLy := 1) (ret := (some .boolean)) (rmy := mr_W_isSlot) (n := 1) (idx := 95) (As := [.int (iI x1)]) (st := []) (cells' := 0) (slots' := 0) hX (fun _ h => mc_W_isSlot h) mk_W_isSlot mq_352 mq_351 ⟨(Nat.le_of_ble_eq_true rfl), (Nat.le_of_ble_eq_true rfl)⟩ rfl rfl (Nat.le_of_ble_eq_true rfl) ⟨(Nat.le_of_ble_eq_true rfl), (Nat.le_of_ble_eq_true rfl)⟩ rfl rfl md_W_parse_1 (fun v2 s1 => ?_)
  refine sp_if_ne (pc := 4) hX 14 (by decide) md_W_parse_4 (fun _ => ?_) (fun _ => ?_)
  · refine sp_aload_n (pc := 7) (k := 0) (i := 0) hX rfl 0 rfl md_W_parse_7 ?_
    refine sp_bipush (pc := 8) hX (by decide) md_W_parse_8 ?_
    refine sp_callVI (pc := 10) (y := my_W_fail) (ccy := prog_1_method_37_code) (nLy := 3) (ret := (some .int)) (rmy := mr_W_fail) (n := 1) (idx := 79) (As := [.int (iI (-2 : Int))]) (st := []) (o := x0) (cells' := 0) (slots' := 0) hX (fun _ h => mc_W_fail h) mk_W_fail mv_W_fail mcl_9 (fun _ h => pw_gd_of h) mq_325 ⟨(Nat.le_of_ble_eq_true rfl), (Nat.le_of_ble_eq_true rfl)⟩ rfl rfl (Nat.le_of_ble_eq_true rfl) ⟨(Nat.le_of_ble_eq_true rfl), (Nat.le_of_ble_eq_true rfl)⟩ rfl rfl md_W_parse_10 (fun v31 s30 => ?_)
    exact sp_iret (pc := 13) hX hR rfl (Nat.le_of_ble_eq_true rfl) md_W_parse_13
  · refine sp_aload_n (pc := 14) (k := 0) (i := 0) hX rfl 0 rfl md_W_parse_14 ?_
    refine sp_getR (pc := 15) (ci := 9) (k := 2) (idx := 26) hX mcl_9 (by decide) mq_286 rfl md_W_parse_15 (fun v3 => ?_)
    refine sp_aload_n (pc := 18) (k := 0) (i := 0) hX rfl 0 rfl md_W_parse_18 ?_
    refine sp_getR (pc := 19) (ci := 9) (k := 0) (idx := 10) hX mcl_9 (by decide) mq_284 rfl md_W_parse_19 (fun v4 => ?_)
    refine sp_getIN (pc := 22) (ci := 7) (k := 0) (idx := 83) hX mcl_7 (by decide) mn_101 rfl md_W_parse_22 (fun v5 => ?_)
    refine sp_callVI (pc := 25) (y := my_T_readFraction) (ccy := prog_5_method_3_code) (nLy := 2) (ret := (some .boolean)) (rmy := mr_T_readFraction) (n := 1) (idx := 137) (As := [.int (iI v5)]) (st := []) (o := v3) (cells' := 0) (slots' := 0) hX (fun _ h => mc_T_readFraction h) mk_T_readFraction mv_T_readFraction mcl_2 (fun _ h => pw_gd_of h) mq_440 ⟨(Nat.le_of_ble_eq_true rfl), (Nat.le_of_ble_eq_true rfl)⟩ rfl rfl (Nat.le_of_ble_eq_true rfl) ⟨(Nat.le_of_ble_eq_true rfl), (Nat.le_of_ble_eq_true rfl)⟩ rfl rfl md_W_parse_25 (fun v7 s6 => ?_)
    refine sp_if_ne (pc := 28) hX 42 (by decide) md_W_parse_28 (fun _ => ?_) (fun _ => ?_)
    · refine sp_bipush (pc := 31) hX (by decide) md_W_parse_31 ?_
      refine sp_aload_n (pc := 33) (k := 0) (i := 0) hX rfl 0 rfl md_W_parse_33 ?_
      refine sp_getR (pc := 34) (ci := 9) (k := 2) (idx := 26) hX mcl_9 (by decide) mq_286 rfl md_W_parse_34 (fun v28 => ?_)
      refine sp_getIN (pc := 37) (ci := 2) (k := 2) (idx := 140) hX mcl_2 (by decide) mn_156 rfl md_W_parse_37 (fun v29 => ?_)
      refine sp_isub (pc := 40) hX md_W_parse_40 ?_
      exact sp_iret (pc := 41) hX hR rfl (Nat.le_of_ble_eq_true rfl) md_W_parse_41
    · refine sp_aload_n (pc := 42) (k := 0) (i := 0) hX rfl 0 rfl md_W_parse_42 ?_
      refine sp_getR (pc := 43) (ci := 9) (k := 2) (idx := 26) hX mcl_9 (by decide) mq_286 rfl md_W_parse_43 (fun v8 => ?_)
      refine sp_getRN (pc := 46) (ci := 2) (k := 5) (idx := 143) hX mcl_2 (by decide) mn_161 rfl md_W_parse_46 (fun v9 => ?_)
      refine sp_iconst (pc := 49) hX md_W_parse_49 ?_
      refine sp_iaload (pc := 50) hX md_W_parse_50 (fun v10 => ?_)
      refine sp_if_ne (pc := 51) hX 61 (by decide) md_W_parse_51 (fun _ => ?_) (fun _ => ?_)
      · refine sp_aload_n (pc := 54) (k := 0) (i := 0) hX rfl 0 rfl md_W_parse_54 ?_
        refine sp_bipush (pc := 55) hX (by decide) md_W_parse_55 ?_
        refine sp_callVI (pc := 57) (y := my_W_fail) (ccy := prog_1_method_37_code) (nLy := 3) (ret := (some .int)) (rmy := mr_W_fail) (n := 1) (idx := 79) (As := [.int (iI (-3 : Int))]) (st := []) (o := x0) (cells' := 0) (slots' := 0) hX (fun _ h => mc_W_fail h) mk_W_fail mv_W_fail mcl_9 (fun _ h => pw_gd_of h) mq_325 ⟨(Nat.le_of_ble_eq_true rfl), (Nat.le_of_ble_eq_true rfl)⟩ rfl rfl (Nat.le_of_ble_eq_true rfl) ⟨(Nat.le_of_ble_eq_true rfl), (Nat.le_of_ble_eq_true rfl)⟩ rfl rfl md_W_parse_57 (fun v27 s26 => ?_)
        exact sp_iret (pc := 60) hX hR rfl (Nat.le_of_ble_eq_true rfl) md_W_parse_60
      · refine sp_aload_n (pc := 61) (k := 0) (i := 0) hX rfl 0 rfl md_W_parse_61 ?_
        refine sp_getR (pc := 62) (ci := 9) (k := 2) (idx := 26) hX mcl_9 (by decide) mq_286 rfl md_W_parse_62 (fun v11 => ?_)
        refine sp_getRN (pc := 65) (ci := 2) (k := 5) (idx := 143) hX mcl_2 (by decide) mn_161 rfl md_W_parse_65 (fun v12 => ?_)
        refine sp_aload_n (pc := 68) (k := 0) (i := 0) hX rfl 0 rfl md_W_parse_68 ?_
        refine sp_getR (pc := 69) (ci := 9) (k := 9) (idx := 69) hX mcl_9 (by decide) mq_293 rfl md_W_parse_69 (fun v13 => ?_)
        refine sp_aload_n (pc := 72) (k := 0) (i := 0) hX rfl 0 rfl md_W_parse_72 ?_
        refine sp_getR (pc := 73) (ci := 9) (k := 0) (idx := 10) hX mcl_9 (by decide) mq_284 rfl md_W_parse_73 (fun v14 => ?_)
        refine sp_getIN (pc := 76) (ci := 7) (k := 0) (idx := 83) hX mcl_7 (by decide) mn_101 rfl md_W_parse_76 (fun v15 => ?_)
        refine sp_callSV (pc := 79) (y := my_S_reciprocal) (ccy := prog_10_method_4_code) (nLy := 7) (ret := none) (rmy := mr_S_reciprocal) (n := 3) (idx := 120) (As := [.ref v12, .ref v13, .int (iI v15)]) (st := []) (cells' := 0) (slots' := 0) hX (fun _ h => mc_S_reciprocal h) mk_S_reciprocal mq_395 mq_394 ⟨(Nat.le_of_ble_eq_true rfl), (Nat.le_of_ble_eq_true rfl)⟩ rfl rfl (Nat.le_of_ble_eq_true rfl) ⟨(Nat.le_of_ble_eq_true rfl), (Nat.le_of_ble_eq_true rfl)⟩ rfl rfl md_W_parse_79 (fun s16 => ?_)
        refine sp_aload_n (pc := 82) (k := 0) (i := 0) hX rfl 0 rfl md_W_parse_82 ?_
        refine sp_getR (pc := 83) (ci := 9) (k := 2) (idx := 26) hX mcl_9 (by decide) mq_286 rfl md_W_parse_83 (fun v17 => ?_)
        refine sp_getRN (pc := 86) (ci := 2) (k := 4) (idx := 146) hX mcl_2 (by decide) mn_159 rfl md_W_parse_86 (fun v18 => ?_)
        refine sp_aload_n (pc := 89) (k := 0) (i := 0) hX rfl 0 rfl md_W_parse_89 ?_
        refine sp_getR (pc := 90) (ci := 9) (k := 9) (idx := 69) hX mcl_9 (by decide) mq_293 rfl md_W_parse_90 (fun v19 => ?_)
        refine sp_aload_n (pc := 93) (k := 0) (i := 0) hX rfl 0 rfl md_W_parse_93 ?_
        refine sp_getR (pc := 94) (ci := 9) (k := 8) (idx := 65) hX mcl_9 (by decide) mq_292 rfl md_W_parse_94 (fun v20 => ?_)
        refine sp_aload_n (pc := 97) (k := 0) (i := 0) hX rfl 0 rfl md_W_parse_97 ?_
        refine sp_getR (pc := 98) (ci := 9) (k := 0) (idx := 10) hX mcl_9 (by decide) mq_284 rfl md_W_parse_98 (fun v21 => ?_)
        refine sp_getIN (pc := 101) (ci := 7) (k := 0) (idx := 83) hX mcl_7 (by decide) mn_101 rfl md_W_parse_101 (fun v22 => ?_)
        refine sp_callSV (pc := 104) (y := my_S_product) (ccy := prog_10_method_3_code) (nLy := 7) (ret := none) (rmy := mr_S_product) (n := 4) (idx := 117) (As := [.ref v18, .ref v19, .ref v20, .int (iI v22)]) (st := []) (cells' := 0) (slots' := 0) hX (fun _ h => mc_S_product h) mk_S_product mq_388 mq_387 ⟨(Nat.le_of_ble_eq_true rfl), (Nat.le_of_ble_eq_true rfl)⟩ rfl rfl (Nat.le_of_ble_eq_true rfl) ⟨(Nat.le_of_ble_eq_true rfl), (Nat.le_of_ble_eq_true rfl)⟩ rfl rfl md_W_parse_104 (fun s23 => ?_)
        refine sp_aload_n (pc := 107) (k := 0) (i := 0) hX rfl 0 rfl md_W_parse_107 ?_
        refine sp_iload_n (pc := 108) (k := 1) (i := 1) hX rfl 1 rfl md_W_parse_108 ?_
        refine sp_callVI (pc := 109) (y := my_W_store) (ccy := prog_1_method_45_code) (nLy := 2) (ret := (some .int)) (rmy := mr_W_store) (n := 1) (idx := 114) (As := [.int (iI x1)]) (st := []) (o := x0) (cells' := 0) (slots' := 0) hX (fun _ h => mc_W_store h) mk_W_store mv_W_store mcl_9 (fun _ h => pw_gd_of h) mq_375 ⟨(Nat.le_of_ble_eq_true rfl), (Nat.le_of_ble_eq_true rfl)⟩ rfl rfl (Nat.le_of_ble_eq_true rfl) ⟨(Nat.le_of_ble_eq_true rfl), (Nat.le_of_ble_eq_true rfl)⟩ rfl rfl md_W_parse_109 (fun v25 s24 => ?_)
        exact sp_iret (pc := 112) hX hR rfl (Nat.le_of_ble_eq_true rfl) md_W_parse_112
/-! PadeWorkbench.isApproximant(III)Z -/
theorem md_W_isApproximant_0 : decode prog_1_method_41_code 0 = .ok (.iload_n 0, 1) := by decide +kernel
theorem md_W_isApproximant_1 : decode prog_1_method_41_code 1 = .ok (.invokestatic 95, 3) := by decide +kernel
theorem md_W_isApproximant_4 : decode prog_1_method_41_code 4 = .ok (.ifCond .eq 26, 3) := by decide +kernel
theorem md_W_isApproximant_30 : decode prog_1_method_41_code 30 = .ok (.iconst 0, 1) := by decide +kernel
theorem md_W_isApproximant_31 : decode prog_1_method_41_code 31 = .ok (.ireturn, 1) := by decide +kernel
theorem md_W_isApproximant_7 : decode prog_1_method_41_code 7 = .ok (.iload_n 1, 1) := by decide +kernel
theorem md_W_isApproximant_8 : decode prog_1_method_41_code 8 = .ok (.invokestatic 98, 3) := by decide +kernel
theorem md_W_isApproximant_11 : decode prog_1_method_41_code 11 = .ok (.ifCond .eq 19, 3) := by decide +kernel
theorem md_W_isApproximant_14 : decode prog_1_method_41_code 14 = .ok (.iload_n 2, 1) := by decide +kernel
theorem md_W_isApproximant_15 : decode prog_1_method_41_code 15 = .ok (.ifCond .lt 15, 3) := by decide +kernel
theorem md_W_isApproximant_18 : decode prog_1_method_41_code 18 = .ok (.iload_n 2, 1) := by decide +kernel
theorem md_W_isApproximant_19 : decode prog_1_method_41_code 19 = .ok (.bipush 16, 2) := by decide +kernel
theorem md_W_isApproximant_21 : decode prog_1_method_41_code 21 = .ok (.iload_n 1, 1) := by decide +kernel
theorem md_W_isApproximant_22 : decode prog_1_method_41_code 22 = .ok (.isub, 1) := by decide +kernel
theorem md_W_isApproximant_23 : decode prog_1_method_41_code 23 = .ok (.if_icmp .ge 7, 3) := by decide +kernel
theorem md_W_isApproximant_26 : decode prog_1_method_41_code 26 = .ok (.iconst 1, 1) := by decide +kernel
theorem md_W_isApproximant_27 : decode prog_1_method_41_code 27 = .ok (.goto 4, 3) := by decide +kernel
def mf_W_isApproximant (x0 : Int) (x1 : Int) (x2 : Int) (σ : pw_Sto) : Option (Int × pw_Sto) := pw_bd (mf_W_isSlot x0 σ) (fun v2 s1 => pw_ck v2 0 (if v2 = 0 then some ((0 : Int), s1) else pw_bd (mf_W_isTerm x1 s1) (fun v4 s3 => pw_ck v4 0 (if v4 = 0 then some ((0 : Int), s3) else pw_ck x2 0 (if x2 < 0 then some ((0 : Int), s3) else pw_ck x2 ((16 : Int) - x1) (if ((16 : Int) - x1) ≤ x2 then some ((0 : Int), s3) else some ((1 : Int), s3)))))))
set_option maxHeartbeats 4000000 in
set_option maxRecDepth 20000 in
theorem mc_W_isApproximant {l : Launch} {E : pw_E} {σ : pw_Sto} {x0 : Int} {x1 : Int} {x2 : Int} {out : Int × pw_Sto} (h : mf_W_isApproximant x0 x1 x2 σ = some out) : pw_CI l E my_W_isApproximant prog_1_method_41_code 3 (some .boolean) mr_W_isApproximant [.int (iI x0), .int (iI x1), .int (iI x2)] σ out := by
  unfold mf_W_isApproximant at h
  refine pw_entryZ (by decide) (Nat.le_of_ble_eq_true rfl) h (fun X hX hR hI => ?_)
  change pw_Ok X prog_1_method_41_code "PadeWorkbench" mr_W_isApproximant 3 at hX
  show pw_Sp X 0 0 0 [(0, Value.int (iI x0)), (1, Value.int (iI x1)), (2, Value.int (iI x2))] [] σ _
  refine sp_iload_n (pc := 0) (k := 0) (i := 0) hX rfl 0 rfl md_W_isApproximant_0 ?_
  refine sp_callSI (pc := 1) (y := my_W_isSlot) (ccy := prog_1_method_38_code) (nLy := 1) (ret := (some .boolean)) (rmy := mr_W_isSlot) (n := 1) (idx := 95) (As := [.int (iI x0)]) (st := []) (cells' := 0) (slots' := 0) hX (fun _ h => mc_W_isSlot h) mk_W_isSlot mq_352 mq_351 ⟨(Nat.le_of_ble_eq_true rfl), (Nat.le_of_ble_eq_true rfl)⟩ rfl rfl (Nat.le_of_ble_eq_true rfl) ⟨(Nat.le_of_ble_eq_true rfl), (Nat.le_of_ble_eq_true rfl)⟩ rfl rfl md_W_isApproximant_1 (fun v2 s1 => ?_)
  refine sp_if_eq (pc := 4) hX 30 (by decide) md_W_isApproximant_4 (fun _ => ?_) (fun _ => ?_)
  · refine sp_iconst (pc := 30) hX md_W_isApproximant_30 ?_
    exact sp_zret (pc := 31) hX hR (by decide) rfl (Nat.le_of_ble_eq_true rfl) md_W_isApproximant_31
  · refine sp_iload_n (pc := 7) (k := 1) (i := 1) hX rfl 1 rfl md_W_isApproximant_7 ?_
    refine sp_callSI (pc := 8) (y := my_W_isTerm) (ccy := prog_1_method_39_code) (nLy := 1) (ret := (some .boolean)) (rmy := mr_W_isTerm) (n := 1) (idx := 98) (As := [.int (iI x1)]) (st := []) (cells' := 0) (slots' := 0) hX (fun _ h => mc_W_isTerm h) mk_W_isTerm mq_355 mq_354 ⟨(Nat.le_of_ble_eq_true rfl), (Nat.le_of_ble_eq_true rfl)⟩ rfl rfl (Nat.le_of_ble_eq_true rfl) ⟨(Nat.le_of_ble_eq_true rfl), (Nat.le_of_ble_eq_true rfl)⟩ rfl rfl md_W_isApproximant_8 (fun v4 s3 => ?_)
    refine sp_if_eq (pc := 11) hX 30 (by decide) md_W_isApproximant_11 (fun _ => ?_) (fun _ => ?_)
    · refine sp_iconst (pc := 30) hX md_W_isApproximant_30 ?_
      exact sp_zret (pc := 31) hX hR (by decide) rfl (Nat.le_of_ble_eq_true rfl) md_W_isApproximant_31
    · refine sp_iload_n (pc := 14) (k := 2) (i := 2) hX rfl 2 rfl md_W_isApproximant_14 ?_
      refine sp_if_lt (pc := 15) hX 30 (by decide) md_W_isApproximant_15 (fun _ => ?_) (fun _ => ?_)
      · refine sp_iconst (pc := 30) hX md_W_isApproximant_30 ?_
        exact sp_zret (pc := 31) hX hR (by decide) rfl (Nat.le_of_ble_eq_true rfl) md_W_isApproximant_31
      · refine sp_iload_n (pc := 18) (k := 2) (i := 2) hX rfl 2 rfl md_W_isApproximant_18 ?_
        refine sp_bipush (pc := 19) hX (by decide) md_W_isApproximant_19 ?_
        refine sp_iload_n (pc := 21) (k := 1) (i := 1) hX rfl 1 rfl md_W_isApproximant_21 ?_
        refine sp_isub (pc := 22) hX md_W_isApproximant_22 ?_
        refine sp_icmp_ge (pc := 23) hX 30 (by decide) md_W_isApproximant_23 (fun _ => ?_) (fun _ => ?_)
        · refine sp_iconst (pc := 30) hX md_W_isApproximant_30 ?_
          exact sp_zret (pc := 31) hX hR (by decide) rfl (Nat.le_of_ble_eq_true rfl) md_W_isApproximant_31
        · refine sp_iconst (pc := 26) hX md_W_isApproximant_26 ?_
          refine sp_goto (pc := 27) hX 31 (by decide) md_W_isApproximant_27 ?_
          exact sp_zret (pc := 31) hX hR (by decide) rfl (Nat.le_of_ble_eq_true rfl) md_W_isApproximant_31
/-! PadeWorkbench.approximate(III)V -/
theorem md_W_approximate_0 : decode prog_1_method_47_code 0 = .ok (.aload_n 0, 1) := by decide +kernel
theorem md_W_approximate_1 : decode prog_1_method_47_code 1 = .ok (.getfield 33, 3) := by decide +kernel
theorem md_W_approximate_4 : decode prog_1_method_47_code 4 = .ok (.aload_n 0, 1) := by decide +kernel
theorem md_W_approximate_5 : decode prog_1_method_47_code 5 = .ok (.getfield 10, 3) := by decide +kernel
theorem md_W_approximate_8 : decode prog_1_method_47_code 8 = .ok (.getfield 104, 3) := by decide +kernel
theorem md_W_approximate_11 : decode prog_1_method_47_code 11 = .ok (.iload_n 1, 1) := by decide +kernel
theorem md_W_approximate_12 : decode prog_1_method_47_code 12 = .ok (.aaload, 1) := by decide +kernel
theorem md_W_approximate_13 : decode prog_1_method_47_code 13 = .ok (.iload_n 2, 1) := by decide +kernel
theorem md_W_approximate_14 : decode prog_1_method_47_code 14 = .ok (.iload_n 3, 1) := by decide +kernel
theorem md_W_approximate_15 : decode prog_1_method_47_code 15 = .ok (.iadd, 1) := by decide +kernel
theorem md_W_approximate_16 : decode prog_1_method_47_code 16 = .ok (.aload_n 0, 1) := by decide +kernel
theorem md_W_approximate_17 : decode prog_1_method_47_code 17 = .ok (.getfield 10, 3) := by decide +kernel
theorem md_W_approximate_20 : decode prog_1_method_47_code 20 = .ok (.getfield 83, 3) := by decide +kernel
theorem md_W_approximate_23 : decode prog_1_method_47_code 23 = .ok (.invokevirtual 198, 3) := by decide +kernel
theorem md_W_approximate_26 : decode prog_1_method_47_code 26 = .ok (.aload_n 0, 1) := by decide +kernel
theorem md_W_approximate_27 : decode prog_1_method_47_code 27 = .ok (.getfield 33, 3) := by decide +kernel
theorem md_W_approximate_30 : decode prog_1_method_47_code 30 = .ok (.iload_n 2, 1) := by decide +kernel
theorem md_W_approximate_31 : decode prog_1_method_47_code 31 = .ok (.invokevirtual 289, 3) := by decide +kernel
theorem md_W_approximate_34 : decode prog_1_method_47_code 34 = .ok (.aload_n 0, 1) := by decide +kernel
theorem md_W_approximate_35 : decode prog_1_method_47_code 35 = .ok (.getfield 40, 3) := by decide +kernel
theorem md_W_approximate_38 : decode prog_1_method_47_code 38 = .ok (.aload_n 0, 1) := by decide +kernel
theorem md_W_approximate_39 : decode prog_1_method_47_code 39 = .ok (.getfield 33, 3) := by decide +kernel
theorem md_W_approximate_42 : decode prog_1_method_47_code 42 = .ok (.getfield 202, 3) := by decide +kernel
theorem md_W_approximate_45 : decode prog_1_method_47_code 45 = .ok (.aload_n 0, 1) := by decide +kernel
theorem md_W_approximate_46 : decode prog_1_method_47_code 46 = .ok (.getfield 33, 3) := by decide +kernel
theorem md_W_approximate_49 : decode prog_1_method_47_code 49 = .ok (.getfield 292, 3) := by decide +kernel
theorem md_W_approximate_52 : decode prog_1_method_47_code 52 = .ok (.invokevirtual 295, 3) := by decide +kernel
theorem md_W_approximate_55 : decode prog_1_method_47_code 55 = .ok (.aload_n 0, 1) := by decide +kernel
theorem md_W_approximate_56 : decode prog_1_method_47_code 56 = .ok (.getfield 40, 3) := by decide +kernel
theorem md_W_approximate_59 : decode prog_1_method_47_code 59 = .ok (.iconst 0, 1) := by decide +kernel
theorem md_W_approximate_60 : decode prog_1_method_47_code 60 = .ok (.aload_n 0, 1) := by decide +kernel
theorem md_W_approximate_61 : decode prog_1_method_47_code 61 = .ok (.getfield 10, 3) := by decide +kernel
theorem md_W_approximate_64 : decode prog_1_method_47_code 64 = .ok (.getfield 83, 3) := by decide +kernel
theorem md_W_approximate_67 : decode prog_1_method_47_code 67 = .ok (.invokevirtual 299, 3) := by decide +kernel
theorem md_W_approximate_70 : decode prog_1_method_47_code 70 = .ok (.aload_n 0, 1) := by decide +kernel
theorem md_W_approximate_71 : decode prog_1_method_47_code 71 = .ok (.getfield 40, 3) := by decide +kernel
theorem md_W_approximate_74 : decode prog_1_method_47_code 74 = .ok (.aload_n 0, 1) := by decide +kernel
theorem md_W_approximate_75 : decode prog_1_method_47_code 75 = .ok (.getfield 10, 3) := by decide +kernel
theorem md_W_approximate_78 : decode prog_1_method_47_code 78 = .ok (.getfield 83, 3) := by decide +kernel
theorem md_W_approximate_81 : decode prog_1_method_47_code 81 = .ok (.invokevirtual 302, 3) := by decide +kernel
theorem md_W_approximate_84 : decode prog_1_method_47_code 84 = .ok (.return_, 1) := by decide +kernel
def mf_W_approximate (x0 : Nat) (x1 : Int) (x2 : Int) (x3 : Int) (σ : pw_Sto) : Option (Unit × pw_Sto) := pw_gd 9 x0 σ ((pw_gr 9 x0 3 σ).bind (fun v1 => (pw_gr 9 x0 0 σ).bind (fun v2 => (pw_gr 7 v2 1 σ).bind (fun v3 => (pw_ar 13 v3 x1 σ).bind (fun v4 => (pw_gr 9 x0 0 σ).bind (fun v5 => (pw_gi 7 v5 0 σ).bind (fun v6 => pw_bd (mf_E_startWithSeries v1 v4 (x2 + x3) v6 σ) (fun _ s7 => (pw_gr 9 x0 3 s7).bind (fun v8 => pw_bd (mf_E_runDownTo v8 x2 s7) (fun _ s9 => (pw_gr 9 x0 4 s9).bind (fun v10 => (pw_gr 9 x0 3 s9).bind (fun v11 => (pw_gr 0 v11 1 s9).bind (fun v12 => (pw_gr 9 x0 3 s9).bind (fun v13 => (pw_gr 0 v13 3 s9).bind (fun v14 => pw_bd (mf_R_take v10 v12 v14 s9) (fun _ s15 => (pw_gr 9 x0 4 s15).bind (fun v16 => (pw_gr 9 x0 0 s15).bind (fun v17 => (pw_gi 7 v17 0 s15).bind (fun v18 => pw_bd (mf_R_cancelRoot v16 (0 : Int) v18 s15) (fun _ s19 => (pw_gr 9 x0 4 s19).bind (fun v20 => (pw_gr 9 x0 0 s19).bind (fun v21 => (pw_gi 7 v21 0 s19).bind (fun v22 => pw_bd (mf_R_scale v20 v22 s19) (fun _ s23 => some ((), s23)))))))))))))))))))))))))
set_option maxHeartbeats 4000000 in
set_option maxRecDepth 20000 in
theorem mc_W_approximate {l : Launch} {E : pw_E} {σ : pw_Sto} {x0 : Nat} {x1 : Int} {x2 : Int} {x3 : Int} {out : Unit × pw_Sto} (h : mf_W_approximate x0 x1 x2 x3 σ = some out) : pw_CV l E my_W_approximate prog_1_method_47_code 4 none mr_W_approximate [.ref x0, .int (iI x1), .int (iI x2), .int (iI x3)] σ out := by
  unfold mf_W_approximate at h
  refine pw_entryV (by decide) (Nat.le_of_ble_eq_true rfl) (pw_gd_val h) (fun X hX hR hI => ?_)
  change pw_Ok X prog_1_method_47_code "PadeWorkbench" mr_W_approximate 4 at hX
  show pw_Sp X 0 0 0 [(0, Value.ref x0), (1, Value.int (iI x1)), (2, Value.int (iI x2)), (3, Value.int (iI x3))] [] σ _
  refine sp_aload_n (pc := 0) (k := 0) (i := 0) hX rfl 0 rfl md_W_approximate_0 ?_
  refine sp_getR (pc := 1) (ci := 9) (k := 3) (idx := 33) hX mcl_9 (by decide) mq_287 rfl md_W_approximate_1 (fun v1 => ?_)
  refine sp_aload_n (pc := 4) (k := 0) (i := 0) hX rfl 0 rfl md_W_approximate_4 ?_
  refine sp_getR (pc := 5) (ci := 9) (k := 0) (idx := 10) hX mcl_9 (by decide) mq_284 rfl md_W_approximate_5 (fun v2 => ?_)
  refine sp_getRN (pc := 8) (ci := 7) (k := 1) (idx := 104) hX mcl_7 (by decide) mn_104 rfl md_W_approximate_8 (fun v3 => ?_)
  refine sp_iload_n (pc := 11) (k := 1) (i := 1) hX rfl 1 rfl md_W_approximate_11 ?_
  refine sp_aaG (pc := 12) hX md_W_approximate_12 (fun v4 => ?_)
  refine sp_iload_n (pc := 13) (k := 2) (i := 2) hX rfl 2 rfl md_W_approximate_13 ?_
  refine sp_iload_n (pc := 14) (k := 3) (i := 3) hX rfl 3 rfl md_W_approximate_14 ?_
  refine sp_iadd (pc := 15) hX md_W_approximate_15 ?_
  refine sp_aload_n (pc := 16) (k := 0) (i := 0) hX rfl 0 rfl md_W_approximate_16 ?_
  refine sp_getR (pc := 17) (ci := 9) (k := 0) (idx := 10) hX mcl_9 (by decide) mq_284 rfl md_W_approximate_17 (fun v5 => ?_)
  refine sp_getIN (pc := 20) (ci := 7) (k := 0) (idx := 83) hX mcl_7 (by decide) mn_101 rfl md_W_approximate_20 (fun v6 => ?_)
  refine sp_callVV (pc := 23) (y := my_E_startWithSeries) (ccy := prog_2_method_2_code) (nLy := 4) (ret := none) (rmy := mr_E_startWithSeries) (n := 3) (idx := 198) (As := [.ref v4, .int (iI (x2 + x3)), .int (iI v6)]) (st := []) (o := v1) (cells' := 0) (slots' := 0) hX (fun _ h => mc_E_startWithSeries h) mk_E_startWithSeries mv_E_startWithSeries mcl_0 (fun _ h => pw_gd_of h) mq_488 ⟨(Nat.le_of_ble_eq_true rfl), (Nat.le_of_ble_eq_true rfl)⟩ rfl rfl (Nat.le_of_ble_eq_true rfl) ⟨(Nat.le_of_ble_eq_true rfl), (Nat.le_of_ble_eq_true rfl)⟩ rfl rfl md_W_approximate_23 (fun s7 => ?_)
  refine sp_aload_n (pc := 26) (k := 0) (i := 0) hX rfl 0 rfl md_W_approximate_26 ?_
  refine sp_getR (pc := 27) (ci := 9) (k := 3) (idx := 33) hX mcl_9 (by decide) mq_287 rfl md_W_approximate_27 (fun v8 => ?_)
  refine sp_iload_n (pc := 30) (k := 2) (i := 2) hX rfl 2 rfl md_W_approximate_30 ?_
  refine sp_callVV (pc := 31) (y := my_E_runDownTo) (ccy := prog_2_method_5_code) (nLy := 3) (ret := none) (rmy := mr_E_runDownTo) (n := 1) (idx := 289) (As := [.int (iI x2)]) (st := []) (o := v8) (cells' := 0) (slots' := 0) hX (fun _ h => mc_E_runDownTo h) mk_E_runDownTo mv_E_runDownTo mcl_0 (fun _ h => pw_gd_of h) mq_514 ⟨(Nat.le_of_ble_eq_true rfl), (Nat.le_of_ble_eq_true rfl)⟩ rfl rfl (Nat.le_of_ble_eq_true rfl) ⟨(Nat.le_of_ble_eq_true rfl), (Nat.le_of_ble_eq_true rfl)⟩ rfl rfl md_W_approximate_31 (fun s9 => ?_)
  refine sp_aload_n (pc := 34) (k := 0) (i := 0) hX rfl 0 rfl md_W_approximate_34 ?_
  refine sp_getR (pc := 35) (ci := 9) (k := 4) (idx := 40) hX mcl_9 (by decide) mq_288 rfl md_W_approximate_35 (fun v10 => ?_)
  refine sp_aload_n (pc := 38) (k := 0) (i := 0) hX rfl 0 rfl md_W_approximate_38 ?_
  refine sp_getR (pc := 39) (ci := 9) (k := 3) (idx := 33) hX mcl_9 (by decide) mq_287 rfl md_W_approximate_39 (fun v11 => ?_)
  refine sp_getRN (pc := 42) (ci := 0) (k := 1) (idx := 202) hX mcl_0 (by decide) mn_202 rfl md_W_approximate_42 (fun v12 => ?_)
  refine sp_aload_n (pc := 45) (k := 0) (i := 0) hX rfl 0 rfl md_W_approximate_45 ?_
  refine sp_getR (pc := 46) (ci := 9) (k := 3) (idx := 33) hX mcl_9 (by decide) mq_287 rfl md_W_approximate_46 (fun v13 => ?_)
  refine sp_getRN (pc := 49) (ci := 0) (k := 3) (idx := 292) hX mcl_0 (by decide) mn_205 rfl md_W_approximate_49 (fun v14 => ?_)
  refine sp_callVV (pc := 52) (y := my_R_take) (ccy := prog_4_method_2_code) (nLy := 3) (ret := none) (rmy := mr_R_take) (n := 2) (idx := 295) (As := [.ref v12, .ref v14]) (st := []) (o := v10) (cells' := 0) (slots' := 0) hX (fun _ h => mc_R_take h) mk_R_take mv_R_take mcl_1 (fun _ h => pw_gd_of h) mq_535 ⟨(Nat.le_of_ble_eq_true rfl), (Nat.le_of_ble_eq_true rfl)⟩ rfl rfl (Nat.le_of_ble_eq_true rfl) ⟨(Nat.le_of_ble_eq_true rfl), (Nat.le_of_ble_eq_true rfl)⟩ rfl rfl md_W_approximate_52 (fun s15 => ?_)
  refine sp_aload_n (pc := 55) (k := 0) (i := 0) hX rfl 0 rfl md_W_approximate_55 ?_
  refine sp_getR (pc := 56) (ci := 9) (k := 4) (idx := 40) hX mcl_9 (by decide) mq_288 rfl md_W_approximate_56 (fun v16 => ?_)
  refine sp_iconst (pc := 59) hX md_W_approximate_59 ?_
  refine sp_aload_n (pc := 60) (k := 0) (i := 0) hX rfl 0 rfl md_W_approximate_60 ?_
  refine sp_getR (pc := 61) (ci := 9) (k := 0) (idx := 10) hX mcl_9 (by decide) mq_284 rfl md_W_approximate_61 (fun v17 => ?_)
  refine sp_getIN (pc := 64) (ci := 7) (k := 0) (idx := 83) hX mcl_7 (by decide) mn_101 rfl md_W_approximate_64 (fun v18 => ?_)
  refine sp_callVV (pc := 67) (y := my_R_cancelRoot) (ccy := prog_4_method_3_code) (nLy := 4) (ret := none) (rmy := mr_R_cancelRoot) (n := 2) (idx := 299) (As := [.int (iI (0 : Int)), .int (iI v18)]) (st := []) (o := v16) (cells' := 0) (slots' := 0) hX (fun _ h => mc_R_cancelRoot h) mk_R_cancelRoot mv_R_cancelRoot mcl_1 (fun _ h => pw_gd_of h) mq_545 ⟨(Nat.le_of_ble_eq_true rfl), (Nat.le_of_ble_eq_true rfl)⟩ rfl rfl (Nat.le_of_ble_eq_true rfl) ⟨(Nat.le_of_ble_eq_true rfl), (Nat.le_of_ble_eq_true rfl)⟩ rfl rfl md_W_approximate_67 (fun s19 => ?_)
  refine sp_aload_n (pc := 70) (k := 0) (i := 0) hX rfl 0 rfl md_W_approximate_70 ?_
  refine sp_getR (pc := 71) (ci := 9) (k := 4) (idx := 40) hX mcl_9 (by decide) mq_288 rfl md_W_approximate_71 (fun v20 => ?_)
  refine sp_aload_n (pc := 74) (k := 0) (i := 0) hX rfl 0 rfl md_W_approximate_74 ?_
  refine sp_getR (pc := 75) (ci := 9) (k := 0) (idx := 10) hX mcl_9 (by decide) mq_284 rfl md_W_approximate_75 (fun v21 => ?_)
  refine sp_getIN (pc := 78) (ci := 7) (k := 0) (idx := 83) hX mcl_7 (by decide) mn_101 rfl md_W_approximate_78 (fun v22 => ?_)
  refine sp_callVV (pc := 81) (y := my_R_scale) (ccy := prog_4_method_4_code) (nLy := 3) (ret := none) (rmy := mr_R_scale) (n := 1) (idx := 302) (As := [.int (iI v22)]) (st := []) (o := v20) (cells' := 0) (slots' := 0) hX (fun _ h => mc_R_scale h) mk_R_scale mv_R_scale mcl_1 (fun _ h => pw_gd_of h) mq_557 ⟨(Nat.le_of_ble_eq_true rfl), (Nat.le_of_ble_eq_true rfl)⟩ rfl rfl (Nat.le_of_ble_eq_true rfl) ⟨(Nat.le_of_ble_eq_true rfl), (Nat.le_of_ble_eq_true rfl)⟩ rfl rfl md_W_approximate_81 (fun s23 => ?_)
  exact sp_vret (pc := 84) hX hR rfl (Nat.le_of_ble_eq_true rfl) md_W_approximate_84
/-! PadeWorkbench.numeratorDegree(III)I -/
theorem md_W_numeratorDegree_0 : decode prog_1_method_13_code 0 = .ok (.iload_n 1, 1) := by decide +kernel
theorem md_W_numeratorDegree_1 : decode prog_1_method_13_code 1 = .ok (.iload_n 2, 1) := by decide +kernel
theorem md_W_numeratorDegree_2 : decode prog_1_method_13_code 2 = .ok (.iload_n 3, 1) := by decide +kernel
theorem md_W_numeratorDegree_3 : decode prog_1_method_13_code 3 = .ok (.invokestatic 149, 3) := by decide +kernel
theorem md_W_numeratorDegree_6 : decode prog_1_method_13_code 6 = .ok (.ifCond .ne 10, 3) := by decide +kernel
theorem md_W_numeratorDegree_16 : decode prog_1_method_13_code 16 = .ok (.aload_n 0, 1) := by decide +kernel
theorem md_W_numeratorDegree_17 : decode prog_1_method_13_code 17 = .ok (.iload_n 1, 1) := by decide +kernel
theorem md_W_numeratorDegree_18 : decode prog_1_method_13_code 18 = .ok (.iload_n 2, 1) := by decide +kernel
theorem md_W_numeratorDegree_19 : decode prog_1_method_13_code 19 = .ok (.iload_n 3, 1) := by decide +kernel
theorem md_W_numeratorDegree_20 : decode prog_1_method_13_code 20 = .ok (.invokevirtual 153, 3) := by decide +kernel
theorem md_W_numeratorDegree_23 : decode prog_1_method_13_code 23 = .ok (.aload_n 0, 1) := by decide +kernel
theorem md_W_numeratorDegree_24 : decode prog_1_method_13_code 24 = .ok (.getfield 40, 3) := by decide +kernel
theorem md_W_numeratorDegree_27 : decode prog_1_method_13_code 27 = .ok (.getfield 157, 3) := by decide +kernel
theorem md_W_numeratorDegree_30 : decode prog_1_method_13_code 30 = .ok (.getfield 160, 3) := by decide +kernel
theorem md_W_numeratorDegree_33 : decode prog_1_method_13_code 33 = .ok (.ireturn, 1) := by decide +kernel
theorem md_W_numeratorDegree_9 : decode prog_1_method_13_code 9 = .ok (.aload_n 0, 1) := by decide +kernel
theorem md_W_numeratorDegree_10 : decode prog_1_method_13_code 10 = .ok (.bipush (-2), 2) := by decide +kernel
theorem md_W_numeratorDegree_12 : decode prog_1_method_13_code 12 = .ok (.invokevirtual 79, 3) := by decide +kernel
theorem md_W_numeratorDegree_15 : decode prog_1_method_13_code 15 = .ok (.ireturn, 1) := by decide +kernel
def mf_W_numeratorDegree (x0 : Nat) (x1 : Int) (x2 : Int) (x3 : Int) (σ : pw_Sto) : Option (Int × pw_Sto) := pw_gd 9 x0 σ (pw_bd (mf_W_isApproximant x1 x2 x3 σ) (fun v2 s1 => pw_ck v2 0 (if v2 = 0 then pw_bd (mf_W_fail x0 (-2 : Int) s1) (fun v8 s7 => some (v8, s7)) else pw_bd (mf_W_approximate x0 x1 x2 x3 s1) (fun _ s3 => (pw_gr 9 x0 4 s3).bind (fun v4 => (pw_gr 1 v4 0 s3).bind (fun v5 => (pw_gi 4 v5 1 s3).bind (fun v6 => some (v6, s3))))))))
set_option maxHeartbeats 4000000 in
set_option maxRecDepth 20000 in
theorem mc_W_numeratorDegree {l : Launch} {E : pw_E} {σ : pw_Sto} {x0 : Nat} {x1 : Int} {x2 : Int} {x3 : Int} {out : Int × pw_Sto} (h : mf_W_numeratorDegree x0 x1 x2 x3 σ = some out) : pw_CI l E my_W_numeratorDegree prog_1_method_13_code 4 (some .int) mr_W_numeratorDegree [.ref x0, .int (iI x1), .int (iI x2), .int (iI x3)] σ out := by
  unfold mf_W_numeratorDegree at h
  refine pw_entryI (by decide) (Nat.le_of_ble_eq_true rfl) (pw_gd_val h) (fun X hX hR hI => ?_)
  change pw_Ok X prog_1_method_13_code "PadeWorkbench" mr_W_numeratorDegree 4 at hX
  show pw_Sp X 0 0 0 [(0, Value.ref x0), (1, Value.int (iI x1)), (2, Value.int (iI x2)), (3, Value.int (iI x3))] [] σ _
  refine sp_iload_n (pc := 0) (k := 1) (i := 1) hX rfl 1 rfl md_W_numeratorDegree_0 ?_
  refine sp_iload_n (pc := 1) (k := 2) (i := 2) hX rfl 2 rfl md_W_numeratorDegree_1 ?_
  refine sp_iload_n (pc := 2) (k := 3) (i := 3) hX rfl 3 rfl md_W_numeratorDegree_2 ?_
  refine sp_callSI (pc := 3) (y := my_W_isApproximant) (ccy := prog_1_method_41_code) (nLy := 3) (ret := (some .boolean)) (rmy := mr_W_isApproximant) (n := 3) (idx := 149) (As := [.int (iI x1), .int (iI x2), .int (iI x3)]) (st := []) (cells' := 0) (slots' := 0) hX (fun _ h => mc_W_isApproximant h) mk_W_isApproximant mq_482 mq_481 ⟨(Nat.le_of_ble_eq_true rfl), (Nat.le_of_ble_eq_true rfl)⟩ rfl rfl (Nat.le_of_ble_eq_true rfl) ⟨(Nat.le_of_ble_eq_true rfl), (Nat.le_of_ble_eq_true rfl)⟩ rfl rfl md_W_numeratorDegree_3 (fun v2 s1 => ?_)
  refine sp_if_ne (pc := 6) hX 16 (by decide) md_W_numeratorDegree_6 (fun _ => ?_) (fun _ => ?_)
  · refine sp_aload_n (pc := 9) (k := 0) (i := 0) hX rfl 0 rfl md_W_numeratorDegree_9 ?_
    refine sp_bipush (pc := 10) hX (by decide) md_W_numeratorDegree_10 ?_
    refine sp_callVI (pc := 12) (y := my_W_fail) (ccy := prog_1_method_37_code) (nLy := 3) (ret := (some .int)) (rmy := mr_W_fail) (n := 1) (idx := 79) (As := [.int (iI (-2 : Int))]) (st := []) (o := x0) (cells' := 0) (slots' := 0) hX (fun _ h => mc_W_fail h) mk_W_fail mv_W_fail mcl_9 (fun _ h => pw_gd_of h) mq_325 ⟨(Nat.le_of_ble_eq_true rfl), (Nat.le_of_ble_eq_true rfl)⟩ rfl rfl (Nat.le_of_ble_eq_true rfl) ⟨(Nat.le_of_ble_eq_true rfl), (Nat.le_of_ble_eq_true rfl)⟩ rfl rfl md_W_numeratorDegree_12 (fun v8 s7 => ?_)
    exact sp_iret (pc := 15) hX hR rfl (Nat.le_of_ble_eq_true rfl) md_W_numeratorDegree_15
  · refine sp_aload_n (pc := 16) (k := 0) (i := 0) hX rfl 0 rfl md_W_numeratorDegree_16 ?_
    refine sp_iload_n (pc := 17) (k := 1) (i := 1) hX rfl 1 rfl md_W_numeratorDegree_17 ?_
    refine sp_iload_n (pc := 18) (k := 2) (i := 2) hX rfl 2 rfl md_W_numeratorDegree_18 ?_
    refine sp_iload_n (pc := 19) (k := 3) (i := 3) hX rfl 3 rfl md_W_numeratorDegree_19 ?_
    refine sp_callVV (pc := 20) (y := my_W_approximate) (ccy := prog_1_method_47_code) (nLy := 4) (ret := none) (rmy := mr_W_approximate) (n := 3) (idx := 153) (As := [.int (iI x1), .int (iI x2), .int (iI x3)]) (st := []) (o := x0) (cells' := 0) (slots' := 0) hX (fun _ h => mc_W_approximate h) mk_W_approximate mv_W_approximate mcl_9 (fun _ h => pw_gd_of h) mq_484 ⟨(Nat.le_of_ble_eq_true rfl), (Nat.le_of_ble_eq_true rfl)⟩ rfl rfl (Nat.le_of_ble_eq_true rfl) ⟨(Nat.le_of_ble_eq_true rfl), (Nat.le_of_ble_eq_true rfl)⟩ rfl rfl md_W_numeratorDegree_20 (fun s3 => ?_)
    refine sp_aload_n (pc := 23) (k := 0) (i := 0) hX rfl 0 rfl md_W_numeratorDegree_23 ?_
    refine sp_getR (pc := 24) (ci := 9) (k := 4) (idx := 40) hX mcl_9 (by decide) mq_288 rfl md_W_numeratorDegree_24 (fun v4 => ?_)
    refine sp_getRN (pc := 27) (ci := 1) (k := 0) (idx := 157) hX mcl_1 (by decide) mn_231 rfl md_W_numeratorDegree_27 (fun v5 => ?_)
    refine sp_getIN (pc := 30) (ci := 4) (k := 1) (idx := 160) hX mcl_4 (by decide) mn_194 rfl md_W_numeratorDegree_30 (fun v6 => ?_)
    exact sp_iret (pc := 33) hX hR rfl (Nat.le_of_ble_eq_true rfl) md_W_numeratorDegree_33
/-! PadeWorkbench.denominatorDegree(III)I -/
theorem md_W_denominatorDegree_0 : decode prog_1_method_14_code 0 = .ok (.iload_n 1, 1) := by decide +kernel
theorem md_W_denominatorDegree_1 : decode prog_1_method_14_code 1 = .ok (.iload_n 2, 1) := by decide +kernel
theorem md_W_denominatorDegree_2 : decode prog_1_method_14_code 2 = .ok (.iload_n 3, 1) := by decide +kernel
theorem md_W_denominatorDegree_3 : decode prog_1_method_14_code 3 = .ok (.invokestatic 149, 3) := by decide +kernel
theorem md_W_denominatorDegree_6 : decode prog_1_method_14_code 6 = .ok (.ifCond .ne 10, 3) := by decide +kernel
theorem md_W_denominatorDegree_16 : decode prog_1_method_14_code 16 = .ok (.aload_n 0, 1) := by decide +kernel
theorem md_W_denominatorDegree_17 : decode prog_1_method_14_code 17 = .ok (.iload_n 1, 1) := by decide +kernel
theorem md_W_denominatorDegree_18 : decode prog_1_method_14_code 18 = .ok (.iload_n 2, 1) := by decide +kernel
theorem md_W_denominatorDegree_19 : decode prog_1_method_14_code 19 = .ok (.iload_n 3, 1) := by decide +kernel
theorem md_W_denominatorDegree_20 : decode prog_1_method_14_code 20 = .ok (.invokevirtual 153, 3) := by decide +kernel
theorem md_W_denominatorDegree_23 : decode prog_1_method_14_code 23 = .ok (.aload_n 0, 1) := by decide +kernel
theorem md_W_denominatorDegree_24 : decode prog_1_method_14_code 24 = .ok (.getfield 40, 3) := by decide +kernel
theorem md_W_denominatorDegree_27 : decode prog_1_method_14_code 27 = .ok (.getfield 165, 3) := by decide +kernel
theorem md_W_denominatorDegree_30 : decode prog_1_method_14_code 30 = .ok (.getfield 160, 3) := by decide +kernel
theorem md_W_denominatorDegree_33 : decode prog_1_method_14_code 33 = .ok (.ireturn, 1) := by decide +kernel
theorem md_W_denominatorDegree_9 : decode prog_1_method_14_code 9 = .ok (.aload_n 0, 1) := by decide +kernel
theorem md_W_denominatorDegree_10 : decode prog_1_method_14_code 10 = .ok (.bipush (-2), 2) := by decide +kernel
theorem md_W_denominatorDegree_12 : decode prog_1_method_14_code 12 = .ok (.invokevirtual 79, 3) := by decide +kernel
theorem md_W_denominatorDegree_15 : decode prog_1_method_14_code 15 = .ok (.ireturn, 1) := by decide +kernel
def mf_W_denominatorDegree (x0 : Nat) (x1 : Int) (x2 : Int) (x3 : Int) (σ : pw_Sto) : Option (Int × pw_Sto) := pw_gd 9 x0 σ (pw_bd (mf_W_isApproximant x1 x2 x3 σ) (fun v2 s1 => pw_ck v2 0 (if v2 = 0 then pw_bd (mf_W_fail x0 (-2 : Int) s1) (fun v8 s7 => some (v8, s7)) else pw_bd (mf_W_approximate x0 x1 x2 x3 s1) (fun _ s3 => (pw_gr 9 x0 4 s3).bind (fun v4 => (pw_gr 1 v4 1 s3).bind (fun v5 => (pw_gi 4 v5 1 s3).bind (fun v6 => some (v6, s3))))))))
set_option maxHeartbeats 4000000 in
set_option maxRecDepth 20000 in
theorem mc_W_denominatorDegree {l : Launch} {E : pw_E} {σ : pw_Sto} {x0 : Nat} {x1 : Int} {x2 : Int} {x3 : Int} {out : Int × pw_Sto} (h : mf_W_denominatorDegree x0 x1 x2 x3 σ = some out) : pw_CI l E my_W_denominatorDegree prog_1_method_14_code 4 (some .int) mr_W_denominatorDegree [.ref x0, .int (iI x1), .int (iI x2), .int (iI x3)] σ out := by
  unfold mf_W_denominatorDegree at h
  refine pw_entryI (by decide) (Nat.le_of_ble_eq_true rfl) (pw_gd_val h) (fun X hX hR hI => ?_)
  change pw_Ok X prog_1_method_14_code "PadeWorkbench" mr_W_denominatorDegree 4 at hX
  show pw_Sp X 0 0 0 [(0, Value.ref x0), (1, Value.int (iI x1)), (2, Value.int (iI x2)), (3, Value.int (iI x3))] [] σ _
  refine sp_iload_n (pc := 0) (k := 1) (i := 1) hX rfl 1 rfl md_W_denominatorDegree_0 ?_
  refine sp_iload_n (pc := 1) (k := 2) (i := 2) hX rfl 2 rfl md_W_denominatorDegree_1 ?_
  refine sp_iload_n (pc := 2) (k := 3) (i := 3) hX rfl 3 rfl md_W_denominatorDegree_2 ?_
  refine sp_callSI (pc := 3) (y := my_W_isApproximant) (ccy := prog_1_method_41_code) (nLy := 3) (ret := (some .boolean)) (rmy := mr_W_isApproximant) (n := 3) (idx := 149) (As := [.int (iI x1), .int (iI x2), .int (iI x3)]) (st := []) (cells' := 0) (slots' := 0) hX (fun _ h => mc_W_isApproximant h) mk_W_isApproximant mq_482 mq_481 ⟨(Nat.le_of_ble_eq_true rfl), (Nat.le_of_ble_eq_true rfl)⟩ rfl rfl (Nat.le_of_ble_eq_true rfl) ⟨(Nat.le_of_ble_eq_true rfl), (Nat.le_of_ble_eq_true rfl)⟩ rfl rfl md_W_denominatorDegree_3 (fun v2 s1 => ?_)
  refine sp_if_ne (pc := 6) hX 16 (by decide) md_W_denominatorDegree_6 (fun _ => ?_) (fun _ => ?_)
  · refine sp_aload_n (pc := 9) (k := 0) (i := 0) hX rfl 0 rfl md_W_denominatorDegree_9 ?_
    refine sp_bipush (pc := 10) hX (by decide) md_W_denominatorDegree_10 ?_
    refine sp_callVI (pc := 12) (y := my_W_fail) (ccy := prog_1_method_37_code) (nLy := 3) (ret := (some .int)) (rmy := mr_W_fail) (n := 1) (idx := 79) (As := [.int (iI (-2 : Int))]) (st := []) (o := x0) (cells' := 0) (slots' := 0) hX (fun _ h => mc_W_fail h) mk_W_fail mv_W_fail mcl_9 (fun _ h => pw_gd_of h) mq_325 ⟨(Nat.le_of_ble_eq_true rfl), (Nat.le_of_ble_eq_true rfl)⟩ rfl rfl (Nat.le_of_ble_eq_true rfl) ⟨(Nat.le_of_ble_eq_true rfl), (Nat.le_of_ble_eq_true rfl)⟩ rfl rfl md_W_denominatorDegree_12 (fun v8 s7 => ?_)
    exact sp_iret (pc := 15) hX hR rfl (Nat.le_of_ble_eq_true rfl) md_W_denominatorDegree_15
  · refine sp_aload_n (pc := 16) (k := 0) (i := 0) hX rfl 0 rfl md_W_denominatorDegree_16 ?_
    refine sp_iload_n (pc := 17) (k := 1) (i := 1) hX rfl 1 rfl md_W_denominatorDegree_17 ?_
    refine sp_iload_n (pc := 18) (k := 2) (i := 2) hX rfl 2 rfl md_W_denominatorDegree_18 ?_
    refine sp_iload_n (pc := 19) (k := 3) (i := 3) hX rfl 3 rfl md_W_denominatorDegree_19 ?_
    refine sp_callVV (pc := 20) (y := my_W_approximate) (ccy := prog_1_method_47_code) (nLy := 4) (ret := none) (rmy := mr_W_approximate) (n := 3) (idx := 153) (As := [.int (iI x1), .int (iI x2), .int (iI x3)]) (st := []) (o := x0) (cells' := 0) (slots' := 0) hX (fun _ h => mc_W_approximate h) mk_W_approximate mv_W_approximate mcl_9 (fun _ h => pw_gd_of h) mq_484 ⟨(Nat.le_of_ble_eq_true rfl), (Nat.le_of_ble_eq_true rfl)⟩ rfl rfl (Nat.le_of_ble_eq_true rfl) ⟨(Nat.le_of_ble_eq_true rfl), (Nat.le_of_ble_eq_true rfl)⟩ rfl rfl md_W_denominatorDegree_20 (fun s3 => ?_)
    refine sp_aload_n (pc := 23) (k := 0) (i := 0) hX rfl 0 rfl md_W_denominatorDegree_23 ?_
    refine sp_getR (pc := 24) (ci := 9) (k := 4) (idx := 40) hX mcl_9 (by decide) mq_288 rfl md_W_denominatorDegree_24 (fun v4 => ?_)
    refine sp_getRN (pc := 27) (ci := 1) (k := 1) (idx := 165) hX mcl_1 (by decide) mn_233 rfl md_W_denominatorDegree_27 (fun v5 => ?_)
    refine sp_getIN (pc := 30) (ci := 4) (k := 1) (idx := 160) hX mcl_4 (by decide) mn_194 rfl md_W_denominatorDegree_30 (fun v6 => ?_)
    exact sp_iret (pc := 33) hX hR rfl (Nat.le_of_ble_eq_true rfl) md_W_denominatorDegree_33
/-! PadeWorkbench.numerator(IIII)I -/
theorem md_W_numerator_0 : decode prog_1_method_15_code 0 = .ok (.iload_n 1, 1) := by decide +kernel
theorem md_W_numerator_1 : decode prog_1_method_15_code 1 = .ok (.iload_n 2, 1) := by decide +kernel
theorem md_W_numerator_2 : decode prog_1_method_15_code 2 = .ok (.iload_n 3, 1) := by decide +kernel
theorem md_W_numerator_3 : decode prog_1_method_15_code 3 = .ok (.invokestatic 149, 3) := by decide +kernel
theorem md_W_numerator_6 : decode prog_1_method_15_code 6 = .ok (.ifCond .eq 11, 3) := by decide +kernel
theorem md_W_numerator_17 : decode prog_1_method_15_code 17 = .ok (.aload_n 0, 1) := by decide +kernel
theorem md_W_numerator_18 : decode prog_1_method_15_code 18 = .ok (.bipush (-2), 2) := by decide +kernel
theorem md_W_numerator_20 : decode prog_1_method_15_code 20 = .ok (.invokevirtual 79, 3) := by decide +kernel
theorem md_W_numerator_23 : decode prog_1_method_15_code 23 = .ok (.ireturn, 1) := by decide +kernel
theorem md_W_numerator_9 : decode prog_1_method_15_code 9 = .ok (.iload 4, 2) := by decide +kernel
theorem md_W_numerator_11 : decode prog_1_method_15_code 11 = .ok (.invokestatic 98, 3) := by decide +kernel
theorem md_W_numerator_14 : decode prog_1_method_15_code 14 = .ok (.ifCond .ne 10, 3) := by decide +kernel
theorem md_W_numerator_24 : decode prog_1_method_15_code 24 = .ok (.aload_n 0, 1) := by decide +kernel
theorem md_W_numerator_25 : decode prog_1_method_15_code 25 = .ok (.iload_n 1, 1) := by decide +kernel
theorem md_W_numerator_26 : decode prog_1_method_15_code 26 = .ok (.iload_n 2, 1) := by decide +kernel
theorem md_W_numerator_27 : decode prog_1_method_15_code 27 = .ok (.iload_n 3, 1) := by decide +kernel
theorem md_W_numerator_28 : decode prog_1_method_15_code 28 = .ok (.invokevirtual 153, 3) := by decide +kernel
theorem md_W_numerator_31 : decode prog_1_method_15_code 31 = .ok (.aload_n 0, 1) := by decide +kernel
theorem md_W_numerator_32 : decode prog_1_method_15_code 32 = .ok (.getfield 40, 3) := by decide +kernel
theorem md_W_numerator_35 : decode prog_1_method_15_code 35 = .ok (.getfield 157, 3) := by decide +kernel
theorem md_W_numerator_38 : decode prog_1_method_15_code 38 = .ok (.getfield 167, 3) := by decide +kernel
theorem md_W_numerator_41 : decode prog_1_method_15_code 41 = .ok (.iload 4, 2) := by decide +kernel
theorem md_W_numerator_43 : decode prog_1_method_15_code 43 = .ok (.iaload, 1) := by decide +kernel
theorem md_W_numerator_44 : decode prog_1_method_15_code 44 = .ok (.ireturn, 1) := by decide +kernel
def mj_W_numerator_17 (x0 : Nat) (σ : pw_Sto) : Option (Int × pw_Sto) := pw_bd (mf_W_fail x0 (-2 : Int) σ) (fun v4 s3 => some (v4, s3))
def mf_W_numerator (x0 : Nat) (x1 : Int) (x2 : Int) (x3 : Int) (x4 : Int) (σ : pw_Sto) : Option (Int × pw_Sto) := pw_gd 9 x0 σ (pw_bd (mf_W_isApproximant x1 x2 x3 σ) (fun v2 s1 => pw_ck v2 0 (if v2 = 0 then mj_W_numerator_17 x0 s1 else pw_bd (mf_W_isTerm x4 s1) (fun v6 s5 => pw_ck v6 0 (if v6 = 0 then mj_W_numerator_17 x0 s5 else pw_bd (mf_W_approximate x0 x1 x2 x3 s5) (fun _ s7 => (pw_gr 9 x0 4 s7).bind (fun v8 => (pw_gr 1 v8 0 s7).bind (fun v9 => (pw_gr 4 v9 0 s7).bind (fun v10 => (pw_ai v10 x4 s7).bind (fun v11 => some (v11, s7)))))))))))
set_option maxHeartbeats 4000000 in
set_option maxRecDepth 20000 in
theorem sj_W_numerator_17 {X : pw_X Int} (hX : pw_Ok X prog_1_method_15_code "PadeWorkbench" mr_W_numerator 5) (hR : pw_RI X prog_1_method_15_code) (x0 : Nat) (σ : pw_Sto) : pw_Sp X 0 0 17 [(0, Value.ref x0)] [] σ (mj_W_numerator_17 x0 σ) := by
  unfold mj_W_numerator_17
  refine sp_aload_n (pc := 17) (k := 0) (i := 0) hX rfl 0 rfl md_W_numerator_17 ?_
  refine sp_bipush (pc := 18) hX (by decide) md_W_numerator_18 ?_
  refine sp_callVI (pc := 20) (y := my_W_fail) (ccy := prog_1_method_37_code) (nLy := 3) (ret := (some .int)) (rmy := mr_W_fail) (n := 1) (idx := 79) (As := [.int (iI (-2 : Int))]) (st := []) (o := x0) (cells' := 0) (slots' := 0) hX (fun _ h => mc_W_fail h) mk_W_fail mv_W_fail mcl_9 (fun _ h => pw_gd_of h) mq_325 ⟨(Nat.le_of_ble_eq_true rfl), (Nat.le_of_ble_eq_true rfl)⟩ rfl rfl (Nat.le_of_ble_eq_true rfl) ⟨(Nat.le_of_ble_eq_true rfl), (Nat.le_of_ble_eq_true rfl)⟩ rfl rfl md_W_numerator_20 (fun v4 s3 => ?_)
  exact sp_iret (pc := 23) hX hR rfl (Nat.le_of_ble_eq_true rfl) md_W_numerator_23
set_option maxHeartbeats 4000000 in
set_option maxRecDepth 20000 in
theorem mc_W_numerator {l : Launch} {E : pw_E} {σ : pw_Sto} {x0 : Nat} {x1 : Int} {x2 : Int} {x3 : Int} {x4 : Int} {out : Int × pw_Sto} (h : mf_W_numerator x0 x1 x2 x3 x4 σ = some out) : pw_CI l E my_W_numerator prog_1_method_15_code 5 (some .int) mr_W_numerator [.ref x0, .int (iI x1), .int (iI x2), .int (iI x3), .int (iI x4)] σ out := by
  unfold mf_W_numerator at h
  refine pw_entryI (by decide) (Nat.le_of_ble_eq_true rfl) (pw_gd_val h) (fun X hX hR hI => ?_)
  change pw_Ok X prog_1_method_15_code "PadeWorkbench" mr_W_numerator 5 at hX
  show pw_Sp X 0 0 0 [(0, Value.ref x0), (1, Value.int (iI x1)), (2, Value.int (iI x2)), (3, Value.int (iI x3)), (4, Value.int (iI x4))] [] σ _
  refine sp_iload_n (pc := 0) (k := 1) (i := 1) hX rfl 1 rfl md_W_numerator_0 ?_
  refine sp_iload_n (pc := 1) (k := 2) (i := 2) hX rfl 2 rfl md_W_numerator_1 ?_
  refine sp_iload_n (pc := 2) (k := 3) (i := 3) hX rfl 3 rfl md_W_numerator_2 ?_
  refine sp_callSI (pc := 3) (y := my_W_isApproximant) (ccy := prog_1_method_41_code) (nLy := 3) (ret := (some .boolean)) (rmy := mr_W_isApproximant) (n := 3) (idx := 149) (As := [.int (iI x1), .int (iI x2), .int (iI x3)]) (st := []) (cells' := 0) (slots' := 0) hX (fun _ h => mc_W_isApproximant h) mk_W_isApproximant mq_482 mq_481 ⟨(Nat.le_of_ble_eq_true rfl), (Nat.le_of_ble_eq_true rfl)⟩ rfl rfl (Nat.le_of_ble_eq_true rfl) ⟨(Nat.le_of_ble_eq_true rfl), (Nat.le_of_ble_eq_true rfl)⟩ rfl rfl md_W_numerator_3 (fun v2 s1 => ?_)
  refine sp_if_eq (pc := 6) hX 17 (by decide) md_W_numerator_6 (fun _ => ?_) (fun _ => ?_)
  · refine sp_sub [0] (L' := [(0, Value.ref x0)]) rfl ?_
    exact sj_W_numerator_17 hX hR x0 s1
  · refine sp_iload (pc := 9) (i := 4) hX 4 rfl md_W_numerator_9 ?_
    refine sp_callSI (pc := 11) (y := my_W_isTerm) (ccy := prog_1_method_39_code) (nLy := 1) (ret := (some .boolean)) (rmy := mr_W_isTerm) (n := 1) (idx := 98) (As := [.int (iI x4)]) (st := []) (cells' := 0) (slots' := 0) hX (fun _ h => mc_W_isTerm h) mk_W_isTerm mq_355 mq_354 ⟨(Nat.le_of_ble_eq_true rfl), (Nat.le_of_ble_eq_true rfl)⟩ rfl rfl (Nat.le_of_ble_eq_true rfl) ⟨(Nat.le_of_ble_eq_true rfl), (Nat.le_of_ble_eq_true rfl)⟩ rfl rfl md_W_numerator_11 (fun v6 s5 => ?_)
    refine sp_if_ne (pc := 14) hX 24 (by decide) md_W_numerator_14 (fun _ => ?_) (fun _ => ?_)
    · refine sp_sub [0] (L' := [(0, Value.ref x0)]) rfl ?_
      exact sj_W_numerator_17 hX hR x0 s5
    · refine sp_aload_n (pc := 24) (k := 0) (i := 0) hX rfl 0 rfl md_W_numerator_24 ?_
      refine sp_iload_n (pc := 25) (k := 1) (i := 1) hX rfl 1 rfl md_W_numerator_25 ?_
      refine sp_iload_n (pc := 26) (k := 2) (i := 2) hX rfl 2 rfl md_W_numerator_26 ?_
      refine sp_iload_n (pc := 27) (k := 3) (i := 3) hX rfl 3 rfl md_W_numerator_27 ?_
      refine sp_callVV (pc := 28) (y := my_W_approximate) (ccy := prog_1_method_47_code) (nLy := 4) (ret := none) (rmy := mr_W_approximate) (n := 3) (idx := 153) (As := [.int (iI x1), .int (iI x2), .int (iI x3)]) (st := []) (o := x0) (cells' := 0) (slots' := 0) hX (fun _ h => mc_W_approximate h) mk_W_approximate mv_W_approximate mcl_9 (fun _ h => pw_gd_of h) mq_484 ⟨(Nat.le_of_ble_eq_true rfl), (Nat.le_of_ble_eq_true rfl)⟩ rfl rfl (Nat.le_of_ble_eq_true rfl) ⟨(Nat.le_of_ble_eq_true rfl), (Nat.le_of_ble_eq_true rfl)⟩ rfl rfl md_W_numerator_28 (fun s7 => ?_)
      refine sp_aload_n (pc := 31) (k := 0) (i := 0) hX rfl 0 rfl md_W_numerator_31 ?_
      refine sp_getR (pc := 32) (ci := 9) (k := 4) (idx := 40) hX mcl_9 (by decide) mq_288 rfl md_W_numerator_32 (fun v8 => ?_)
      refine sp_getRN (pc := 35) (ci := 1) (k := 0) (idx := 157) hX mcl_1 (by decide) mn_231 rfl md_W_numerator_35 (fun v9 => ?_)
      refine sp_getRN (pc := 38) (ci := 4) (k := 0) (idx := 167) hX mcl_4 (by decide) mn_190 rfl md_W_numerator_38 (fun v10 => ?_)
      refine sp_iload (pc := 41) (i := 4) hX 4 rfl md_W_numerator_41 ?_
      refine sp_iaload (pc := 43) hX md_W_numerator_43 (fun v11 => ?_)
      exact sp_iret (pc := 44) hX hR rfl (Nat.le_of_ble_eq_true rfl) md_W_numerator_44
/-! PadeWorkbench.denominator(IIII)I -/
theorem md_W_denominator_0 : decode prog_1_method_16_code 0 = .ok (.iload_n 1, 1) := by decide +kernel
theorem md_W_denominator_1 : decode prog_1_method_16_code 1 = .ok (.iload_n 2, 1) := by decide +kernel
theorem md_W_denominator_2 : decode prog_1_method_16_code 2 = .ok (.iload_n 3, 1) := by decide +kernel
theorem md_W_denominator_3 : decode prog_1_method_16_code 3 = .ok (.invokestatic 149, 3) := by decide +kernel
theorem md_W_denominator_6 : decode prog_1_method_16_code 6 = .ok (.ifCond .eq 11, 3) := by decide +kernel
theorem md_W_denominator_17 : decode prog_1_method_16_code 17 = .ok (.aload_n 0, 1) := by decide +kernel
theorem md_W_denominator_18 : decode prog_1_method_16_code 18 = .ok (.bipush (-2), 2) := by decide +kernel
theorem md_W_denominator_20 : decode prog_1_method_16_code 20 = .ok (.invokevirtual 79, 3) := by decide +kernel
theorem md_W_denominator_23 : decode prog_1_method_16_code 23 = .ok (.ireturn, 1) := by decide +kernel
theorem md_W_denominator_9 : decode prog_1_method_16_code 9 = .ok (.iload 4, 2) := by decide +kernel
theorem md_W_denominator_11 : decode prog_1_method_16_code 11 = .ok (.invokestatic 98, 3) := by decide +kernel
theorem md_W_denominator_14 : decode prog_1_method_16_code 14 = .ok (.ifCond .ne 10, 3) := by decide +kernel
theorem md_W_denominator_24 : decode prog_1_method_16_code 24 = .ok (.aload_n 0, 1) := by decide +kernel
theorem md_W_denominator_25 : decode prog_1_method_16_code 25 = .ok (.iload_n 1, 1) := by decide +kernel
theorem md_W_denominator_26 : decode prog_1_method_16_code 26 = .ok (.iload_n 2, 1) := by decide +kernel
theorem md_W_denominator_27 : decode prog_1_method_16_code 27 = .ok (.iload_n 3, 1) := by decide +kernel
theorem md_W_denominator_28 : decode prog_1_method_16_code 28 = .ok (.invokevirtual 153, 3) := by decide +kernel
theorem md_W_denominator_31 : decode prog_1_method_16_code 31 = .ok (.aload_n 0, 1) := by decide +kernel
theorem md_W_denominator_32 : decode prog_1_method_16_code 32 = .ok (.getfield 40, 3) := by decide +kernel
theorem md_W_denominator_35 : decode prog_1_method_16_code 35 = .ok (.getfield 165, 3) := by decide +kernel
theorem md_W_denominator_38 : decode prog_1_method_16_code 38 = .ok (.getfield 167, 3) := by decide +kernel
theorem md_W_denominator_41 : decode prog_1_method_16_code 41 = .ok (.iload 4, 2) := by decide +kernel
theorem md_W_denominator_43 : decode prog_1_method_16_code 43 = .ok (.iaload, 1) := by decide +kernel
theorem md_W_denominator_44 : decode prog_1_method_16_code 44 = .ok (.ireturn, 1) := by decide +kernel
def mj_W_denominator_17 (x0 : Nat) (σ : pw_Sto) : Option (Int × pw_Sto) := pw_bd (mf_W_fail x0 (-2 : Int) σ) (fun v4 s3 => some (v4, s3))
def mf_W_denominator (x0 : Nat) (x1 : Int) (x2 : Int) (x3 : Int) (x4 : Int) (σ : pw_Sto) : Option (Int × pw_Sto) := pw_gd 9 x0 σ (pw_bd (mf_W_isApproximant x1 x2 x3 σ) (fun v2 s1 => pw_ck v2 0 (if v2 = 0 then mj_W_denominator_17 x0 s1 else pw_bd (mf_W_isTerm x4 s1) (fun v6 s5 => pw_ck v6 0 (if v6 = 0 then mj_W_denominator_17 x0 s5 else pw_bd (mf_W_approximate x0 x1 x2 x3 s5) (fun _ s7 => (pw_gr 9 x0 4 s7).bind (fun v8 => (pw_gr 1 v8 1 s7).bind (fun v9 => (pw_gr 4 v9 0 s7).bind (fun v10 => (pw_ai v10 x4 s7).bind (fun v11 => some (v11, s7)))))))))))
set_option maxHeartbeats 4000000 in
set_option maxRecDepth 20000 in
theorem sj_W_denominator_17 {X : pw_X Int} (hX : pw_Ok X prog_1_method_16_code "PadeWorkbench" mr_W_denominator 5) (hR : pw_RI X prog_1_method_16_code) (x0 : Nat) (σ : pw_Sto) : pw_Sp X 0 0 17 [(0, Value.ref x0)] [] σ (mj_W_denominator_17 x0 σ) := by
  unfold mj_W_denominator_17
  refine sp_aload_n (pc := 17) (k := 0) (i := 0) hX rfl 0 rfl md_W_denominator_17 ?_
  refine sp_bipush (pc := 18) hX (by decide) md_W_denominator_18 ?_
  refine sp_callVI (pc := 20) (y := my_W_fail) (ccy := prog_1_method_37_code) (nLy := 3) (ret := (some .int)) (rmy := mr_W_fail) (n := 1) (idx := 79) (As := [.int (iI (-2 : Int))]) (st := []) (o := x0) (cells' := 0) (slots' := 0) hX (fun _ h => mc_W_fail h) mk_W_fail mv_W_fail mcl_9 (fun _ h => pw_gd_of h) mq_325 ⟨(Nat.le_of_ble_eq_true rfl), (Nat.le_of_ble_eq_true rfl)⟩ rfl rfl (Nat.le_of_ble_eq_true rfl) ⟨(Nat.le_of_ble_eq_true rfl), (Nat.le_of_ble_eq_true rfl)⟩ rfl rfl md_W_denominator_20 (fun v4 s3 => ?_)
  exact sp_iret (pc := 23) hX hR rfl (Nat.le_of_ble_eq_true rfl) md_W_denominator_23
set_option maxHeartbeats 4000000 in
set_option maxRecDepth 20000 in
theorem mc_W_denominator {l : Launch} {E : pw_E} {σ : pw_Sto} {x0 : Nat} {x1 : Int} {x2 : Int} {x3 : Int} {x4 : Int} {out : Int × pw_Sto} (h : mf_W_denominator x0 x1 x2 x3 x4 σ = some out) : pw_CI l E my_W_denominator prog_1_method_16_code 5 (some .int) mr_W_denominator [.ref x0, .int (iI x1), .int (iI x2), .int (iI x3), .int (iI x4)] σ out := by
  unfold mf_W_denominator at h
  refine pw_entryI (by decide) (Nat.le_of_ble_eq_true rfl) (pw_gd_val h) (fun X hX hR hI => ?_)
  change pw_Ok X prog_1_method_16_code "PadeWorkbench" mr_W_denominator 5 at hX
  show pw_Sp X 0 0 0 [(0, Value.ref x0), (1, Value.int (iI x1)), (2, Value.int (iI x2)), (3, Value.int (iI x3)), (4, Value.int (iI x4))] [] σ _
  refine sp_iload_n (pc := 0) (k := 1) (i := 1) hX rfl 1 rfl md_W_denominator_0 ?_
  refine sp_iload_n (pc := 1) (k := 2) (i := 2) hX rfl 2 rfl md_W_denominator_1 ?_
  refine sp_iload_n (pc := 2) (k := 3) (i := 3) hX rfl 3 rfl md_W_denominator_2 ?_
  refine sp_callSI (pc := 3) (y := my_W_isApproximant) (ccy := prog_1_method_41_code) (nLy := 3) (ret := (some .boolean)) (rmy := mr_W_isApproximant) (n := 3) (idx := 149) (As := [.int (iI x1), .int (iI x2), .int (iI x3)]) (st := []) (cells' := 0) (slots' := 0) hX (fun _ h => mc_W_isApproximant h) mk_W_isApproximant mq_482 mq_481 ⟨(Nat.le_of_ble_eq_true rfl), (Nat.le_of_ble_eq_true rfl)⟩ rfl rfl (Nat.le_of_ble_eq_true rfl) ⟨(Nat.le_of_ble_eq_true rfl), (Nat.le_of_ble_eq_true rfl)⟩ rfl rfl md_W_denominator_3 (fun v2 s1 => ?_)
  refine sp_if_eq (pc := 6) hX 17 (by decide) md_W_denominator_6 (fun _ => ?_) (fun _ => ?_)
  · refine sp_sub [0] (L' := [(0, Value.ref x0)]) rfl ?_
    exact sj_W_denominator_17 hX hR x0 s1
  · refine sp_iload (pc := 9) (i := 4) hX 4 rfl md_W_denominator_9 ?_
    refine sp_callSI (pc := 11) (y := my_W_isTerm) (ccy := prog_1_method_39_code) (nLy := 1) (ret := (some .boolean)) (rmy := mr_W_isTerm) (n := 1) (idx := 98) (As := [.int (iI x4)]) (st := []) (cells' := 0) (slots' := 0) hX (fun _ h => mc_W_isTerm h) mk_W_isTerm mq_355 mq_354 ⟨(Nat.le_of_ble_eq_true rfl), (Nat.le_of_ble_eq_true rfl)⟩ rfl rfl (Nat.le_of_ble_eq_true rfl) ⟨(Nat.le_of_ble_eq_true rfl), (Nat.le_of_ble_eq_true rfl)⟩ rfl rfl md_W_denominator_11 (fun v6 s5 => ?_)
    refine sp_if_ne (pc := 14) hX 24 (by decide) md_W_denominator_14 (fun _ => ?_) (fun _ => ?_)
    · refine sp_sub [0] (L' := [(0, Value.ref x0)]) rfl ?_
      exact sj_W_denominator_17 hX hR x0 s5
    · refine sp_aload_n (pc := 24) (k := 0) (i := 0) hX rfl 0 rfl md_W_denominator_24 ?_
      refine sp_iload_n (pc := 25) (k := 1) (i := 1) hX rfl 1 rfl md_W_denominator_25 ?_
      refine sp_iload_n (pc := 26) (k := 2) (i := 2) hX rfl 2 rfl md_W_denominator_26 ?_
      refine sp_iload_n (pc := 27) (k := 3) (i := 3) hX rfl 3 rfl md_W_denominator_27 ?_
      refine sp_callVV (pc := 28) (y := my_W_approximate) (ccy := prog_1_method_47_code) (nLy := 4) (ret := none) (rmy := mr_W_approximate) (n := 3) (idx := 153) (As := [.int (iI x1), .int (iI x2), .int (iI x3)]) (st := []) (o := x0) (cells' := 0) (slots' := 0) hX (fun _ h => mc_W_approximate h) mk_W_approximate mv_W_approximate mcl_9 (fun _ h => pw_gd_of h) mq_484 ⟨(Nat.le_of_ble_eq_true rfl), (Nat.le_of_ble_eq_true rfl)⟩ rfl rfl (Nat.le_of_ble_eq_true rfl) ⟨(Nat.le_of_ble_eq_true rfl), (Nat.le_of_ble_eq_true rfl)⟩ rfl rfl md_W_denominator_28 (fun s7 => ?_)
      refine sp_aload_n (pc := 31) (k := 0) (i := 0) hX rfl 0 rfl md_W_denominator_31 ?_
      refine sp_getR (pc := 32) (ci := 9) (k := 4) (idx := 40) hX mcl_9 (by decide) mq_288 rfl md_W_denominator_32 (fun v8 => ?_)
      refine sp_getRN (pc := 35) (ci := 1) (k := 1) (idx := 165) hX mcl_1 (by decide) mn_233 rfl md_W_denominator_35 (fun v9 => ?_)
      refine sp_getRN (pc := 38) (ci := 4) (k := 0) (idx := 167) hX mcl_4 (by decide) mn_190 rfl md_W_denominator_38 (fun v10 => ?_)
      refine sp_iload (pc := 41) (i := 4) hX 4 rfl md_W_denominator_41 ?_
      refine sp_iaload (pc := 43) hX md_W_denominator_43 (fun v11 => ?_)
      exact sp_iret (pc := 44) hX hR rfl (Nat.le_of_ble_eq_true rfl) md_W_denominator_44
