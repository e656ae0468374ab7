/-! PadeWorkbench$State.<init>()V -/
theorem md_Z_init_0 : decode prog_11_method_1_code 0 = .ok (.aload_n 0, 1) := by decide +kernel
theorem md_Z_init_1 : decode prog_11_method_1_code 1 = .ok (.invokespecial 3, 3) := by decide +kernel
theorem md_Z_init_4 : decode prog_11_method_1_code 4 = .ok (.aload_n 0, 1) := by decide +kernel
theorem md_Z_init_5 : decode prog_11_method_1_code 5 = .ok (.bipush 101, 2) := by decide +kernel
theorem md_Z_init_7 : decode prog_11_method_1_code 7 = .ok (.putfield 9, 3) := by decide +kernel
theorem md_Z_init_10 : decode prog_11_method_1_code 10 = .ok (.aload_n 0, 1) := by decide +kernel
theorem md_Z_init_11 : decode prog_11_method_1_code 11 = .ok (.iconst 4, 1) := by decide +kernel
theorem md_Z_init_12 : decode prog_11_method_1_code 12 = .ok (.bipush 16, 2) := by decide +kernel
theorem md_Z_init_14 : decode prog_11_method_1_code 14 = .ok (.multianewarray 15 2, 4) := by decide +kernel
theorem md_Z_init_18 : decode prog_11_method_1_code 18 = .ok (.putfield 17, 3) := by decide +kernel
theorem md_Z_init_21 : decode prog_11_method_1_code 21 = .ok (.aload_n 0, 1) := by decide +kernel
theorem md_Z_init_22 : decode prog_11_method_1_code 22 = .ok (.bipush 10, 2) := by decide +kernel
theorem md_Z_init_24 : decode prog_11_method_1_code 24 = .ok (.newarray .int, 2) := by decide +kernel
theorem md_Z_init_26 : decode prog_11_method_1_code 26 = .ok (.putfield 20, 3) := by decide +kernel
theorem md_Z_init_29 : decode prog_11_method_1_code 29 = .ok (.aload_n 0, 1) := by decide +kernel
theorem md_Z_init_30 : decode prog_11_method_1_code 30 = .ok (.bipush 10, 2) := by decide +kernel
theorem md_Z_init_32 : decode prog_11_method_1_code 32 = .ok (.newarray .int, 2) := by decide +kernel
theorem md_Z_init_34 : decode prog_11_method_1_code 34 = .ok (.putfield 24, 3) := by decide +kernel
theorem md_Z_init_37 : decode prog_11_method_1_code 37 = .ok (.return_, 1) := by decide +kernel
def mf_Z_init (x0 : Nat) (σ : pw_Sto) : Option (Unit × pw_Sto) := (pw_pi 7 x0 0 (101 : Int) σ).bind (fun s1 => pw_bd (pw_nm 4 16 s1) (fun v2 s3 => (pw_pr 7 x0 1 v2 s3).bind (fun s4 => pw_bd (pw_na 10 s4) (fun v5 s6 => (pw_pr 7 x0 3 v5 s6).bind (fun s7 => pw_bd (pw_na 10 s7) (fun v8 s9 => (pw_pr 7 x0 4 v8 s9).bind (fun s10 => some ((), s10))))))))
set_option maxHeartbeats 4000000 in
set_option maxRecDepth 20000 in
theorem mc_Z_init {l : Launch} {E : pw_E} {σ : pw_Sto} {x0 : Nat} {out : Unit × pw_Sto} (h : mf_Z_init x0 σ = some out) : pw_CV l E my_Z_init prog_11_method_1_code 1 none mr_Z_init [.ref x0] σ out := by
  unfold mf_Z_init at h
  refine pw_entryV (by decide) (Nat.le_of_ble_eq_true rfl) h (fun X hX hR hI => ?_)
  change pw_Ok X prog_11_method_1_code "PadeWorkbench$State" mr_Z_init 1 at hX
  show pw_Sp X 0 0 0 [(0, Value.ref x0)] [] σ _
  refine sp_aload_n (pc := 0) (k := 0) (i := 0) hX rfl 0 rfl md_Z_init_0 ?_
  refine sp_objInit (pc := 1) (idx := 3) hX mq_97 mq_90 mq_91 (Nat.le_of_ble_eq_true rfl) (Nat.le_of_ble_eq_true rfl) md_Z_init_1 ?_
  refine sp_aload_n (pc := 4) (k := 0) (i := 0) hX rfl 0 rfl md_Z_init_4 ?_
  refine sp_bipush (pc := 5) hX (by decide) md_Z_init_5 ?_
  refine sp_putI (pc := 7) (ci := 7) (k := 0) (idx := 9) hX mcl_7 (by decide) mq_100 rfl rfl rfl md_Z_init_7 (fun s1 => ?_)
  refine sp_aload_n (pc := 10) (k := 0) (i := 0) hX rfl 0 rfl md_Z_init_10 ?_
  refine sp_iconst (pc := 11) hX md_Z_init_11 ?_
  refine sp_bipush (pc := 12) hX (by decide) md_Z_init_12 ?_
  refine sp_mna (pc := 14) (n := 4) (k := 16) (idx := 15) (cells' := 5) (slots' := 68) hX mq_125 mq_98 (Nat.le_of_ble_eq_true rfl) (Nat.le_of_ble_eq_true rfl) rfl rfl md_Z_init_14 (fun v2 s3 => ?_)
  refine sp_putRF (pc := 18) (ci := 7) (k := 1) (idx := 17) hX mcl_7 (by decide) mq_103 rfl rfl hI rfl mty_7_1 md_Z_init_18 (fun s4 => ?_)
  refine sp_aload_n (pc := 21) (k := 0) (i := 0) hX rfl 0 rfl md_Z_init_21 ?_
  refine sp_bipush (pc := 22) hX (by decide) md_Z_init_22 ?_
  refine sp_newa (pc := 24) (n := 10) (slots' := 78) hX mq_125 (Nat.le_of_ble_eq_true rfl) (Nat.le_of_ble_eq_true rfl) rfl md_Z_init_24 (fun v5 s6 => ?_)
  refine sp_putRF (pc := 26) (ci := 7) (k := 3) (idx := 20) hX mcl_7 (by decide) mq_108 rfl rfl hI rfl mty_7_3 md_Z_init_26 (fun s7 => ?_)
  refine sp_aload_n (pc := 29) (k := 0) (i := 0) hX rfl 0 rfl md_Z_init_29 ?_
  refine sp_bipush (pc := 30) hX (by decide) md_Z_init_30 ?_
  refine sp_newa (pc := 32) (n := 10) (slots' := 88) hX mq_125 (Nat.le_of_ble_eq_true rfl) (Nat.le_of_ble_eq_true rfl) rfl md_Z_init_32 (fun v8 s9 => ?_)
  refine sp_putRF (pc := 34) (ci := 7) (k := 4) (idx := 24) hX mcl_7 (by decide) mq_111 rfl rfl hI rfl mty_7_4 md_Z_init_34 (fun s10 => ?_)
  exact sp_vret (pc := 37) hX hR rfl (Nat.le_of_ble_eq_true rfl) md_Z_init_37
/-! PadeWorkbench$History.<init>()V -/
theorem md_H_init_0 : decode prog_6_method_1_code 0 = .ok (.aload_n 0, 1) := by decide +kernel
theorem md_H_init_1 : decode prog_6_method_1_code 1 = .ok (.invokespecial 3, 3) := by decide +kernel
theorem md_H_init_4 : decode prog_6_method_1_code 4 = .ok (.aload_n 0, 1) := by decide +kernel
theorem md_H_init_5 : decode prog_6_method_1_code 5 = .ok (.iconst 4, 1) := by decide +kernel
theorem md_H_init_6 : decode prog_6_method_1_code 6 = .ok (.anewarray 9, 3) := by decide +kernel
theorem md_H_init_9 : decode prog_6_method_1_code 9 = .ok (.putfield 11, 3) := by decide +kernel
theorem md_H_init_12 : decode prog_6_method_1_code 12 = .ok (.iconst 0, 1) := by decide +kernel
theorem md_H_init_13 : decode prog_6_method_1_code 13 = .ok (.istore_n 1, 1) := by decide +kernel
theorem md_H_init_14 : decode prog_6_method_1_code 14 = .ok (.iload_n 1, 1) := by decide +kernel
theorem md_H_init_15 : decode prog_6_method_1_code 15 = .ok (.iconst 4, 1) := by decide +kernel
theorem md_H_init_16 : decode prog_6_method_1_code 16 = .ok (.if_icmp .ge 22, 3) := by decide +kernel
theorem md_H_init_19 : decode prog_6_method_1_code 19 = .ok (.aload_n 0, 1) := by decide +kernel
theorem md_H_init_20 : decode prog_6_method_1_code 20 = .ok (.getfield 11, 3) := by decide +kernel
theorem md_H_init_23 : decode prog_6_method_1_code 23 = .ok (.iload_n 1, 1) := by decide +kernel
theorem md_H_init_24 : decode prog_6_method_1_code 24 = .ok (.new 9, 3) := by decide +kernel
theorem md_H_init_27 : decode prog_6_method_1_code 27 = .ok (.dup, 1) := by decide +kernel
theorem md_H_init_28 : decode prog_6_method_1_code 28 = .ok (.invokespecial 17, 3) := by decide +kernel
theorem md_H_init_31 : decode prog_6_method_1_code 31 = .ok (.aastore, 1) := by decide +kernel
theorem md_H_init_32 : decode prog_6_method_1_code 32 = .ok (.iinc 1 1, 3) := by decide +kernel
theorem md_H_init_35 : decode prog_6_method_1_code 35 = .ok (.goto (-21), 3) := by decide +kernel
theorem md_H_init_38 : decode prog_6_method_1_code 38 = .ok (.return_, 1) := by decide +kernel
def mf_H_init (x0 : Nat) (σ : pw_Sto) : Option (Unit × pw_Sto) := pw_bd (pw_nq 4 σ) (fun v1 s2 => (pw_pr 3 x0 0 v1 s2).bind (fun s3 => (pw_gr 3 x0 0 s3).bind (fun v4 => pw_bd (pw_nw 7 s3) (fun v5 s6 => pw_bd (mf_Z_init v5 s6) (fun _ s7 => (pw_sr 12 v4 (0 : Int) 7 v5 s7).bind (fun s8 => (pw_gr 3 x0 0 s8).bind (fun v9 => pw_bd (pw_nw 7 s8) (fun v10 s11 => pw_bd (mf_Z_init v10 s11) (fun _ s12 => (pw_sr 12 v9 (1 : Int) 7 v10 s12).bind (fun s13 => (pw_gr 3 x0 0 s13).bind (fun v14 => pw_bd (pw_nw 7 s13) (fun v15 s16 => pw_bd (mf_Z_init v15 s16) (fun _ s17 => (pw_sr 12 v14 (2 : Int) 7 v15 s17).bind (fun s18 => (pw_gr 3 x0 0 s18).bind (fun v19 => pw_bd (pw_nw 7 s18) (fun v20 s21 => pw_bd (mf_Z_init v20 s21) (fun _ s22 => (pw_sr 12 v19 (3 : Int) 7 v20 s22).bind (fun s23 => some ((), s23)))))))))))))))))))
set_option maxHeartbeats 4000000 in
set_option maxRecDepth 20000 in
theorem mc_H_init {l : Launch} {E : pw_E} {σ : pw_Sto} {x0 : Nat} {out : Unit × pw_Sto} (h : mf_H_init x0 σ = some out) : pw_CV l E my_H_init prog_6_method_1_code 2 none mr_H_init [.ref x0] σ out := by
  unfold mf_H_init at h
  refine pw_entryV (by decide) (Nat.le_of_ble_eq_true rfl) h (fun X hX hR hI => ?_)
  change pw_Ok X prog_6_method_1_code "PadeWorkbench$History" mr_H_init 2 at hX
  show pw_Sp X 0 0 0 [(0, Value.ref x0)] [] σ _
  refine sp_aload_n (pc := 0) (k := 0) (i := 0) hX rfl 0 rfl md_H_init_0 ?_
  refine sp_objInit (pc := 1) (idx := 3) hX mq_131 mq_90 mq_91 (Nat.le_of_ble_eq_true rfl) (Nat.le_of_ble_eq_true rfl) md_H_init_1 ?_
  refine sp_aload_n (pc := 4) (k := 0) (i := 0) hX rfl 0 rfl md_H_init_4 ?_
  refine sp_iconst (pc := 5) hX md_H_init_5 ?_
  refine sp_newq (pc := 6) (n := 4) (idx := 9) (slots' := 4) hX mq_132 (Nat.le_of_ble_eq_true rfl) (Nat.le_of_ble_eq_true rfl) rfl md_H_init_6 (fun v1 s2 => ?_)
  refine sp_putRF (pc := 9) (ci := 3) (k := 0) (idx := 11) hX mcl_3 (by decide) mq_135 rfl rfl hI rfl mty_3_0 md_H_init_9 (fun s3 => ?_)
  refine sp_iconst (pc := 12) hX md_H_init_12 ?_
  refine sp_istore_n (pc := 13) (k := 1) (i := 1) (L' := [(1, Value.int (iI (0 : Int))), (0, Value.ref x0)]) hX rfl (by decide) rfl md_H_init_13 ?_
  refine sp_iload_n (pc := 14) (k := 1) (i := 1) hX rfl 0 rfl md_H_init_14 ?_
  refine sp_iconst (pc := 15) hX md_H_init_15 ?_
  refine sp_icmp_geF (pc := 16) hX (by decide) (by decide) md_H_init_16 ?_
  refine sp_aload_n (pc := 19) (k := 0) (i := 0) hX rfl 1 rfl md_H_init_19 ?_
  refine sp_getR (pc := 20) (ci := 3) (k := 0) (idx := 11) hX mcl_3 (by decide) mq_135 rfl md_H_init_20 (fun v4 => ?_)
  refine sp_iload_n (pc := 23) (k := 1) (i := 1) hX rfl 0 rfl md_H_init_23 ?_
  refine sp_new (pc := 24) (ci := 7) (idx := 9) (slots' := 9) hX mcl_7 mdf_7 mq_132 mq_93 mq_70 (Nat.le_of_ble_eq_true rfl) (Nat.le_of_ble_eq_true rfl) rfl md_H_init_24 (fun v5 s6 => ?_)
  refine sp_dup (pc := 27) hX rfl md_H_init_27 ?_
  refine sp_callIVN (pc := 28) (y := my_Z_init) (ccy := prog_11_method_1_code) (nLy := 1) (rmy := mr_Z_init) (n := 0) (idx := 17) (As := []) (st := [.ref v5, .int (iI (0 : Int)), .ref v4]) (o := v5) (cells' := 9) (slots' := 97) hX (fun _ h => mc_Z_init h) mk_Z_init mq_95 rfl mn_134 ⟨(Nat.le_of_ble_eq_true rfl), (Nat.le_of_ble_eq_true rfl)⟩ rfl rfl (Nat.le_of_ble_eq_true rfl) ⟨(Nat.le_of_ble_eq_true rfl), (Nat.le_of_ble_eq_true rfl)⟩ rfl rfl md_H_init_28 (fun s7 => ?_)
  refine sp_aastore (pc := 31) hX md_H_init_31 (fun s8 => ?_)
  refine sp_iinc (pc := 32) (i := 1) (L' := [(1, Value.int (iI (1 : Int))), (0, Value.ref x0)]) hX 0 rfl (by decide) rfl md_H_init_32 ?_
  refine sp_goto (pc := 35) hX 14 (by decide) md_H_init_35 ?_
  refine sp_iload_n (pc := 14) (k := 1) (i := 1) hX rfl 0 rfl md_H_init_14 ?_
  refine sp_iconst (pc := 15) hX md_H_init_15 ?_
  refine sp_icmp_geF (pc := 16) hX (by decide) (by decide) md_H_init_16 ?_
  refine sp_aload_n (pc := 19) (k := 0) (i := 0) hX rfl 1 rfl md_H_init_19 ?_
  refine sp_getR (pc := 20) (ci := 3) (k := 0) (idx := 11) hX mcl_3 (by decide) mq_135 rfl md_H_init_20 (fun v9 => ?_)
  refine sp_iload_n (pc := 23) (k := 1) (i := 1) hX rfl 0 rfl md_H_init_23 ?_
  refine sp_new (pc := 24) (ci := 7) (idx := 9) (slots' := 102) hX mcl_7 mdf_7 mq_132 mq_93 mq_70 (Nat.le_of_ble_eq_true rfl) (Nat.le_of_ble_eq_true rfl) rfl md_H_init_24 (fun v10 s11 => ?_)
  refine sp_dup (pc := 27) hX rfl md_H_init_27 ?_
  refine sp_callIVN (pc := 28) (y := my_Z_init) (ccy := prog_11_method_1_code) (nLy := 1) (rmy := mr_Z_init) (n := 0) (idx := 17) (As := []) (st := [.ref v10, .int (iI (1 : Int)), .ref v9]) (o := v10) (cells' := 17) (slots' := 190) hX (fun _ h => mc_Z_init h) mk_Z_init mq_95 rfl mn_134 ⟨(Nat.le_of_ble_eq_true rfl), (Nat.le_of_ble_eq_true rfl)⟩ rfl rfl (Nat.le_of_ble_eq_true rfl) ⟨(Nat.le_of_ble_eq_true rfl), (Nat.le_of_ble_eq_true rfl)⟩ rfl rfl md_H_init_28 (fun s12 => ?_)
  refine sp_aastore (pc := 31) hX md_H_init_31 (fun s13 => ?_)
  refine sp_iinc (pc := 32) (i := 1) (L' := [(1, Value.int (iI (2 : Int))), (0, Value.ref x0)]) hX 0 rfl (by decide) rfl md_H_init_32 ?_
  refine sp_goto (pc := 35) hX 14 (by decide) md_H_init_35 ?_
  refine sp_iload_n (pc := 14) (k := 1) (i := 1) hX rfl 0 rfl md_H_init_14 ?_
  refine sp_iconst (pc := 15) hX md_H_init_15 ?_
  refine sp_icmp_geF (pc := 16) hX (by decide) (by decide) md_H_init_16 ?_
  refine sp_aload_n (pc := 19) (k := 0) (i := 0) hX rfl 1 rfl md_H_init_19 ?_
  refine sp_getR (pc := 20) (ci := 3) (k := 0) (idx := 11) hX mcl_3 (by decide) mq_135 rfl md_H_init_20 (fun v14 => ?_)
  refine sp_iload_n (pc := 23) (k := 1) (i := 1) hX rfl 0 rfl md_H_init_23 ?_
  refine sp_new (pc := 24) (ci := 7) (idx := 9) (slots' := 195) hX mcl_7 mdf_7 mq_132 mq_93 mq_70 (Nat.le_of_ble_eq_true rfl) (Nat.le_of_ble_eq_true rfl) rfl md_H_init_24 (fun v15 s16 => ?_)
  refine sp_dup (pc := 27) hX rfl md_H_init_27 ?_
  refine sp_callIVN (pc := 28) (y := my_Z_init) (ccy := prog_11_method_1_code) (nLy := 1) (rmy := mr_Z_init) (n := 0) (idx := 17) (As := []) (st := [.ref v15, .int (iI (2 : Int)), .ref v14]) (o := v15) (cells' := 25) (slots' := 283) hX (fun _ h => mc_Z_init h) mk_Z_init mq_95 rfl mn_134 ⟨(Nat.le_of_ble_eq_true rfl), (Nat.le_of_ble_eq_true rfl)⟩ rfl rfl (Nat.le_of_ble_eq_true rfl) ⟨(Nat.le_of_ble_eq_true rfl), (Nat.le_of_ble_eq_true rfl)⟩ rfl rfl md_H_init_28 (fun s17 => ?_)
  refine sp_aastore (pc := 31) hX md_H_init_31 (fun s18 => ?_)
  refine sp_iinc (pc := 32) (i := 1) (L' := [(1, Value.int (iI (3 : Int))), (0, Value.ref x0)]) hX 0 rfl (by decide) rfl md_H_init_32 ?_
  refine sp_goto (pc := 35) hX 14 (by decide) md_H_init_35 ?_
  refine sp_iload_n (pc := 14) (k := 1) (i := 1) hX rfl 0 rfl md_H_init_14 ?_
  refine sp_iconst (pc := 15) hX md_H_init_15 ?_
  refine sp_icmp_geF (pc := 16) hX (by decide) (by decide) md_H_init_16 ?_
  refine sp_aload_n (pc := 19) (k := 0) (i := 0) hX rfl 1 rfl md_H_init_19 ?_
  refine sp_getR (pc := 20) (ci := 3) (k := 0) (idx := 11) hX mcl_3 (by decide) mq_135 rfl md_H_init_20 (fun v19 => ?_)
  refine sp_iload_n (pc := 23) (k := 1) (i := 1) hX rfl 0 rfl md_H_init_23 ?_
  refine sp_new (pc := 24) (ci := 7) (idx := 9) (slots' := 288) hX mcl_7 mdf_7 mq_132 mq_93 mq_70 (Nat.le_of_ble_eq_true rfl) (Nat.le_of_ble_eq_true rfl) rfl md_H_init_24 (fun v20 s21 => ?_)
  refine sp_dup (pc := 27) hX rfl md_H_init_27 ?_
  refine sp_callIVN (pc := 28) (y := my_Z_init) (ccy := prog_11_method_1_code) (nLy := 1) (rmy := mr_Z_init) (n := 0) (idx := 17) (As := []) (st := [.ref v20, .int (iI (3 : Int)), .ref v19]) (o := v20) (cells' := 33) (slots' := 376) hX (fun _ h => mc_Z_init h) mk_Z_init mq_95 rfl mn_134 ⟨(Nat.le_of_ble_eq_true rfl), (Nat.le_of_ble_eq_true rfl)⟩ rfl rfl (Nat.le_of_ble_eq_true rfl) ⟨(Nat.le_of_ble_eq_true rfl), (Nat.le_of_ble_eq_true rfl)⟩ rfl rfl md_H_init_28 (fun s22 => ?_)
  refine sp_aastore (pc := 31) hX md_H_init_31 (fun s23 => ?_)
  refine sp_iinc (pc := 32) (i := 1) (L' := [(1, Value.int (iI (4 : Int))), (0, Value.ref x0)]) hX 0 rfl (by decide) rfl md_H_init_32 ?_
  refine sp_goto (pc := 35) hX 14 (by decide) md_H_init_35 ?_
  refine sp_iload_n (pc := 14) (k := 1) (i := 1) hX rfl 0 rfl md_H_init_14 ?_
  refine sp_iconst (pc := 15) hX md_H_init_15 ?_
  refine sp_icmp_geT (pc := 16) hX 38 (by decide) (by decide) (by decide) md_H_init_16 ?_
  exact sp_vret (pc := 38) hX hR rfl (Nat.le_of_ble_eq_true rfl) md_H_init_38
/-! PadeWorkbench$FractionText.<init>()V -/
theorem md_T_init_0 : decode prog_5_method_1_code 0 = .ok (.aload_n 0, 1) := by decide +kernel
theorem md_T_init_1 : decode prog_5_method_1_code 1 = .ok (.invokespecial 3, 3) := by decide +kernel
theorem md_T_init_4 : decode prog_5_method_1_code 4 = .ok (.aload_n 0, 1) := by decide +kernel
theorem md_T_init_5 : decode prog_5_method_1_code 5 = .ok (.bipush 80, 2) := by decide +kernel
theorem md_T_init_7 : decode prog_5_method_1_code 7 = .ok (.newarray .int, 2) := by decide +kernel
theorem md_T_init_9 : decode prog_5_method_1_code 9 = .ok (.putfield 9, 3) := by decide +kernel
theorem md_T_init_12 : decode prog_5_method_1_code 12 = .ok (.aload_n 0, 1) := by decide +kernel
theorem md_T_init_13 : decode prog_5_method_1_code 13 = .ok (.bipush 16, 2) := by decide +kernel
theorem md_T_init_15 : decode prog_5_method_1_code 15 = .ok (.newarray .int, 2) := by decide +kernel
theorem md_T_init_17 : decode prog_5_method_1_code 17 = .ok (.putfield 15, 3) := by decide +kernel
theorem md_T_init_20 : decode prog_5_method_1_code 20 = .ok (.aload_n 0, 1) := by decide +kernel
theorem md_T_init_21 : decode prog_5_method_1_code 21 = .ok (.bipush 16, 2) := by decide +kernel
theorem md_T_init_23 : decode prog_5_method_1_code 23 = .ok (.newarray .int, 2) := by decide +kernel
theorem md_T_init_25 : decode prog_5_method_1_code 25 = .ok (.putfield 18, 3) := by decide +kernel
theorem md_T_init_28 : decode prog_5_method_1_code 28 = .ok (.return_, 1) := by decide +kernel
def mf_T_init (x0 : Nat) (σ : pw_Sto) : Option (Unit × pw_Sto) := pw_bd (pw_na 80 σ) (fun v1 s2 => (pw_pr 2 x0 0 v1 s2).bind (fun s3 => pw_bd (pw_na 16 s3) (fun v4 s5 => (pw_pr 2 x0 4 v4 s5).bind (fun s6 => pw_bd (pw_na 16 s6) (fun v7 s8 => (pw_pr 2 x0 5 v7 s8).bind (fun s9 => some ((), s9)))))))
set_option maxHeartbeats 4000000 in
set_option maxRecDepth 20000 in
theorem mc_T_init {l : Launch} {E : pw_E} {σ : pw_Sto} {x0 : Nat} {out : Unit × pw_Sto} (h : mf_T_init x0 σ = some out) : pw_CV l E my_T_init prog_5_method_1_code 1 none mr_T_init [.ref x0] σ out := by
  unfold mf_T_init at h
  refine pw_entryV (by decide) (Nat.le_of_ble_eq_true rfl) h (fun X hX hR hI => ?_)
  change pw_Ok X prog_5_method_1_code "PadeWorkbench$FractionText" mr_T_init 1 at hX
  show pw_Sp X 0 0 0 [(0, Value.ref x0)] [] σ _
  refine sp_aload_n (pc := 0) (k := 0) (i := 0) hX rfl 0 rfl md_T_init_0 ?_
  refine sp_objInit (pc := 1) (idx := 3) hX mq_151 mq_90 mq_91 (Nat.le_of_ble_eq_true rfl) (Nat.le_of_ble_eq_true rfl) md_T_init_1 ?_
  refine sp_aload_n (pc := 4) (k := 0) (i := 0) hX rfl 0 rfl md_T_init_4 ?_
  refine sp_bipush (pc := 5) hX (by decide) md_T_init_5 ?_
  refine sp_newa (pc := 7) (n := 80) (slots' := 80) hX mq_125 (Nat.le_of_ble_eq_true rfl) (Nat.le_of_ble_eq_true rfl) rfl md_T_init_7 (fun v1 s2 => ?_)
  refine sp_putRF (pc := 9) (ci := 2) (k := 0) (idx := 9) hX mcl_2 (by decide) mq_152 rfl rfl hI rfl mty_2_0 md_T_init_9 (fun s3 => ?_)
  refine sp_aload_n (pc := 12) (k := 0) (i := 0) hX rfl 0 rfl md_T_init_12 ?_
  refine sp_bipush (pc := 13) hX (by decide) md_T_init_13 ?_
  refine sp_newa (pc := 15) (n := 16) (slots' := 96) hX mq_125 (Nat.le_of_ble_eq_true rfl) (Nat.le_of_ble_eq_true rfl) rfl md_T_init_15 (fun v4 s5 => ?_)
  refine sp_putRF (pc := 17) (ci := 2) (k := 4) (idx := 15) hX mcl_2 (by decide) mq_158 rfl rfl hI rfl mty_2_4 md_T_init_17 (fun s6 => ?_)
  refine sp_aload_n (pc := 20) (k := 0) (i := 0) hX rfl 0 rfl md_T_init_20 ?_
  refine sp_bipush (pc := 21) hX (by decide) md_T_init_21 ?_
  refine sp_newa (pc := 23) (n := 16) (slots' := 112) hX mq_125 (Nat.le_of_ble_eq_true rfl) (Nat.le_of_ble_eq_true rfl) rfl md_T_init_23 (fun v7 s8 => ?_)
  refine sp_putRF (pc := 25) (ci := 2) (k := 5) (idx := 18) hX mcl_2 (by decide) mq_160 rfl rfl hI rfl mty_2_5 md_T_init_25 (fun s9 => ?_)
  exact sp_vret (pc := 28) hX hR rfl (Nat.le_of_ble_eq_true rfl) md_T_init_28
/-! PadeWorkbench$State.copyFrom(LPadeWorkbench$State;)V -/
theorem md_Z_copyFrom_0 : decode prog_11_method_2_code 0 = .ok (.aload_n 0, 1) := by decide +kernel
theorem md_Z_copyFrom_1 : decode prog_11_method_2_code 1 = .ok (.aload_n 1, 1) := by decide +kernel
theorem md_Z_copyFrom_2 : decode prog_11_method_2_code 2 = .ok (.getfield 9, 3) := by decide +kernel
theorem md_Z_copyFrom_5 : decode prog_11_method_2_code 5 = .ok (.putfield 9, 3) := by decide +kernel
theorem md_Z_copyFrom_8 : decode prog_11_method_2_code 8 = .ok (.iconst 0, 1) := by decide +kernel
theorem md_Z_copyFrom_9 : decode prog_11_method_2_code 9 = .ok (.istore_n 2, 1) := by decide +kernel
theorem md_Z_copyFrom_10 : decode prog_11_method_2_code 10 = .ok (.iload_n 2, 1) := by decide +kernel
theorem md_Z_copyFrom_11 : decode prog_11_method_2_code 11 = .ok (.iconst 4, 1) := by decide +kernel
theorem md_Z_copyFrom_12 : decode prog_11_method_2_code 12 = .ok (.if_icmp .ge 28, 3) := by decide +kernel
theorem md_Z_copyFrom_40 : decode prog_11_method_2_code 40 = .ok (.aload_n 0, 1) := by decide +kernel
theorem md_Z_copyFrom_41 : decode prog_11_method_2_code 41 = .ok (.aload_n 1, 1) := by decide +kernel
theorem md_Z_copyFrom_42 : decode prog_11_method_2_code 42 = .ok (.getfield 33, 3) := by decide +kernel
theorem md_Z_copyFrom_45 : decode prog_11_method_2_code 45 = .ok (.putfield 33, 3) := by decide +kernel
theorem md_Z_copyFrom_48 : decode prog_11_method_2_code 48 = .ok (.aload_n 1, 1) := by decide +kernel
theorem md_Z_copyFrom_49 : decode prog_11_method_2_code 49 = .ok (.getfield 20, 3) := by decide +kernel
theorem md_Z_copyFrom_52 : decode prog_11_method_2_code 52 = .ok (.iconst 0, 1) := by decide +kernel
theorem md_Z_copyFrom_53 : decode prog_11_method_2_code 53 = .ok (.aload_n 0, 1) := by decide +kernel
theorem md_Z_copyFrom_54 : decode prog_11_method_2_code 54 = .ok (.getfield 20, 3) := by decide +kernel
theorem md_Z_copyFrom_57 : decode prog_11_method_2_code 57 = .ok (.iconst 0, 1) := by decide +kernel
theorem md_Z_copyFrom_58 : decode prog_11_method_2_code 58 = .ok (.bipush 10, 2) := by decide +kernel
theorem md_Z_copyFrom_60 : decode prog_11_method_2_code 60 = .ok (.invokestatic 27, 3) := by decide +kernel
theorem md_Z_copyFrom_63 : decode prog_11_method_2_code 63 = .ok (.aload_n 1, 1) := by decide +kernel
theorem md_Z_copyFrom_64 : decode prog_11_method_2_code 64 = .ok (.getfield 24, 3) := by decide +kernel
theorem md_Z_copyFrom_67 : decode prog_11_method_2_code 67 = .ok (.iconst 0, 1) := by decide +kernel
theorem md_Z_copyFrom_68 : decode prog_11_method_2_code 68 = .ok (.aload_n 0, 1) := by decide +kernel
theorem md_Z_copyFrom_69 : decode prog_11_method_2_code 69 = .ok (.getfield 24, 3) := by decide +kernel
theorem md_Z_copyFrom_72 : decode prog_11_method_2_code 72 = .ok (.iconst 0, 1) := by decide +kernel
theorem md_Z_copyFrom_73 : decode prog_11_method_2_code 73 = .ok (.bipush 10, 2) := by decide +kernel
theorem md_Z_copyFrom_75 : decode prog_11_method_2_code 75 = .ok (.invokestatic 27, 3) := by decide +kernel
theorem md_Z_copyFrom_78 : decode prog_11_method_2_code 78 = .ok (.return_, 1) := by decide +kernel
theorem md_Z_copyFrom_15 : decode prog_11_method_2_code 15 = .ok (.aload_n 1, 1) := by decide +kernel
theorem md_Z_copyFrom_16 : decode prog_11_method_2_code 16 = .ok (.getfield 17, 3) := by decide +kernel
theorem md_Z_copyFrom_19 : decode prog_11_method_2_code 19 = .ok (.iload_n 2, 1) := by decide +kernel
theorem md_Z_copyFrom_20 : decode prog_11_method_2_code 20 = .ok (.aaload, 1) := by decide +kernel
theorem md_Z_copyFrom_21 : decode prog_11_method_2_code 21 = .ok (.iconst 0, 1) := by decide +kernel
theorem md_Z_copyFrom_22 : decode prog_11_method_2_code 22 = .ok (.aload_n 0, 1) := by decide +kernel
theorem md_Z_copyFrom_23 : decode prog_11_method_2_code 23 = .ok (.getfield 17, 3) := by decide +kernel
theorem md_Z_copyFrom_26 : decode prog_11_method_2_code 26 = .ok (.iload_n 2, 1) := by decide +kernel
theorem md_Z_copyFrom_27 : decode prog_11_method_2_code 27 = .ok (.aaload, 1) := by decide +kernel
theorem md_Z_copyFrom_28 : decode prog_11_method_2_code 28 = .ok (.iconst 0, 1) := by decide +kernel
theorem md_Z_copyFrom_29 : decode prog_11_method_2_code 29 = .ok (.bipush 16, 2) := by decide +kernel
theorem md_Z_copyFrom_31 : decode prog_11_method_2_code 31 = .ok (.invokestatic 27, 3) := by decide +kernel
theorem md_Z_copyFrom_34 : decode prog_11_method_2_code 34 = .ok (.iinc 2 1, 3) := by decide +kernel
theorem md_Z_copyFrom_37 : decode prog_11_method_2_code 37 = .ok (.goto (-27), 3) := by decide +kernel
def mb_Z_copyFrom_10 (rc : Nat → Nat → Int → pw_Sto → Option (Unit × pw_Sto)) : Nat → Nat → Int → pw_Sto → Option (Unit × pw_Sto) := fun x0 x1 x2 σ => pw_ck x2 (4 : Int) (if (4 : Int) ≤ x2 then (pw_gi 7 x1 2 σ).bind (fun v3 => (pw_pi 7 x0 2 v3 σ).bind (fun s4 => (pw_gr 7 x1 3 s4).bind (fun v5 => (pw_gr 7 x0 3 s4).bind (fun v6 => (pw_cp v5 (0 : Int) v6 (0 : Int) (10 : Int) s4).bind (fun s7 => (pw_gr 7 x1 4 s7).bind (fun v8 => (pw_gr 7 x0 4 s7).bind (fun v9 => (pw_cp v8 (0 : Int) v9 (0 : Int) (10 : Int) s7).bind (fun s10 => some ((), s10))))))))) else (pw_gr 7 x1 1 σ).bind (fun v11 => (pw_ar 13 v11 x2 σ).bind (fun v12 => (pw_gr 7 x0 1 σ).bind (fun v13 => (pw_ar 13 v13 x2 σ).bind (fun v14 => (pw_cp v12 (0 : Int) v14 (0 : Int) (16 : Int) σ).bind (fun s15 => rc x0 x1 (x2 + 1) s15))))))
def ml_Z_copyFrom_10 : Nat → Nat → Nat → Int → pw_Sto → Option (Unit × pw_Sto) := pw_lp (fun _ _ _ _ => none) (mb_Z_copyFrom_10)
def mf_Z_copyFrom (x0 : Nat) (x1 : Nat) (σ : pw_Sto) : Option (Unit × pw_Sto) := pw_gd 7 x0 σ ((pw_gi 7 x1 0 σ).bind (fun v1 => (pw_pi 7 x0 0 v1 σ).bind (fun s2 => ml_Z_copyFrom_10 1000 x0 x1 (0 : Int) s2)))
set_option maxHeartbeats 4000000 in
set_option maxRecDepth 20000 in
theorem sl_Z_copyFrom_10 {X : pw_X Unit} (hX : pw_Ok X prog_11_method_2_code "PadeWorkbench$State" mr_Z_copyFrom 3) (hR : pw_RV X prog_11_method_2_code) : ∀ (n : Nat) (x0 : Nat) (x1 : Nat) (x2 : Int) (σ : pw_Sto), pw_Sp X 0 0 10 [(0, Value.ref x0), (1, Value.ref x1), (2, Value.int (iI x2))] [] σ (ml_Z_copyFrom_10 n x0 x1 x2 σ) := by
  intro n
  induction n with
  | zero => intros; exact pw_none
  | succ n ih =>
    intro x0 x1 x2 σ
    show pw_Sp X 0 0 10 _ _ σ (mb_Z_copyFrom_10 (ml_Z_copyFrom_10 n) x0 x1 x2 σ)
    unfold mb_Z_copyFrom_10
    refine sp_iload_n (pc := 10) (k := 2) (i := 2) hX rfl 2 rfl md_Z_copyFrom_10 ?_
    refine sp_iconst (pc := 11) hX md_Z_copyFrom_11 ?_
    refine sp_icmp_ge (pc := 12) hX 40 (by decide) md_Z_copyFrom_12 (fun _ => ?_) (fun _ => ?_)
    · refine sp_aload_n (pc := 40) (k := 0) (i := 0) hX rfl 0 rfl md_Z_copyFrom_40 ?_
      refine sp_aload_n (pc := 41) (k := 1) (i := 1) hX rfl 1 rfl md_Z_copyFrom_41 ?_
      refine sp_getI (pc := 42) (ci := 7) (k := 2) (idx := 33) hX mcl_7 (by decide) mq_105 rfl md_Z_copyFrom_42 (fun v3 => ?_)
      refine sp_putI (pc := 45) (ci := 7) (k := 2) (idx := 33) hX mcl_7 (by decide) mq_105 rfl rfl rfl md_Z_copyFrom_45 (fun s4 => ?_)
      refine sp_aload_n (pc := 48) (k := 1) (i := 1) hX rfl 1 rfl md_Z_copyFrom_48 ?_
      refine sp_getR (pc := 49) (ci := 7) (k := 3) (idx := 20) hX mcl_7 (by decide) mq_108 rfl md_Z_copyFrom_49 (fun v5 => ?_)
      refine sp_iconst (pc := 52) hX md_Z_copyFrom_52 ?_
      refine sp_aload_n (pc := 53) (k := 0) (i := 0) hX rfl 0 rfl md_Z_copyFrom_53 ?_
      refine sp_getR (pc := 54) (ci := 7) (k := 3) (idx := 20) hX mcl_7 (by decide) mq_108 rfl md_Z_copyFrom_54 (fun v6 => ?_)
      refine sp_iconst (pc := 57) hX md_Z_copyFrom_57 ?_
      refine sp_bipush (pc := 58) hX (by decide) md_Z_copyFrom_58 ?_
      refine sp_copy (pc := 60) (idx := 27) hX mq_337 mq_339 mq_338 mq_80 (Nat.le_of_ble_eq_true rfl) (Nat.le_of_ble_eq_true rfl) md_Z_copyFrom_60 (fun s7 => ?_)
      refine sp_aload_n (pc := 63) (k := 1) (i := 1) hX rfl 1 rfl md_Z_copyFrom_63 ?_
      refine sp_getR (pc := 64) (ci := 7) (k := 4) (idx := 24) hX mcl_7 (by decide) mq_111 rfl md_Z_copyFrom_64 (fun v8 => ?_)
      refine sp_iconst (pc := 67) hX md_Z_copyFrom_67 ?_
      refine sp_aload_n (pc := 68) (k := 0) (i := 0) hX rfl 0 rfl md_Z_copyFrom_68 ?_
      refine sp_getR (pc := 69) (ci := 7) (k := 4) (idx := 24) hX mcl_7 (by decide) mq_111 rfl md_Z_copyFrom_69 (fun v9 => ?_)
      refine sp_iconst (pc := 72) hX md_Z_copyFrom_72 ?_
      refine sp_bipush (pc := 73) hX (by decide) md_Z_copyFrom_73 ?_
      refine sp_copy (pc := 75) (idx := 27) hX mq_337 mq_339 mq_338 mq_80 (Nat.le_of_ble_eq_true rfl) (Nat.le_of_ble_eq_true rfl) md_Z_copyFrom_75 (fun s10 => ?_)
      exact sp_vret (pc := 78) hX hR rfl (Nat.le_of_ble_eq_true rfl) md_Z_copyFrom_78
    · refine sp_aload_n (pc := 15) (k := 1) (i := 1) hX rfl 1 rfl md_Z_copyFrom_15 ?_
      refine sp_getR (pc := 16) (ci := 7) (k := 1) (idx := 17) hX mcl_7 (by decide) mq_103 rfl md_Z_copyFrom_16 (fun v11 => ?_)
      refine sp_iload_n (pc := 19) (k := 2) (i := 2) hX rfl 2 rfl md_Z_copyFrom_19 ?_
      refine sp_aaG (pc := 20) hX md_Z_copyFrom_20 (fun v12 => ?_)
      refine sp_iconst (pc := 21) hX md_Z_copyFrom_21 ?_
      refine sp_aload_n (pc := 22) (k := 0) (i := 0) hX rfl 0 rfl md_Z_copyFrom_22 ?_
      refine sp_getR (pc := 23) (ci := 7) (k := 1) (idx := 17) hX mcl_7 (by decide) mq_103 rfl md_Z_copyFrom_23 (fun v13 => ?_)
      refine sp_iload_n (pc := 26) (k := 2) (i := 2) hX rfl 2 rfl md_Z_copyFrom_26 ?_
      refine sp_aaG (pc := 27) hX md_Z_copyFrom_27 (fun v14 => ?_)
      refine sp_iconst (pc := 28) hX md_Z_copyFrom_28 ?_
      refine sp_bipush (pc := 29) hX (by decide) md_Z_copyFrom_29 ?_
      refine sp_copy (pc := 31) (idx := 27) hX mq_337 mq_339 mq_338 mq_80 (Nat.le_of_ble_eq_true rfl) (Nat.le_of_ble_eq_true rfl) md_Z_copyFrom_31 (fun s15 => ?_)
      refine sp_iinc (pc := 34) (i := 2) (L' := [(2, Value.int (iI (x2 + 1))), (0, Value.ref x0), (1, Value.ref x1)]) hX 2 rfl (by decide) rfl md_Z_copyFrom_34 ?_
      refine sp_goto (pc := 37) hX 10 (by decide) md_Z_copyFrom_37 ?_
      refine sp_sub [1, 2, 0] (L' := [(0, Value.ref x0), (1, Value.ref x1), (2, Value.int (iI (x2 + 1)))]) rfl ?_
      exact ih x0 x1 (x2 + 1) s15
set_option maxHeartbeats 4000000 in
set_option maxRecDepth 20000 in
theorem mc_Z_copyFrom {l : Launch} {E : pw_E} {σ : pw_Sto} {x0 : Nat} {x1 : Nat} {out : Unit × pw_Sto} (h : mf_Z_copyFrom x0 x1 σ = some out) : pw_CV l E my_Z_copyFrom prog_11_method_2_code 3 none mr_Z_copyFrom [.ref x0, .ref x1] σ out := by
  unfold mf_Z_copyFrom at h
  refine pw_entryV (by decide) (Nat.le_of_ble_eq_true rfl) (pw_gd_val h) (fun X hX hR hI => ?_)
  change pw_Ok X prog_11_method_2_code "PadeWorkbench$State" mr_Z_copyFrom 3 at hX
  show pw_Sp X 0 0 0 [(0, Value.ref x0), (1, Value.ref x1)] [] σ _
  refine sp_aload_n (pc := 0) (k := 0) (i := 0) hX rfl 0 rfl md_Z_copyFrom_0 ?_
  refine sp_aload_n (pc := 1) (k := 1) (i := 1) hX rfl 1 rfl md_Z_copyFrom_1 ?_
  refine sp_getI (pc := 2) (ci := 7) (k := 0) (idx := 9) hX mcl_7 (by decide) mq_100 rfl md_Z_copyFrom_2 (fun v1 => ?_)
  refine sp_putI (pc := 5) (ci := 7) (k := 0) (idx := 9) hX mcl_7 (by decide) mq_100 rfl rfl rfl md_Z_copyFrom_5 (fun s2 => ?_)
  refine sp_iconst (pc := 8) hX md_Z_copyFrom_8 ?_
  refine sp_istore_n (pc := 9) (k := 2) (i := 2) (L' := [(2, Value.int (iI (0 : Int))), (0, Value.ref x0), (1, Value.ref x1)]) hX rfl (by decide) rfl md_Z_copyFrom_9 ?_
  refine sp_sub [1, 2, 0] (L' := [(0, Value.ref x0), (1, Value.ref x1), (2, Value.int (iI (0 : Int)))]) rfl ?_
  exact sl_Z_copyFrom_10 hX hR 1000 x0 x1 (0 : Int) s2
/-! PadeWorkbench$History.keep(LPadeWorkbench$State;)V -/
theorem md_H_keep_0 : decode prog_6_method_2_code 0 = .ok (.aload_n 0, 1) := by decide +kernel
theorem md_H_keep_1 : decode prog_6_method_2_code 1 = .ok (.getfield 11, 3) := by decide +kernel
theorem md_H_keep_4 : decode prog_6_method_2_code 4 = .ok (.aload_n 0, 1) := by decide +kernel
theorem md_H_keep_5 : decode prog_6_method_2_code 5 = .ok (.getfield 18, 3) := by decide +kernel
theorem md_H_keep_8 : decode prog_6_method_2_code 8 = .ok (.iconst 3, 1) := by decide +kernel
theorem md_H_keep_9 : decode prog_6_method_2_code 9 = .ok (.iand, 1) := by decide +kernel
theorem md_H_keep_10 : decode prog_6_method_2_code 10 = .ok (.aaload, 1) := by decide +kernel
theorem md_H_keep_11 : decode prog_6_method_2_code 11 = .ok (.aload_n 1, 1) := by decide +kernel
theorem md_H_keep_12 : decode prog_6_method_2_code 12 = .ok (.invokevirtual 22, 3) := by decide +kernel
theorem md_H_keep_15 : decode prog_6_method_2_code 15 = .ok (.aload_n 0, 1) := by decide +kernel
theorem md_H_keep_16 : decode prog_6_method_2_code 16 = .ok (.aload_n 0, 1) := by decide +kernel
theorem md_H_keep_17 : decode prog_6_method_2_code 17 = .ok (.getfield 18, 3) := by decide +kernel
theorem md_H_keep_20 : decode prog_6_method_2_code 20 = .ok (.iconst 1, 1) := by decide +kernel
theorem md_H_keep_21 : decode prog_6_method_2_code 21 = .ok (.iadd, 1) := by decide +kernel
theorem md_H_keep_22 : decode prog_6_method_2_code 22 = .ok (.iconst 3, 1) := by decide +kernel
theorem md_H_keep_23 : decode prog_6_method_2_code 23 = .ok (.iand, 1) := by decide +kernel
theorem md_H_keep_24 : decode prog_6_method_2_code 24 = .ok (.putfield 18, 3) := by decide +kernel
theorem md_H_keep_27 : decode prog_6_method_2_code 27 = .ok (.aload_n 0, 1) := by decide +kernel
theorem md_H_keep_28 : decode prog_6_method_2_code 28 = .ok (.getfield 26, 3) := by decide +kernel
theorem md_H_keep_31 : decode prog_6_method_2_code 31 = .ok (.iconst 4, 1) := by decide +kernel
theorem md_H_keep_32 : decode prog_6_method_2_code 32 = .ok (.if_icmp .ge 13, 3) := by decide +kernel
theorem md_H_keep_45 : decode prog_6_method_2_code 45 = .ok (.return_, 1) := by decide +kernel
theorem md_H_keep_35 : decode prog_6_method_2_code 35 = .ok (.aload_n 0, 1) := by decide +kernel
theorem md_H_keep_36 : decode prog_6_method_2_code 36 = .ok (.dup, 1) := by decide +kernel
theorem md_H_keep_37 : decode prog_6_method_2_code 37 = .ok (.getfield 26, 3) := by decide +kernel
theorem md_H_keep_40 : decode prog_6_method_2_code 40 = .ok (.iconst 1, 1) := by decide +kernel
theorem md_H_keep_41 : decode prog_6_method_2_code 41 = .ok (.iadd, 1) := by decide +kernel
theorem md_H_keep_42 : decode prog_6_method_2_code 42 = .ok (.putfield 26, 3) := by decide +kernel
def mf_H_keep (x0 : Nat) (x1 : Nat) (σ : pw_Sto) : Option (Unit × pw_Sto) := pw_gd 3 x0 σ ((pw_gr 3 x0 0 σ).bind (fun v1 => (pw_gi 3 x0 1 σ).bind (fun v2 => (pw_ar 12 v1 (v2 % 4) σ).bind (fun v3 => pw_bd (mf_Z_copyFrom v3 x1 σ) (fun _ s4 => (pw_gi 3 x0 1 s4).bind (fun v5 => (pw_pi 3 x0 1 ((v5 + (1 : Int)) % 4) s4).bind (fun s6 => (pw_gi 3 x0 2 s6).bind (fun v7 => pw_ck v7 (4 : Int) (if (4 : Int) ≤ v7 then some ((), s6) else (pw_gi 3 x0 2 s6).bind (fun v8 => (pw_pi 3 x0 2 (v8 + (1 : Int)) s6).bind (fun s9 => some ((), s9))))))))))))
set_option maxHeartbeats 4000000 in
set_option maxRecDepth 20000 in
theorem mc_H_keep {l : Launch} {E : pw_E} {σ : pw_Sto} {x0 : Nat} {x1 : Nat} {out : Unit × pw_Sto} (h : mf_H_keep x0 x1 σ = some out) : pw_CV l E my_H_keep prog_6_method_2_code 2 none mr_H_keep [.ref x0, .ref x1] σ out := by
  unfold mf_H_keep at h
  refine pw_entryV (by decide) (Nat.le_of_ble_eq_true rfl) (pw_gd_val h) (fun X hX hR hI => ?_)
  change pw_Ok X prog_6_method_2_code "PadeWorkbench$History" mr_H_keep 2 at hX
  show pw_Sp X 0 0 0 [(0, Value.ref x0), (1, Value.ref x1)] [] σ _
  refine sp_aload_n (pc := 0) (k := 0) (i := 0) hX rfl 0 rfl md_H_keep_0 ?_
  refine sp_getR (pc := 1) (ci := 3) (k := 0) (idx := 11) hX mcl_3 (by decide) mq_135 rfl md_H_keep_1 (fun v1 => ?_)
  refine sp_aload_n (pc := 4) (k := 0) (i := 0) hX rfl 0 rfl md_H_keep_4 ?_
  refine sp_getI (pc := 5) (ci := 3) (k := 1) (idx := 18) hX mcl_3 (by decide) mq_136 rfl md_H_keep_5 (fun v2 => ?_)
  refine sp_iconst (pc := 8) hX md_H_keep_8 ?_
  refine sp_iand3 (pc := 9) hX md_H_keep_9 ?_
  refine sp_aaS (pc := 10) hX md_H_keep_10 (fun v3 => ?_)
  refine sp_aload_n (pc := 11) (k := 1) (i := 1) hX rfl 1 rfl md_H_keep_11 ?_
  refine sp_callVV (pc := 12) (y := my_Z_copyFrom) (ccy := prog_11_method_2_code) (nLy := 3) (ret := none) (rmy := mr_Z_copyFrom) (n := 1) (idx := 22) (As := [.ref x1]) (st := []) (o := v3) (cells' := 0) (slots' := 0) hX (fun _ h => mc_Z_copyFrom h) mk_Z_copyFrom mv_Z_copyFrom mcl_7 (fun _ h => pw_gd_of h) mq_333 ⟨(Nat.le_of_ble_eq_true rfl), (Nat.le_of_ble_eq_true rfl)⟩ rfl rfl (Nat.le_of_ble_eq_true rfl) ⟨(Nat.le_of_ble_eq_true rfl), (Nat.le_of_ble_eq_true rfl)⟩ rfl rfl md_H_keep_12 (fun s4 => ?_)
  refine sp_aload_n (pc := 15) (k := 0) (i := 0) hX rfl 0 rfl md_H_keep_15 ?_
  refine sp_aload_n (pc := 16) (k := 0) (i := 0) hX rfl 0 rfl md_H_keep_16 ?_
  refine sp_getI (pc := 17) (ci := 3) (k := 1) (idx := 18) hX mcl_3 (by decide) mq_136 rfl md_H_keep_17 (fun v5 => ?_)
  refine sp_iconst (pc := 20) hX md_H_keep_20 ?_
  refine sp_iadd (pc := 21) hX md_H_keep_21 ?_
  refine sp_iconst (pc := 22) hX md_H_keep_22 ?_
  refine sp_iand3 (pc := 23) hX md_H_keep_23 ?_
  refine sp_putI (pc := 24) (ci := 3) (k := 1) (idx := 18) hX mcl_3 (by decide) mq_136 rfl rfl rfl md_H_keep_24 (fun s6 => ?_)
  refine sp_aload_n (pc := 27) (k := 0) (i := 0) hX rfl 0 rfl md_H_keep_27 ?_
  refine sp_getI (pc := 28) (ci := 3) (k := 2) (idx := 26) hX mcl_3 (by decide) mq_137 rfl md_H_keep_28 (fun v7 => ?_)
  refine sp_iconst (pc := 31) hX md_H_keep_31 ?_
  refine sp_icmp_ge (pc := 32) hX 45 (by decide) md_H_keep_32 (fun _ => ?_) (fun _ => ?_)
  · exact sp_vret (pc := 45) hX hR rfl (Nat.le_of_ble_eq_true rfl) md_H_keep_45
  · refine sp_aload_n (pc := 35) (k := 0) (i := 0) hX rfl 0 rfl md_H_keep_35 ?_
    refine sp_dup (pc := 36) hX rfl md_H_keep_36 ?_
    refine sp_getI (pc := 37) (ci := 3) (k := 2) (idx := 26) hX mcl_3 (by decide) mq_137 rfl md_H_keep_37 (fun v8 => ?_)
    refine sp_iconst (pc := 40) hX md_H_keep_40 ?_
    refine sp_iadd (pc := 41) hX md_H_keep_41 ?_
    refine sp_putI (pc := 42) (ci := 3) (k := 2) (idx := 26) hX mcl_3 (by decide) mq_137 rfl rfl rfl md_H_keep_42 (fun s9 => ?_)
    exact sp_vret (pc := 45) hX hR rfl (Nat.le_of_ble_eq_true rfl) md_H_keep_45
/-! PadeWorkbench$State.restart(I)V -/
theorem md_Z_restart_0 : decode prog_11_method_3_code 0 = .ok (.aload_n 0, 1) := by decide +kernel
theorem md_Z_restart_1 : decode prog_11_method_3_code 1 = .ok (.iload_n 1, 1) := by decide +kernel
theorem md_Z_restart_2 : decode prog_11_method_3_code 2 = .ok (.putfield 9, 3) := by decide +kernel
theorem md_Z_restart_5 : decode prog_11_method_3_code 5 = .ok (.iconst 0, 1) := by decide +kernel
theorem md_Z_restart_6 : decode prog_11_method_3_code 6 = .ok (.istore_n 2, 1) := by decide +kernel
theorem md_Z_restart_7 : decode prog_11_method_3_code 7 = .ok (.iload_n 2, 1) := by decide +kernel
theorem md_Z_restart_8 : decode prog_11_method_3_code 8 = .ok (.iconst 4, 1) := by decide +kernel
theorem md_Z_restart_9 : decode prog_11_method_3_code 9 = .ok (.if_icmp .ge 19, 3) := by decide +kernel
theorem md_Z_restart_28 : decode prog_11_method_3_code 28 = .ok (.aload_n 0, 1) := by decide +kernel
theorem md_Z_restart_29 : decode prog_11_method_3_code 29 = .ok (.iconst 0, 1) := by decide +kernel
theorem md_Z_restart_30 : decode prog_11_method_3_code 30 = .ok (.putfield 33, 3) := by decide +kernel
theorem md_Z_restart_33 : decode prog_11_method_3_code 33 = .ok (.return_, 1) := by decide +kernel
theorem md_Z_restart_12 : decode prog_11_method_3_code 12 = .ok (.aload_n 0, 1) := by decide +kernel
theorem md_Z_restart_13 : decode prog_11_method_3_code 13 = .ok (.getfield 17, 3) := by decide +kernel
theorem md_Z_restart_16 : decode prog_11_method_3_code 16 = .ok (.iload_n 2, 1) := by decide +kernel
theorem md_Z_restart_17 : decode prog_11_method_3_code 17 = .ok (.aaload, 1) := by decide +kernel
theorem md_Z_restart_18 : decode prog_11_method_3_code 18 = .ok (.iconst 0, 1) := by decide +kernel
theorem md_Z_restart_19 : decode prog_11_method_3_code 19 = .ok (.invokestatic 36, 3) := by decide +kernel
theorem md_Z_restart_22 : decode prog_11_method_3_code 22 = .ok (.iinc 2 1, 3) := by decide +kernel
theorem md_Z_restart_25 : decode prog_11_method_3_code 25 = .ok (.goto (-18), 3) := by decide +kernel
def mb_Z_restart_7 (rc : Nat → Int → pw_Sto → Option (Unit × pw_Sto)) : Nat → Int → pw_Sto → Option (Unit × pw_Sto) := fun x0 x2 σ => pw_ck x2 (4 : Int) (if (4 : Int) ≤ x2 then (pw_pi 7 x0 2 (0 : Int) σ).bind (fun s2 => some ((), s2)) else (pw_gr 7 x0 1 σ).bind (fun v3 => (pw_ar 13 v3 x2 σ).bind (fun v4 => pw_bd (mf_A_fill v4 (0 : Int) σ) (fun _ s5 => rc x0 (x2 + 1) s5))))
def ml_Z_restart_7 : Nat → Nat → Int → pw_Sto → Option (Unit × pw_Sto) := pw_lp (fun _ _ _ => none) (mb_Z_restart_7)
def mf_Z_restart (x0 : Nat) (x1 : Int) (σ : pw_Sto) : Option (Unit × pw_Sto) := pw_gd 7 x0 σ ((pw_pi 7 x0 0 x1 σ).bind (fun s1 => ml_Z_restart_7 1000 x0 (0 : Int) s1))
set_option maxHeartbeats 4000000 in
set_option maxRecDepth 20000 in
theorem sl_Z_restart_7 {X : pw_X Unit} (hX : pw_Ok X prog_11_method_3_code "PadeWorkbench$State" mr_Z_restart 3) (hR : pw_RV X prog_11_method_3_code) : ∀ (n : Nat) (x0 : Nat) (x2 : Int) (σ : pw_Sto), pw_Sp X 0 0 7 [(0, Value.ref x0), (2, Value.int (iI x2))] [] σ (ml_Z_restart_7 n x0 x2 σ) := by
  intro n
  induction n with
  | zero => intros; exact pw_none
  | succ n ih =>
    intro x0 x2 σ
    show pw_Sp X 0 0 7 _ _ σ (mb_Z_restart_7 (ml_Z_restart_7 n) x0 x2 σ)
    unfold mb_Z_restart_7
    refine sp_iload_n (pc := 7) (k := 2) (i := 2) hX rfl 1 rfl md_Z_restart_7 ?_
    refine sp_iconst (pc := 8) hX md_Z_restart_8 ?_
    refine sp_icmp_ge (pc := 9) hX 28 (by decide) md_Z_restart_9 (fun _ => ?_) (fun _ => ?_)
    · refine sp_aload_n (pc := 28) (k := 0) (i := 0) hX rfl 0 rfl md_Z_restart_28 ?_
      refine sp_iconst (pc := 29) hX md_Z_restart_29 ?_
      refine sp_putI (pc := 30) (ci := 7) (k := 2) (idx := 33) hX mcl_7 (by decide) mq_105 rfl rfl rfl md_Z_restart_30 (fun s2 => ?_)
      exact sp_vret (pc := 33) hX hR rfl (Nat.le_of_ble_eq_true rfl) md_Z_restart_33
    · refine sp_aload_n (pc := 12) (k := 0) (i := 0) hX rfl 0 rfl md_Z_restart_12 ?_
      refine sp_getR (pc := 13) (ci := 7) (k := 1) (idx := 17) hX mcl_7 (by decide) mq_103 rfl md_Z_restart_13 (fun v3 => ?_)
      refine sp_iload_n (pc := 16) (k := 2) (i := 2) hX rfl 1 rfl md_Z_restart_16 ?_
      refine sp_aaG (pc := 17) hX md_Z_restart_17 (fun v4 => ?_)
      refine sp_iconst (pc := 18) hX md_Z_restart_18 ?_
      refine sp_callSV (pc := 19) (y := my_A_fill) (ccy := prog_16_method_103_code) (nLy := 4) (ret := none) (rmy := mr_A_fill) (n := 2) (idx := 36) (As := [.ref v4, .int (iI (0 : Int))]) (st := []) (cells' := 0) (slots' := 0) hX (fun _ h => mc_A_fill h) mk_A_fill mq_345 mq_344 ⟨(Nat.le_of_ble_eq_true rfl), (Nat.le_of_ble_eq_true rfl)⟩ rfl rfl (Nat.le_of_ble_eq_true rfl) ⟨(Nat.le_of_ble_eq_true rfl), (Nat.le_of_ble_eq_true rfl)⟩ rfl rfl md_Z_restart_19 (fun s5 => ?_)
      refine sp_iinc (pc := 22) (i := 2) (L' := [(2, Value.int (iI (x2 + 1))), (0, Value.ref x0)]) hX 1 rfl (by decide) rfl md_Z_restart_22 ?_
      refine sp_goto (pc := 25) hX 7 (by decide) md_Z_restart_25 ?_
      refine sp_sub [1, 0] (L' := [(0, Value.ref x0), (2, Value.int (iI (x2 + 1)))]) rfl ?_
      exact ih x0 (x2 + 1) s5
set_option maxHeartbeats 4000000 in
set_option maxRecDepth 20000 in
theorem mc_Z_restart {l : Launch} {E : pw_E} {σ : pw_Sto} {x0 : Nat} {x1 : Int} {out : Unit × pw_Sto} (h : mf_Z_restart x0 x1 σ = some out) : pw_CV l E my_Z_restart prog_11_method_3_code 3 none mr_Z_restart [.ref x0, .int (iI x1)] σ out := by
  unfold mf_Z_restart at h
  refine pw_entryV (by decide) (Nat.le_of_ble_eq_true rfl) (pw_gd_val h) (fun X hX hR hI => ?_)
  change pw_Ok X prog_11_method_3_code "PadeWorkbench$State" mr_Z_restart 3 at hX
  show pw_Sp X 0 0 0 [(0, Value.ref x0), (1, Value.int (iI x1))] [] σ _
  refine sp_aload_n (pc := 0) (k := 0) (i := 0) hX rfl 0 rfl md_Z_restart_0 ?_
  refine sp_iload_n (pc := 1) (k := 1) (i := 1) hX rfl 1 rfl md_Z_restart_1 ?_
  refine sp_putI (pc := 2) (ci := 7) (k := 0) (idx := 9) hX mcl_7 (by decide) mq_100 rfl rfl rfl md_Z_restart_2 (fun s1 => ?_)
  refine sp_iconst (pc := 5) hX md_Z_restart_5 ?_
  refine sp_istore_n (pc := 6) (k := 2) (i := 2) (L' := [(2, Value.int (iI (0 : Int))), (0, Value.ref x0), (1, Value.int (iI x1))]) hX rfl (by decide) rfl md_Z_restart_6 ?_
  refine sp_sub [1, 0] (L' := [(0, Value.ref x0), (2, Value.int (iI (0 : Int)))]) rfl ?_
  exact sl_Z_restart_7 hX hR 1000 x0 (0 : Int) s1
/-! PadeWorkbench$FractionText.put(I)V -/
theorem md_T_put_0 : decode prog_5_method_2_code 0 = .ok (.aload_n 0, 1) := by decide +kernel
theorem md_T_put_1 : decode prog_5_method_2_code 1 = .ok (.getfield 21, 3) := by decide +kernel
theorem md_T_put_4 : decode prog_5_method_2_code 4 = .ok (.bipush 80, 2) := by decide +kernel
theorem md_T_put_6 : decode prog_5_method_2_code 6 = .ok (.if_icmp .ge 23, 3) := by decide +kernel
theorem md_T_put_29 : decode prog_5_method_2_code 29 = .ok (.return_, 1) := by decide +kernel
theorem md_T_put_9 : decode prog_5_method_2_code 9 = .ok (.aload_n 0, 1) := by decide +kernel
theorem md_T_put_10 : decode prog_5_method_2_code 10 = .ok (.getfield 9, 3) := by decide +kernel
theorem md_T_put_13 : decode prog_5_method_2_code 13 = .ok (.aload_n 0, 1) := by decide +kernel
theorem md_T_put_14 : decode prog_5_method_2_code 14 = .ok (.getfield 21, 3) := by decide +kernel
theorem md_T_put_17 : decode prog_5_method_2_code 17 = .ok (.iload_n 1, 1) := by decide +kernel
theorem md_T_put_18 : decode prog_5_method_2_code 18 = .ok (.iastore, 1) := by decide +kernel
theorem md_T_put_19 : decode prog_5_method_2_code 19 = .ok (.aload_n 0, 1) := by decide +kernel
theorem md_T_put_20 : decode prog_5_method_2_code 20 = .ok (.dup, 1) := by decide +kernel
theorem md_T_put_21 : decode prog_5_method_2_code 21 = .ok (.getfield 21, 3) := by decide +kernel
theorem md_T_put_24 : decode prog_5_method_2_code 24 = .ok (.iconst 1, 1) := by decide +kernel
theorem md_T_put_25 : decode prog_5_method_2_code 25 = .ok (.iadd, 1) := by decide +kernel
theorem md_T_put_26 : decode prog_5_method_2_code 26 = .ok (.putfield 21, 3) := by decide +kernel
def mf_T_put (x0 : Nat) (x1 : Int) (σ : pw_Sto) : Option (Unit × pw_Sto) := pw_gd 2 x0 σ ((pw_gi 2 x0 1 σ).bind (fun v1 => pw_ck v1 (80 : Int) (if (80 : Int) ≤ v1 then some ((), σ) else (pw_gr 2 x0 0 σ).bind (fun v2 => (pw_gi 2 x0 1 σ).bind (fun v3 => (pw_si v2 v3 x1 σ).bind (fun s4 => (pw_gi 2 x0 1 s4).bind (fun v5 => (pw_pi 2 x0 1 (v5 + (1 : Int)) s4).bind (fun s6 => some ((), s6)))))))))
set_option maxHeartbeats 4000000 in
set_option maxRecDepth 20000 in
theorem mc_T_put {l : Launch} {E : pw_E} {σ : pw_Sto} {x0 : Nat} {x1 : Int} {out : Unit × pw_Sto} (h : mf_T_put x0 x1 σ = some out) : pw_CV l E my_T_put prog_5_method_2_code 2 none mr_T_put [.ref x0, .int (iI x1)] σ out := by
  unfold mf_T_put at h
  refine pw_entryV (by decide) (Nat.le_of_ble_eq_true rfl) (pw_gd_val h) (fun X hX hR hI => ?_)
  change pw_Ok X prog_5_method_2_code "PadeWorkbench$FractionText" mr_T_put 2 at hX
  show pw_Sp X 0 0 0 [(0, Value.ref x0), (1, Value.int (iI x1))] [] σ _
  refine sp_aload_n (pc := 0) (k := 0) (i := 0) hX rfl 0 rfl md_T_put_0 ?_
  refine sp_getI (pc := 1) (ci := 2) (k := 1) (idx := 21) hX mcl_2 (by decide) mq_153 rfl md_T_put_1 (fun v1 => ?_)
  refine sp_bipush (pc := 4) hX (by decide) md_T_put_4 ?_
  refine sp_icmp_ge (pc := 6) hX 29 (by decide) md_T_put_6 (fun _ => ?_) (fun _ => ?_)
  · exact sp_vret (pc := 29) hX hR rfl (Nat.le_of_ble_eq_true rfl) md_T_put_29
  · refine sp_aload_n (pc := 9) (k := 0) (i := 0) hX rfl 0 rfl md_T_put_9 ?_
    refine sp_getR (pc := 10) (ci := 2) (k := 0) (idx := 9) hX mcl_2 (by decide) mq_152 rfl md_T_put_10 (fun v2 => ?_)
    refine sp_aload_n (pc := 13) (k := 0) (i := 0) hX rfl 0 rfl md_T_put_13 ?_
    refine sp_getI (pc := 14) (ci := 2) (k := 1) (idx := 21) hX mcl_2 (by decide) mq_153 rfl md_T_put_14 (fun v3 => ?_)
    refine sp_iload_n (pc := 17) (k := 1) (i := 1) hX rfl 1 rfl md_T_put_17 ?_
    refine sp_iastore (pc := 18) hX md_T_put_18 (fun s4 => ?_)
    refine sp_aload_n (pc := 19) (k := 0) (i := 0) hX rfl 0 rfl md_T_put_19 ?_
    refine sp_dup (pc := 20) hX rfl md_T_put_20 ?_
    refine sp_getI (pc := 21) (ci := 2) (k := 1) (idx := 21) hX mcl_2 (by decide) mq_153 rfl md_T_put_21 (fun v5 => ?_)
    refine sp_iconst (pc := 24) hX md_T_put_24 ?_
    refine sp_iadd (pc := 25) hX md_T_put_25 ?_
    refine sp_putI (pc := 26) (ci := 2) (k := 1) (idx := 21) hX mcl_2 (by decide) mq_153 rfl rfl rfl md_T_put_26 (fun s6 => ?_)
    exact sp_vret (pc := 29) hX hR rfl (Nat.le_of_ble_eq_true rfl) md_T_put_29
/-! PadeWorkbench$FractionText.here()I -/
theorem md_T_here_0 : decode prog_5_method_10_code 0 = .ok (.aload_n 0, 1) := by decide +kernel
theorem md_T_here_1 : decode prog_5_method_10_code 1 = .ok (.getfield 28, 3) := by decide +kernel
theorem md_T_here_4 : decode prog_5_method_10_code 4 = .ok (.ifCond .lt 35, 3) := by decide +kernel
theorem md_T_here_39 : decode prog_5_method_10_code 39 = .ok (.iconst (-1), 1) := by decide +kernel
theorem md_T_here_40 : decode prog_5_method_10_code 40 = .ok (.ireturn, 1) := by decide +kernel
theorem md_T_here_7 : decode prog_5_method_10_code 7 = .ok (.aload_n 0, 1) := by decide +kernel
theorem md_T_here_8 : decode prog_5_method_10_code 8 = .ok (.getfield 28, 3) := by decide +kernel
theorem md_T_here_11 : decode prog_5_method_10_code 11 = .ok (.aload_n 0, 1) := by decide +kernel
theorem md_T_here_12 : decode prog_5_method_10_code 12 = .ok (.getfield 21, 3) := by decide +kernel
theorem md_T_here_15 : decode prog_5_method_10_code 15 = .ok (.if_icmp .ge 24, 3) := by decide +kernel
theorem md_T_here_18 : decode prog_5_method_10_code 18 = .ok (.aload_n 0, 1) := by decide +kernel
theorem md_T_here_19 : decode prog_5_method_10_code 19 = .ok (.getfield 28, 3) := by decide +kernel
theorem md_T_here_22 : decode prog_5_method_10_code 22 = .ok (.bipush 80, 2) := by decide +kernel
theorem md_T_here_24 : decode prog_5_method_10_code 24 = .ok (.if_icmp .ge 15, 3) := by decide +kernel
theorem md_T_here_27 : decode prog_5_method_10_code 27 = .ok (.aload_n 0, 1) := by decide +kernel
theorem md_T_here_28 : decode prog_5_method_10_code 28 = .ok (.getfield 9, 3) := by decide +kernel
theorem md_T_here_31 : decode prog_5_method_10_code 31 = .ok (.aload_n 0, 1) := by decide +kernel
theorem md_T_here_32 : decode prog_5_method_10_code 32 = .ok (.getfield 28, 3) := by decide +kernel
theorem md_T_here_35 : decode prog_5_method_10_code 35 = .ok (.iaload, 1) := by decide +kernel
theorem md_T_here_36 : decode prog_5_method_10_code 36 = .ok (.goto 4, 3) := by decide +kernel
def mf_T_here (x0 : Nat) (σ : pw_Sto) : Option (Int × pw_Sto) := pw_gd 2 x0 σ ((pw_gi 2 x0 2 σ).bind (fun v1 => pw_ck v1 0 (if v1 < 0 then some ((-1 : Int), σ) else (pw_gi 2 x0 2 σ).bind (fun v2 => (pw_gi 2 x0 1 σ).bind (fun v3 => pw_ck v2 v3 (if v3 ≤ v2 then some ((-1 : Int), σ) else (pw_gi 2 x0 2 σ).bind (fun v4 => pw_ck v4 (80 : Int) (if (80 : Int) ≤ v4 then some ((-1 : Int), σ) else (pw_gr 2 x0 0 σ).bind (fun v5 => (pw_gi 2 x0 2 σ).bind (fun v6 => (pw_ai v5 v6 σ).bind (fun v7 => some (v7, σ))))))))))))
set_option maxHeartbeats 4000000 in
set_option maxRecDepth 20000 in
theorem mc_T_here {l : Launch} {E : pw_E} {σ : pw_Sto} {x0 : Nat} {out : Int × pw_Sto} (h : mf_T_here x0 σ = some out) : pw_CI l E my_T_here prog_5_method_10_code 1 (some .int) mr_T_here [.ref x0] σ out := by
  unfold mf_T_here at h
  refine pw_entryI (by decide) (Nat.le_of_ble_eq_true rfl) (pw_gd_val h) (fun X hX hR hI => ?_)
  change pw_Ok X prog_5_method_10_code "PadeWorkbench$FractionText" mr_T_here 1 at hX
  show pw_Sp X 0 0 0 [(0, Value.ref x0)] [] σ _
  refine sp_aload_n (pc := 0) (k := 0) (i := 0) hX rfl 0 rfl md_T_here_0 ?_
  refine sp_getI (pc := 1) (ci := 2) (k := 2) (idx := 28) hX mcl_2 (by decide) mq_155 rfl md_T_here_1 (fun v1 => ?_)
  refine sp_if_lt (pc := 4) hX 39 (by decide) md_T_here_4 (fun _ => ?_) (fun _ => ?_)
  · refine sp_iconst (pc := 39) hX md_T_here_39 ?_
    exact sp_iret (pc := 40) hX hR rfl (Nat.le_of_ble_eq_true rfl) md_T_here_40
  · refine sp_aload_n (pc := 7) (k := 0) (i := 0) hX rfl 0 rfl md_T_here_7 ?_
    refine sp_getI (pc := 8) (ci := 2) (k := 2) (idx := 28) hX mcl_2 (by decide) mq_155 rfl md_T_here_8 (fun v2 => ?_)
    refine sp_aload_n (pc := 11) (k := 0) (i := 0) hX rfl 0 rfl md_T_here_11 ?_
    refine sp_getI (pc := 12) (ci := 2) (k := 1) (idx := 21) hX mcl_2 (by decide) mq_153 rfl md_T_here_12 (fun v3 => ?_)
    refine sp_icmp_ge (pc := 15) hX 39 (by decide) md_T_here_15 (fun _ => ?_) (fun _ => ?_)
    · refine sp_iconst (pc := 39) hX md_T_here_39 ?_
      exact sp_iret (pc := 40) hX hR rfl (Nat.le_of_ble_eq_true rfl) md_T_here_40
    · refine sp_aload_n (pc := 18) (k := 0) (i := 0) hX rfl 0 rfl md_T_here_18 ?_
      refine sp_getI (pc := 19) (ci := 2) (k := 2) (idx := 28) hX mcl_2 (by decide) mq_155 rfl md_T_here_19 (fun v4 => ?_)
      refine sp_bipush (pc := 22) hX (by decide) md_T_here_22 ?_
      refine sp_icmp_ge (pc := 24) hX 39 (by decide) md_T_here_24 (fun _ => ?_) (fun _ => ?_)
      · refine sp_iconst (pc := 39) hX md_T_here_39 ?_
        exact sp_iret (pc := 40) hX hR rfl (Nat.le_of_ble_eq_true rfl) md_T_here_40
      · refine sp_aload_n (pc := 27) (k := 0) (i := 0) hX rfl 0 rfl md_T_here_27 ?_
        refine sp_getR (pc := 28) (ci := 2) (k := 0) (idx := 9) hX mcl_2 (by decide) mq_152 rfl md_T_here_28 (fun v5 => ?_)
        refine sp_aload_n (pc := 31) (k := 0) (i := 0) hX rfl 0 rfl md_T_here_31 ?_
        refine sp_getI (pc := 32) (ci := 2) (k := 2) (idx := 28) hX mcl_2 (by decide) mq_155 rfl md_T_here_32 (fun v6 => ?_)
        refine sp_iaload (pc := 35) hX md_T_here_35 (fun v7 => ?_)
        refine sp_goto (pc := 36) hX 40 (by decide) md_T_here_36 ?_
        exact sp_iret (pc := 40) hX hR rfl (Nat.le_of_ble_eq_true rfl) md_T_here_40
/-! PadeWorkbench$FractionText.peek()I -/
theorem md_T_peek_0 : decode prog_5_method_9_code 0 = .ok (.aload_n 0, 1) := by decide +kernel
theorem md_T_peek_1 : decode prog_5_method_9_code 1 = .ok (.getfield 28, 3) := by decide +kernel
theorem md_T_peek_4 : decode prog_5_method_9_code 4 = .ok (.aload_n 0, 1) := by decide +kernel
theorem md_T_peek_5 : decode prog_5_method_9_code 5 = .ok (.getfield 21, 3) := by decide +kernel
theorem md_T_peek_8 : decode prog_5_method_9_code 8 = .ok (.if_icmp .ge 25, 3) := by decide +kernel
theorem md_T_peek_33 : decode prog_5_method_9_code 33 = .ok (.aload_n 0, 1) := by decide +kernel
theorem md_T_peek_34 : decode prog_5_method_9_code 34 = .ok (.invokevirtual 68, 3) := by decide +kernel
theorem md_T_peek_37 : decode prog_5_method_9_code 37 = .ok (.ireturn, 1) := by decide +kernel
theorem md_T_peek_11 : decode prog_5_method_9_code 11 = .ok (.aload_n 0, 1) := by decide +kernel
theorem md_T_peek_12 : decode prog_5_method_9_code 12 = .ok (.invokevirtual 68, 3) := by decide +kernel
theorem md_T_peek_15 : decode prog_5_method_9_code 15 = .ok (.bipush 32, 2) := by decide +kernel
theorem md_T_peek_17 : decode prog_5_method_9_code 17 = .ok (.if_icmp .ne 16, 3) := by decide +kernel
theorem md_T_peek_20 : decode prog_5_method_9_code 20 = .ok (.aload_n 0, 1) := by decide +kernel
theorem md_T_peek_21 : decode prog_5_method_9_code 21 = .ok (.dup, 1) := by decide +kernel
theorem md_T_peek_22 : decode prog_5_method_9_code 22 = .ok (.getfield 28, 3) := by decide +kernel
theorem md_T_peek_25 : decode prog_5_method_9_code 25 = .ok (.iconst 1, 1) := by decide +kernel
theorem md_T_peek_26 : decode prog_5_method_9_code 26 = .ok (.iadd, 1) := by decide +kernel
theorem md_T_peek_27 : decode prog_5_method_9_code 27 = .ok (.putfield 28, 3) := by decide +kernel
theorem md_T_peek_30 : decode prog_5_method_9_code 30 = .ok (.goto (-30), 3) := by decide +kernel
def mj_T_peek_33 (x0 : Nat) (σ : pw_Sto) : Option (Int × pw_Sto) := pw_bd (mf_T_here x0 σ) (fun v4 s3 => some (v4, s3))
def mb_T_peek_0 (rc : Nat → pw_Sto → Option (Int × pw_Sto)) : Nat → pw_Sto → Option (Int × pw_Sto) := fun x0 σ => (pw_gi 2 x0 2 σ).bind (fun v1 => (pw_gi 2 x0 1 σ).bind (fun v2 => pw_ck v1 v2 (if v2 ≤ v1 then mj_T_peek_33 x0 σ else pw_bd (mf_T_here x0 σ) (fun v6 s5 => pw_ck v6 (32 : Int) (if v6 = (32 : Int) then (pw_gi 2 x0 2 s5).bind (fun v7 => (pw_pi 2 x0 2 (v7 + (1 : Int)) s5).bind (fun s8 => rc x0 s8)) else mj_T_peek_33 x0 s5)))))
def ml_T_peek_0 : Nat → Nat → pw_Sto → Option (Int × pw_Sto) := pw_lp (fun _ _ => none) (mb_T_peek_0)
def mf_T_peek (x0 : Nat) (σ : pw_Sto) : Option (Int × pw_Sto) := pw_gd 2 x0 σ (ml_T_peek_0 1000 x0 σ)
set_option maxHeartbeats 4000000 in
set_option maxRecDepth 20000 in
theorem sj_T_peek_33 {X : pw_X Int} (hX : pw_Ok X prog_5_method_9_code "PadeWorkbench$FractionText" mr_T_peek 1) (hR : pw_RI X prog_5_method_9_code) (x0 : Nat) (σ : pw_Sto) : pw_Sp X 0 0 33 [(0, Value.ref x0)] [] σ (mj_T_peek_33 x0 σ) := by
  unfold mj_T_peek_33
  refine sp_aload_n (pc := 33) (k := 0) (i := 0) hX rfl 0 rfl md_T_peek_33 ?_
  refine sp_callVI (pc := 34) (y := my_T_here) (ccy := prog_5_method_10_code) (nLy := 1) (ret := (some .int)) (rmy := mr_T_here) (n := 0) (idx := 68) (As := []) (st := []) (o := x0) (cells' := 0) (slots' := 0) hX (fun _ h => mc_T_here h) mk_T_here mv_T_here mcl_2 (fun _ h => pw_gd_of h) mq_457 ⟨(Nat.le_of_ble_eq_true rfl), (Nat.le_of_ble_eq_true rfl)⟩ rfl rfl (Nat.le_of_ble_eq_true rfl) ⟨(Nat.le_of_ble_eq_true rfl), (Nat.le_of_ble_eq_true rfl)⟩ rfl rfl md_T_peek_34 (fun v4 s3 => ?_)
  exact sp_iret (pc := 37) hX hR rfl (Nat.le_of_ble_eq_true rfl) md_T_peek_37
set_option maxHeartbeats 4000000 in
set_option maxRecDepth 20000 in
theorem sl_T_peek_0 {X : pw_X Int} (hX : pw_Ok X prog_5_method_9_code "PadeWorkbench$FractionText" mr_T_peek 1) (hR : pw_RI X prog_5_method_9_code) : ∀ (n : Nat) (x0 : Nat) (σ : pw_Sto), pw_Sp X 0 0 0 [(0, Value.ref x0)] [] σ (ml_T_peek_0 n x0 σ) := by
  intro n
  induction n with
  | zero => intros; exact pw_none
  | succ n ih =>
    intro x0 σ
    show pw_Sp X 0 0 0 _ _ σ (mb_T_peek_0 (ml_T_peek_0 n) x0 σ)
    unfold mb_T_peek_0
    refine sp_aload_n (pc := 0) (k := 0) (i := 0) hX rfl 0 rfl md_T_peek_0 ?_
    refine sp_getI (pc := 1) (ci := 2) (k := 2) (idx := 28) hX mcl_2 (by decide) mq_155 rfl md_T_peek_1 (fun v1 => ?_)
    refine sp_aload_n (pc := 4) (k := 0) (i := 0) hX rfl 0 rfl md_T_peek_4 ?_
    refine sp_getI (pc := 5) (ci := 2) (k := 1) (idx := 21) hX mcl_2 (by decide) mq_153 rfl md_T_peek_5 (fun v2 => ?_)
    refine sp_icmp_ge (pc := 8) hX 33 (by decide) md_T_peek_8 (fun _ => ?_) (fun _ => ?_)
    · exact sj_T_peek_33 hX hR x0 σ
    · refine sp_aload_n (pc := 11) (k := 0) (i := 0) hX rfl 0 rfl md_T_peek_11 ?_
      refine sp_callVI (pc := 12) (y := my_T_here) (ccy := prog_5_method_10_code) (nLy := 1) (ret := (some .int)) (rmy := mr_T_here) (n := 0) (idx := 68) (As := []) (st := []) (o := x0) (cells' := 0) (slots' := 0) hX (fun _ h => mc_T_here h) mk_T_here mv_T_here mcl_2 (fun _ h => pw_gd_of h) mq_457 ⟨(Nat.le_of_ble_eq_true rfl), (Nat.le_of_ble_eq_true rfl)⟩ rfl rfl (Nat.le_of_ble_eq_true rfl) ⟨(Nat.le_of_ble_eq_true rfl), (Nat.le_of_ble_eq_true rfl)⟩ rfl rfl md_T_peek_12 (fun v6 s5 => ?_)
      refine sp_bipush (pc := 15) hX (by decide) md_T_peek_15 ?_
      refine sp_icmp_ne (pc := 17) hX 33 (by decide) md_T_peek_17 (fun _ => ?_) (fun _ => ?_)
      · refine sp_aload_n (pc := 20) (k := 0) (i := 0) hX rfl 0 rfl md_T_peek_20 ?_
        refine sp_dup (pc := 21) hX rfl md_T_peek_21 ?_
        refine sp_getI (pc := 22) (ci := 2) (k := 2) (idx := 28) hX mcl_2 (by decide) mq_155 rfl md_T_peek_22 (fun v7 => ?_)
        refine sp_iconst (pc := 25) hX md_T_peek_25 ?_
        refine sp_iadd (pc := 26) hX md_T_peek_26 ?_
        refine sp_putI (pc := 27) (ci := 2) (k := 2) (idx := 28) hX mcl_2 (by decide) mq_155 rfl rfl rfl md_T_peek_27 (fun s8 => ?_)
        refine sp_goto (pc := 30) hX 0 (by decide) md_T_peek_30 ?_
        exact ih x0 s8
      · exact sj_T_peek_33 hX hR x0 s5
set_option maxHeartbeats 4000000 in
set_option maxRecDepth 20000 in
theorem mc_T_peek {l : Launch} {E : pw_E} {σ : pw_Sto} {x0 : Nat} {out : Int × pw_Sto} (h : mf_T_peek x0 σ = some out) : pw_CI l E my_T_peek prog_5_method_9_code 1 (some .int) mr_T_peek [.ref x0] σ out := by
  unfold mf_T_peek at h
  refine pw_entryI (by decide) (Nat.le_of_ble_eq_true rfl) (pw_gd_val h) (fun X hX hR hI => ?_)
  change pw_Ok X prog_5_method_9_code "PadeWorkbench$FractionText" mr_T_peek 1 at hX
  show pw_Sp X 0 0 0 [(0, Value.ref x0)] [] σ _
  exact sl_T_peek_0 hX hR 1000 x0 σ
/-! PadeWorkbench$FractionText.took(I)Z -/
theorem md_T_took_0 : decode prog_5_method_8_code 0 = .ok (.aload_n 0, 1) := by decide +kernel
theorem md_T_took_1 : decode prog_5_method_8_code 1 = .ok (.invokevirtual 45, 3) := by decide +kernel
theorem md_T_took_4 : decode prog_5_method_8_code 4 = .ok (.iload_n 1, 1) := by decide +kernel
theorem md_T_took_5 : decode prog_5_method_8_code 5 = .ok (.if_icmp .eq 5, 3) := by decide +kernel
theorem md_T_took_10 : decode prog_5_method_8_code 10 = .ok (.aload_n 0, 1) := by decide +kernel
theorem md_T_took_11 : decode prog_5_method_8_code 11 = .ok (.dup, 1) := by decide +kernel
theorem md_T_took_12 : decode prog_5_method_8_code 12 = .ok (.getfield 28, 3) := by decide +kernel
theorem md_T_took_15 : decode prog_5_method_8_code 15 = .ok (.iconst 1, 1) := by decide +kernel
theorem md_T_took_16 : decode prog_5_method_8_code 16 = .ok (.iadd, 1) := by decide +kernel
theorem md_T_took_17 : decode prog_5_method_8_code 17 = .ok (.putfield 28, 3) := by decide +kernel
theorem md_T_took_20 : decode prog_5_method_8_code 20 = .ok (.iconst 1, 1) := by decide +kernel
theorem md_T_took_21 : decode prog_5_method_8_code 21 = .ok (.ireturn, 1) := by decide +kernel
theorem md_T_took_8 : decode prog_5_method_8_code 8 = .ok (.iconst 0, 1) := by decide +kernel
theorem md_T_took_9 : decode prog_5_method_8_code 9 = .ok (.ireturn, 1) := by decide +kernel
def mf_T_took (x0 : Nat) (x1 : Int) (σ : pw_Sto) : Option (Int × pw_Sto) := pw_gd 2 x0 σ (pw_bd (mf_T_peek x0 σ) (fun v2 s1 => pw_ck v2 x1 (if v2 = x1 then (pw_gi 2 x0 2 s1).bind (fun v3 => (pw_pi 2 x0 2 (v3 + (1 : Int)) s1).bind (fun s4 => some ((1 : Int), s4))) else some ((0 : Int), s1))))
set_option maxHeartbeats 4000000 in
set_option maxRecDepth 20000 in
theorem mc_T_took {l : Launch} {E : pw_E} {σ : pw_Sto} {x0 : Nat} {x1 : Int} {out : Int × pw_Sto} (h : mf_T_took x0 x1 σ = some out) : pw_CI l E my_T_took prog_5_method_8_code 2 (some .boolean) mr_T_took [.ref x0, .int (iI x1)] σ out := by
  unfold mf_T_took at h
  refine pw_entryZ (by decide) (Nat.le_of_ble_eq_true rfl) (pw_gd_val h) (fun X hX hR hI => ?_)
  change pw_Ok X prog_5_method_8_code "PadeWorkbench$FractionText" mr_T_took 2 at hX
  show pw_Sp X 0 0 0 [(0, Value.ref x0), (1, Value.int (iI x1))] [] σ _
  refine sp_aload_n (pc := 0) (k := 0) (i := 0) hX rfl 0 rfl md_T_took_0 ?_
  refine sp_callVI (pc := 1) (y := my_T_peek) (ccy := prog_5_method_9_code) (nLy := 1) (ret := (some .int)) (rmy := mr_T_peek) (n := 0) (idx := 45) (As := []) (st := []) (o := x0) (cells' := 0) (slots' := 0) hX (fun _ h => mc_T_peek h) mk_T_peek mv_T_peek mcl_2 (fun _ h => pw_gd_of h) mq_453 ⟨(Nat.le_of_ble_eq_true rfl), (Nat.le_of_ble_eq_true rfl)⟩ rfl rfl (Nat.le_of_ble_eq_true rfl) ⟨(Nat.le_of_ble_eq_true rfl), (Nat.le_of_ble_eq_true rfl)⟩ rfl rfl md_T_took_1 (fun v2 s1 => ?_)
  refine sp_iload_n (pc := 4) (k := 1) (i := 1) hX rfl 1 rfl md_T_took_4 ?_
  refine sp_icmp_eq (pc := 5) hX 10 (by decide) md_T_took_5 (fun _ => ?_) (fun _ => ?_)
  · refine sp_aload_n (pc := 10) (k := 0) (i := 0) hX rfl 0 rfl md_T_took_10 ?_
    refine sp_dup (pc := 11) hX rfl md_T_took_11 ?_
    refine sp_getI (pc := 12) (ci := 2) (k := 2) (idx := 28) hX mcl_2 (by decide) mq_155 rfl md_T_took_12 (fun v3 => ?_)
    refine sp_iconst (pc := 15) hX md_T_took_15 ?_
    refine sp_iadd (pc := 16) hX md_T_took_16 ?_
    refine sp_putI (pc := 17) (ci := 2) (k := 2) (idx := 28) hX mcl_2 (by decide) mq_155 rfl rfl rfl md_T_took_17 (fun s4 => ?_)
    refine sp_iconst (pc := 20) hX md_T_took_20 ?_
    exact sp_zret (pc := 21) hX hR (by decide) rfl (Nat.le_of_ble_eq_true rfl) md_T_took_21
  · refine sp_iconst (pc := 8) hX md_T_took_8 ?_
    exact sp_zret (pc := 9) hX hR (by decide) rfl (Nat.le_of_ble_eq_true rfl) md_T_took_9
/-! PadeWorkbench$FractionText.isDigit(I)Z -/
theorem md_T_isDigit_0 : decode prog_5_method_11_code 0 = .ok (.iload_n 0, 1) := by decide +kernel
theorem md_T_isDigit_1 : decode prog_5_method_11_code 1 = .ok (.bipush 48, 2) := by decide +kernel
theorem md_T_isDigit_3 : decode prog_5_method_11_code 3 = .ok (.if_icmp .lt 13, 3) := by decide +kernel
theorem md_T_isDigit_16 : decode prog_5_method_11_code 16 = .ok (.iconst 0, 1) := by decide +kernel
theorem md_T_isDigit_17 : decode prog_5_method_11_code 17 = .ok (.ireturn, 1) := by decide +kernel
theorem md_T_isDigit_6 : decode prog_5_method_11_code 6 = .ok (.iload_n 0, 1) := by decide +kernel
theorem md_T_isDigit_7 : decode prog_5_method_11_code 7 = .ok (.bipush 57, 2) := by decide +kernel
theorem md_T_isDigit_9 : decode prog_5_method_11_code 9 = .ok (.if_icmp .gt 7, 3) := by decide +kernel
theorem md_T_isDigit_12 : decode prog_5_method_11_code 12 = .ok (.iconst 1, 1) := by decide +kernel
theorem md_T_isDigit_13 : decode prog_5_method_11_code 13 = .ok (.goto 4, 3) := by decide +kernel
def mf_T_isDigit (x0 : Int) (σ : pw_Sto) : Option (Int × pw_Sto) := pw_ck x0 (48 : Int) (if x0 < (48 : Int) then some ((0 : Int), σ) else pw_ck x0 (57 : Int) (if (57 : Int) < x0 then some ((0 : Int), σ) else some ((1 : Int), σ)))
set_option maxHeartbeats 4000000 in
set_option maxRecDepth 20000 in
theorem mc_T_isDigit {l : Launch} {E : pw_E} {σ : pw_Sto} {x0 : Int} {out : Int × pw_Sto} (h : mf_T_isDigit x0 σ = some out) : pw_CI l E my_T_isDigit prog_5_method_11_code 1 (some .boolean) mr_T_isDigit [.int (iI x0)] σ out := by
  unfold mf_T_isDigit at h
  refine pw_entryZ (by decide) (Nat.le_of_ble_eq_true rfl) h (fun X hX hR hI => ?_)
  change pw_Ok X prog_5_method_11_code "PadeWorkbench$FractionText" mr_T_isDigit 1 at hX
  show pw_Sp X 0 0 0 [(0, Value.int (iI x0))] [] σ _
  refine sp_iload_n (pc := 0) (k := 0) (i := 0) hX rfl 0 rfl md_T_isDigit_0 ?_
  refine sp_bipush (pc := 1) hX (by decide) md_T_isDigit_1 ?_
  refine sp_icmp_lt (pc := 3) hX 16 (by decide) md_T_isDigit_3 (fun _ => ?_) (fun _ => ?_)
  · refine sp_iconst (pc := 16) hX md_T_isDigit_16 ?_
    exact sp_zret (pc := 17) hX hR (by decide) rfl (Nat.le_of_ble_eq_true rfl) md_T_isDigit_17
  · refine sp_iload_n (pc := 6) (k := 0) (i := 0) hX rfl 0 rfl md_T_isDigit_6 ?_
    refine sp_bipush (pc := 7) hX (by decide) md_T_isDigit_7 ?_
    refine sp_icmp_gt (pc := 9) hX 16 (by decide) md_T_isDigit_9 (fun _ => ?_) (fun _ => ?_)
    · refine sp_iconst (pc := 16) hX md_T_isDigit_16 ?_
      exact sp_zret (pc := 17) hX hR (by decide) rfl (Nat.le_of_ble_eq_true rfl) md_T_isDigit_17
    · refine sp_iconst (pc := 12) hX md_T_isDigit_12 ?_
      refine sp_goto (pc := 13) hX 17 (by decide) md_T_isDigit_13 ?_
      exact sp_zret (pc := 17) hX hR (by decide) rfl (Nat.le_of_ble_eq_true rfl) md_T_isDigit_17
/-! PadeWorkbench$FractionText.readNumber()I -/
theorem md_T_readNumber_0 : decode prog_5_method_6_code 0 = .ok (.iconst 0, 1) := by decide +kernel
theorem md_T_readNumber_1 : decode prog_5_method_6_code 1 = .ok (.istore_n 1, 1) := by decide +kernel
theorem md_T_readNumber_2 : decode prog_5_method_6_code 2 = .ok (.iconst 0, 1) := by decide +kernel
theorem md_T_readNumber_3 : decode prog_5_method_6_code 3 = .ok (.istore_n 2, 1) := by decide +kernel
theorem md_T_readNumber_4 : decode prog_5_method_6_code 4 = .ok (.iload_n 2, 1) := by decide +kernel
theorem md_T_readNumber_5 : decode prog_5_method_6_code 5 = .ok (.iconst 4, 1) := by decide +kernel
theorem md_T_readNumber_6 : decode prog_5_method_6_code 6 = .ok (.if_icmp .ge 42, 3) := by decide +kernel
theorem md_T_readNumber_48 : decode prog_5_method_6_code 48 = .ok (.aload_n 0, 1) := by decide +kernel
theorem md_T_readNumber_49 : decode prog_5_method_6_code 49 = .ok (.invokevirtual 68, 3) := by decide +kernel
theorem md_T_readNumber_52 : decode prog_5_method_6_code 52 = .ok (.invokestatic 53, 3) := by decide +kernel
theorem md_T_readNumber_55 : decode prog_5_method_6_code 55 = .ok (.ifCond .eq 7, 3) := by decide +kernel
theorem md_T_readNumber_62 : decode prog_5_method_6_code 62 = .ok (.iload_n 1, 1) := by decide +kernel
theorem md_T_readNumber_63 : decode prog_5_method_6_code 63 = .ok (.ireturn, 1) := by decide +kernel
theorem md_T_readNumber_58 : decode prog_5_method_6_code 58 = .ok (.iconst (-1), 1) := by decide +kernel
theorem md_T_readNumber_59 : decode prog_5_method_6_code 59 = .ok (.goto 4, 3) := by decide +kernel
theorem md_T_readNumber_9 : decode prog_5_method_6_code 9 = .ok (.aload_n 0, 1) := by decide +kernel
theorem md_T_readNumber_10 : decode prog_5_method_6_code 10 = .ok (.invokevirtual 68, 3) := by decide +kernel
theorem md_T_readNumber_13 : decode prog_5_method_6_code 13 = .ok (.invokestatic 53, 3) := by decide +kernel
theorem md_T_readNumber_16 : decode prog_5_method_6_code 16 = .ok (.ifCond .eq 32, 3) := by decide +kernel
theorem md_T_readNumber_19 : decode prog_5_method_6_code 19 = .ok (.bipush 10, 2) := by decide +kernel
theorem md_T_readNumber_21 : decode prog_5_method_6_code 21 = .ok (.iload_n 1, 1) := by decide +kernel
theorem md_T_readNumber_22 : decode prog_5_method_6_code 22 = .ok (.imul, 1) := by decide +kernel
theorem md_T_readNumber_23 : decode prog_5_method_6_code 23 = .ok (.aload_n 0, 1) := by decide +kernel
theorem md_T_readNumber_24 : decode prog_5_method_6_code 24 = .ok (.invokevirtual 68, 3) := by decide +kernel
theorem md_T_readNumber_27 : decode prog_5_method_6_code 27 = .ok (.iadd, 1) := by decide +kernel
theorem md_T_readNumber_28 : decode prog_5_method_6_code 28 = .ok (.bipush 48, 2) := by decide +kernel
theorem md_T_readNumber_30 : decode prog_5_method_6_code 30 = .ok (.isub, 1) := by decide +kernel
theorem md_T_readNumber_31 : decode prog_5_method_6_code 31 = .ok (.istore_n 1, 1) := by decide +kernel
theorem md_T_readNumber_32 : decode prog_5_method_6_code 32 = .ok (.aload_n 0, 1) := by decide +kernel
theorem md_T_readNumber_33 : decode prog_5_method_6_code 33 = .ok (.dup, 1) := by decide +kernel
theorem md_T_readNumber_34 : decode prog_5_method_6_code 34 = .ok (.getfield 28, 3) := by decide +kernel
theorem md_T_readNumber_37 : decode prog_5_method_6_code 37 = .ok (.iconst 1, 1) := by decide +kernel
theorem md_T_readNumber_38 : decode prog_5_method_6_code 38 = .ok (.iadd, 1) := by decide +kernel
theorem md_T_readNumber_39 : decode prog_5_method_6_code 39 = .ok (.putfield 28, 3) := by decide +kernel
theorem md_T_readNumber_42 : decode prog_5_method_6_code 42 = .ok (.iinc 2 1, 3) := by decide +kernel
theorem md_T_readNumber_45 : decode prog_5_method_6_code 45 = .ok (.goto (-41), 3) := by decide +kernel
def mj_T_readNumber_48 (x0 : Nat) (x1 : Int) (σ : pw_Sto) : Option (Int × pw_Sto) := pw_bd (mf_T_here x0 σ) (fun v2 s1 => pw_bd (mf_T_isDigit v2 s1) (fun v4 s3 => pw_ck v4 0 (if v4 = 0 then some (x1, s3) else some ((-1 : Int), s3))))
def mb_T_readNumber_4 (rc : Nat → Int → Int → pw_Sto → Option (Int × pw_Sto)) : Nat → Int → Int → pw_Sto → Option (Int × pw_Sto) := fun x0 x1 x2 σ => pw_ck x2 (4 : Int) (if (4 : Int) ≤ x2 then mj_T_readNumber_48 x0 x1 σ else pw_bd (mf_T_here x0 σ) (fun v6 s5 => pw_bd (mf_T_isDigit v6 s5) (fun v8 s7 => pw_ck v8 0 (if v8 = 0 then mj_T_readNumber_48 x0 x1 s7 else pw_bd (mf_T_here x0 s7) (fun v10 s9 => (pw_gi 2 x0 2 s9).bind (fun v11 => (pw_pi 2 x0 2 (v11 + (1 : Int)) s9).bind (fun s12 => rc x0 ((((10 : Int) * x1) + v10) - (48 : Int)) (x2 + 1) s12)))))))
def ml_T_readNumber_4 : Nat → Nat → Int → Int → pw_Sto → Option (Int × pw_Sto) := pw_lp (fun _ _ _ _ => none) (mb_T_readNumber_4)
def mf_T_readNumber (x0 : Nat) (σ : pw_Sto) : Option (Int × pw_Sto) := pw_gd 2 x0 σ (ml_T_readNumber_4 1000 x0 (0 : Int) (0 : Int) σ)
set_option maxHeartbeats 4000000 in
set_option maxRecDepth 20000 in
theorem sj_T_readNumber_48 {X : pw_X Int} (hX : pw_Ok X prog_5_method_6_code "PadeWorkbench$FractionText" mr_T_readNumber 3) (hR : pw_RI X prog_5_method_6_code) (x0 : Nat) (x1 : Int) (σ : pw_Sto) : pw_Sp X 0 0 48 [(0, Value.ref x0), (1, Value.int (iI x1))] [] σ (mj_T_readNumber_48 x0 x1 σ) := by
  unfold mj_T_readNumber_48
  refine sp_aload_n (pc := 48) (k := 0) (i := 0) hX rfl 0 rfl md_T_readNumber_48 ?_
  refine sp_callVI (pc := 49) (y := my_T_here) (ccy := prog_5_method_10_code) (nLy := 1) (ret := (some .int)) (rmy := mr_T_here) (n := 0) (idx := 68) (As := []) (st := []) (o := x0) (cells' := 0) (slots' := 0) hX (fun _ h => mc_T_here h) mk_T_here mv_T_here mcl_2 (fun _ h => pw_gd_of h) mq_457 ⟨(Nat.le_of_ble_eq_true rfl), (Nat.le_of_ble_eq_true rfl)⟩ rfl rfl (Nat.le_of_ble_eq_true rfl) ⟨(Nat.le_of_ble_eq_true rfl), (Nat.le_of_ble_eq_true rfl)⟩ rfl rfl md_T_readNumber_49 (fun v2 s1 => ?_)
  refine sp_callSI (pc := 52) (y := my_T_isDigit) (ccy := prog_5_method_11_code) (nLy := 1) (ret := (some .boolean)) (rmy := mr_T_isDigit) (n := 1) (idx := 53) (As := [.int (iI v2)]) (st := []) (cells' := 0) (slots' := 0) hX (fun _ h => mc_T_isDigit h) mk_T_isDigit mq_466 mq_465 ⟨(Nat.le_of_ble_eq_true rfl), (Nat.le_of_ble_eq_true rfl)⟩ rfl rfl (Nat.le_of_ble_eq_true rfl) ⟨(Nat.le_of_ble_eq_true rfl), (Nat.le_of_ble_eq_true rfl)⟩ rfl rfl md_T_readNumber_52 (fun v4 s3 => ?_)
  refine sp_if_eq (pc := 55) hX 62 (by decide) md_T_readNumber_55 (fun _ => ?_) (fun _ => ?_)
  · refine sp_iload_n (pc := 62) (k := 1) (i := 1) hX rfl 1 rfl md_T_readNumber_62 ?_
    exact sp_iret (pc := 63) hX hR rfl (Nat.le_of_ble_eq_true rfl) md_T_readNumber_63
  · refine sp_iconst (pc := 58) hX md_T_readNumber_58 ?_
    refine sp_goto (pc := 59) hX 63 (by decide) md_T_readNumber_59 ?_
    exact sp_iret (pc := 63) hX hR rfl (Nat.le_of_ble_eq_true rfl) md_T_readNumber_63
set_option maxHeartbeats 4000000 in
set_option maxRecDepth 20000 in
theorem sl_T_readNumber_4 {X : pw_X Int} (hX : pw_Ok X prog_5_method_6_code "PadeWorkbench$FractionText" mr_T_readNumber 3) (hR : pw_RI X prog_5_method_6_code) : ∀ (n : Nat) (x0 : Nat) (x1 : Int) (x2 : Int) (σ : pw_Sto), pw_Sp X 0 0 4 [(0, Value.ref x0), (1, Value.int (iI x1)), (2, Value.int (iI x2))] [] σ (ml_T_readNumber_4 n x0 x1 x2 σ) := by
  intro n
  induction n with
  | zero => intros; exact pw_none
  | succ n ih =>
    intro x0 x1 x2 σ
    show pw_Sp X 0 0 4 _ _ σ (mb_T_readNumber_4 (ml_T_readNumber_4 n) x0 x1 x2 σ)
    unfold mb_T_readNumber_4
    refine sp_iload_n (pc := 4) (k := 2) (i := 2) hX rfl 2 rfl md_T_readNumber_4 ?_
    refine sp_iconst (pc := 5) hX md_T_readNumber_5 ?_
    refine sp_icmp_ge (pc := 6) hX 48 (by decide) md_T_readNumber_6 (fun _ => ?_) (fun _ => ?_)
    · refine sp_sub [0, 1] (L' := [(0, Value.ref x0), (1, Value.int (iI x1))]) rfl ?_
      exact sj_T_readNumber_48 hX hR x0 x1 σ
    · refine sp_aload_n (pc := 9) (k := 0) (i := 0) hX rfl 0 rfl md_T_readNumber_9 ?_
      refine sp_callVI (pc := 10) (y := my_T_here) (ccy := prog_5_method_10_code) (nLy := 1) (ret := (some .int)) (rmy := mr_T_here) (n := 0) (idx := 68) (As := []) (st := []) (o := x0) (cells' := 0) (slots' := 0) hX (fun _ h => mc_T_here h) mk_T_here mv_T_here mcl_2 (fun _ h => pw_gd_of h) mq_457 ⟨(Nat.le_of_ble_eq_true rfl), (Nat.le_of_ble_eq_true rfl)⟩ rfl rfl (Nat.le_of_ble_eq_true rfl) ⟨(Nat.le_of_ble_eq_true rfl), (Nat.le_of_ble_eq_true rfl)⟩ rfl rfl md_T_readNumber_10 (fun v6 s5 => ?_)
      refine sp_callSI (pc := 13) (y := my_T_isDigit) (ccy := prog_5_method_11_code) (nLy := 1) (ret := (some .boolean)) (rmy := mr_T_isDigit) (n := 1) (idx := 53) (As := [.int (iI v6)]) (st := []) (cells' := 0) (slots' := 0) hX (fun _ h => mc_T_isDigit h) mk_T_isDigit mq_466 mq_465 ⟨(Nat.le_of_ble_eq_true rfl), (Nat.le_of_ble_eq_true rfl)⟩ rfl rfl (Nat.le_of_ble_eq_true rfl) ⟨(Nat.le_of_ble_eq_true rfl), (Nat.le_of_ble_eq_true rfl)⟩ rfl rfl md_T_readNumber_13 (fun v8 s7 => ?_)
      refine sp_if_eq (pc := 16) hX 48 (by decide) md_T_readNumber_16 (fun _ => ?_) (fun _ => ?_)
      · refine sp_sub [0, 1] (L' := [(0, Value.ref x0), (1, Value.int (iI x1))]) rfl ?_
        exact sj_T_readNumber_48 hX hR x0 x1 s7
      · refine sp_bipush (pc := 19) hX (by decide) md_T_readNumber_19 ?_
        refine sp_iload_n (pc := 21) (k := 1) (i := 1) hX rfl 1 rfl md_T_readNumber_21 ?_
        refine sp_imul (pc := 22) hX md_T_readNumber_22 ?_
        refine sp_aload_n (pc := 23) (k := 0) (i := 0) hX rfl 0 rfl md_T_readNumber_23 ?_
        refine sp_callVI (pc := 24) (y := my_T_here) (ccy := prog_5_method_10_code) (nLy := 1) (ret := (some .int)) (rmy := mr_T_here) (n := 0) (idx := 68) (As := []) (st := [.int (iI ((10 : Int) * x1))]) (o := x0) (cells' := 0) (slots' := 0) hX (fun _ h => mc_T_here h) mk_T_here mv_T_here mcl_2 (fun _ h => pw_gd_of h) mq_457 ⟨(Nat.le_of_ble_eq_true rfl), (Nat.le_of_ble_eq_true rfl)⟩ rfl rfl (Nat.le_of_ble_eq_true rfl) ⟨(Nat.le_of_ble_eq_true rfl), (Nat.le_of_ble_eq_true rfl)⟩ rfl rfl md_T_readNumber_24 (fun v10 s9 => ?_)
        refine sp_iadd (pc := 27) hX md_T_readNumber_27 ?_
        refine sp_bipush (pc := 28) hX (by decide) md_T_readNumber_28 ?_
        refine sp_isub (pc := 30) hX md_T_readNumber_30 ?_
        refine sp_istore_n (pc := 31) (k := 1) (i := 1) (L' := [(1, Value.int (iI ((((10 : Int) * x1) + v10) - (48 : Int)))), (0, Value.ref x0), (2, Value.int (iI x2))]) hX rfl (by decide) rfl md_T_readNumber_31 ?_
        refine sp_aload_n (pc := 32) (k := 0) (i := 0) hX rfl 1 rfl md_T_readNumber_32 ?_
        refine sp_dup (pc := 33) hX rfl md_T_readNumber_33 ?_
        refine sp_getI (pc := 34) (ci := 2) (k := 2) (idx := 28) hX mcl_2 (by decide) mq_155 rfl md_T_readNumber_34 (fun v11 => ?_)
        refine sp_iconst (pc := 37) hX md_T_readNumber_37 ?_
        refine sp_iadd (pc := 38) hX md_T_readNumber_38 ?_
        refine sp_putI (pc := 39) (ci := 2) (k := 2) (idx := 28) hX mcl_2 (by decide) mq_155 rfl rfl rfl md_T_readNumber_39 (fun s12 => ?_)
        refine sp_iinc (pc := 42) (i := 2) (L' := [(2, Value.int (iI (x2 + 1))), (1, Value.int (iI ((((10 : Int) * x1) + v10) - (48 : Int)))), (0, Value.ref x0)]) hX 2 rfl (by decide) rfl md_T_readNumber_42 ?_
        refine sp_goto (pc := 45) hX 4 (by decide) md_T_readNumber_45 ?_
        refine sp_sub [2, 1, 0] (L' := [(0, Value.ref x0), (1, Value.int (iI ((((10 : Int) * x1) + v10) - (48 : Int)))), (2, Value.int (iI (x2 + 1)))]) rfl ?_
        exact ih x0 ((((10 : Int) * x1) + v10) - (48 : Int)) (x2 + 1) s12
set_option maxHeartbeats 4000000 in
set_option maxRecDepth 20000 in
theorem mc_T_readNumber {l : Launch} {E : pw_E} {σ : pw_Sto} {x0 : Nat} {out : Int × pw_Sto} (h : mf_T_readNumber x0 σ = some out) : pw_CI l E my_T_readNumber prog_5_method_6_code 3 (some .int) mr_T_readNumber [.ref x0] σ out := by
  unfold mf_T_readNumber at h
  refine pw_entryI (by decide) (Nat.le_of_ble_eq_true rfl) (pw_gd_val h) (fun X hX hR hI => ?_)
  change pw_Ok X prog_5_method_6_code "PadeWorkbench$FractionText" mr_T_readNumber 3 at hX
  show pw_Sp X 0 0 0 [(0, Value.ref x0)] [] σ _
  refine sp_iconst (pc := 0) hX md_T_readNumber_0 ?_
  refine sp_istore_n (pc := 1) (k := 1) (i := 1) (L' := [(1, Value.int (iI (0 : Int))), (0, Value.ref x0)]) hX rfl (by decide) rfl md_T_readNumber_1 ?_
  refine sp_iconst (pc := 2) hX md_T_readNumber_2 ?_
  refine sp_istore_n (pc := 3) (k := 2) (i := 2) (L' := [(2, Value.int (iI (0 : Int))), (1, Value.int (iI (0 : Int))), (0, Value.ref x0)]) hX rfl (by decide) rfl md_T_readNumber_3 ?_
  refine sp_sub [2, 1, 0] (L' := [(0, Value.ref x0), (1, Value.int (iI (0 : Int))), (2, Value.int (iI (0 : Int)))]) rfl ?_
  exact sl_T_readNumber_4 hX hR 1000 x0 (0 : Int) (0 : Int) σ
/-! PadeWorkbench$FractionText.readExponent()I -/
theorem md_T_readExponent_0 : decode prog_5_method_7_code 0 = .ok (.aload_n 0, 1) := by decide +kernel
theorem md_T_readExponent_1 : decode prog_5_method_7_code 1 = .ok (.invokevirtual 45, 3) := by decide +kernel
theorem md_T_readExponent_4 : decode prog_5_method_7_code 4 = .ok (.invokestatic 53, 3) := by decide +kernel
theorem md_T_readExponent_7 : decode prog_5_method_7_code 7 = .ok (.ifCond .ne 5, 3) := by decide +kernel
theorem md_T_readExponent_12 : decode prog_5_method_7_code 12 = .ok (.aload_n 0, 1) := by decide +kernel
theorem md_T_readExponent_13 : decode prog_5_method_7_code 13 = .ok (.getfield 28, 3) := by decide +kernel
theorem md_T_readExponent_16 : decode prog_5_method_7_code 16 = .ok (.istore_n 1, 1) := by decide +kernel
theorem md_T_readExponent_17 : decode prog_5_method_7_code 17 = .ok (.aload_n 0, 1) := by decide +kernel
theorem md_T_readExponent_18 : decode prog_5_method_7_code 18 = .ok (.invokevirtual 68, 3) := by decide +kernel
theorem md_T_readExponent_21 : decode prog_5_method_7_code 21 = .ok (.bipush 48, 2) := by decide +kernel
theorem md_T_readExponent_23 : decode prog_5_method_7_code 23 = .ok (.isub, 1) := by decide +kernel
theorem md_T_readExponent_24 : decode prog_5_method_7_code 24 = .ok (.istore_n 2, 1) := by decide +kernel
theorem md_T_readExponent_25 : decode prog_5_method_7_code 25 = .ok (.aload_n 0, 1) := by decide +kernel
theorem md_T_readExponent_26 : decode prog_5_method_7_code 26 = .ok (.dup, 1) := by decide +kernel
theorem md_T_readExponent_27 : decode prog_5_method_7_code 27 = .ok (.getfield 28, 3) := by decide +kernel
theorem md_T_readExponent_30 : decode prog_5_method_7_code 30 = .ok (.iconst 1, 1) := by decide +kernel
theorem md_T_readExponent_31 : decode prog_5_method_7_code 31 = .ok (.iadd, 1) := by decide +kernel
theorem md_T_readExponent_32 : decode prog_5_method_7_code 32 = .ok (.putfield 28, 3) := by decide +kernel
theorem md_T_readExponent_35 : decode prog_5_method_7_code 35 = .ok (.aload_n 0, 1) := by decide +kernel
theorem md_T_readExponent_36 : decode prog_5_method_7_code 36 = .ok (.invokevirtual 68, 3) := by decide +kernel
theorem md_T_readExponent_39 : decode prog_5_method_7_code 39 = .ok (.invokestatic 53, 3) := by decide +kernel
theorem md_T_readExponent_42 : decode prog_5_method_7_code 42 = .ok (.ifCond .eq 26, 3) := by decide +kernel
theorem md_T_readExponent_68 : decode prog_5_method_7_code 68 = .ok (.aload_n 0, 1) := by decide +kernel
theorem md_T_readExponent_69 : decode prog_5_method_7_code 69 = .ok (.invokevirtual 68, 3) := by decide +kernel
theorem md_T_readExponent_72 : decode prog_5_method_7_code 72 = .ok (.invokestatic 53, 3) := by decide +kernel
theorem md_T_readExponent_75 : decode prog_5_method_7_code 75 = .ok (.ifCond .eq 5, 3) := by decide +kernel
theorem md_T_readExponent_80 : decode prog_5_method_7_code 80 = .ok (.iload_n 2, 1) := by decide +kernel
theorem md_T_readExponent_81 : decode prog_5_method_7_code 81 = .ok (.bipush 16, 2) := by decide +kernel
theorem md_T_readExponent_83 : decode prog_5_method_7_code 83 = .ok (.if_icmp .lt 10, 3) := by decide +kernel
theorem md_T_readExponent_93 : decode prog_5_method_7_code 93 = .ok (.iload_n 2, 1) := by decide +kernel
theorem md_T_readExponent_94 : decode prog_5_method_7_code 94 = .ok (.ireturn, 1) := by decide +kernel
theorem md_T_readExponent_86 : decode prog_5_method_7_code 86 = .ok (.aload_n 0, 1) := by decide +kernel
theorem md_T_readExponent_87 : decode prog_5_method_7_code 87 = .ok (.iload_n 1, 1) := by decide +kernel
theorem md_T_readExponent_88 : decode prog_5_method_7_code 88 = .ok (.putfield 28, 3) := by decide +kernel
theorem md_T_readExponent_91 : decode prog_5_method_7_code 91 = .ok (.iconst (-1), 1) := by decide +kernel
theorem md_T_readExponent_92 : decode prog_5_method_7_code 92 = .ok (.ireturn, 1) := by decide +kernel
theorem md_T_readExponent_78 : decode prog_5_method_7_code 78 = .ok (.iconst (-1), 1) := by decide +kernel
theorem md_T_readExponent_79 : decode prog_5_method_7_code 79 = .ok (.ireturn, 1) := by decide +kernel
theorem md_T_readExponent_45 : decode prog_5_method_7_code 45 = .ok (.bipush 10, 2) := by decide +kernel
theorem md_T_readExponent_47 : decode prog_5_method_7_code 47 = .ok (.iload_n 2, 1) := by decide +kernel
theorem md_T_readExponent_48 : decode prog_5_method_7_code 48 = .ok (.imul, 1) := by decide +kernel
theorem md_T_readExponent_49 : decode prog_5_method_7_code 49 = .ok (.aload_n 0, 1) := by decide +kernel
theorem md_T_readExponent_50 : decode prog_5_method_7_code 50 = .ok (.invokevirtual 68, 3) := by decide +kernel
theorem md_T_readExponent_53 : decode prog_5_method_7_code 53 = .ok (.iadd, 1) := by decide +kernel
theorem md_T_readExponent_54 : decode prog_5_method_7_code 54 = .ok (.bipush 48, 2) := by decide +kernel
theorem md_T_readExponent_56 : decode prog_5_method_7_code 56 = .ok (.isub, 1) := by decide +kernel
theorem md_T_readExponent_57 : decode prog_5_method_7_code 57 = .ok (.istore_n 2, 1) := by decide +kernel
theorem md_T_readExponent_58 : decode prog_5_method_7_code 58 = .ok (.aload_n 0, 1) := by decide +kernel
theorem md_T_readExponent_59 : decode prog_5_method_7_code 59 = .ok (.dup, 1) := by decide +kernel
theorem md_T_readExponent_60 : decode prog_5_method_7_code 60 = .ok (.getfield 28, 3) := by decide +kernel
theorem md_T_readExponent_63 : decode prog_5_method_7_code 63 = .ok (.iconst 1, 1) := by decide +kernel
theorem md_T_readExponent_64 : decode prog_5_method_7_code 64 = .ok (.iadd, 1) := by decide +kernel
theorem md_T_readExponent_65 : decode prog_5_method_7_code 65 = .ok (.putfield 28, 3) := by decide +kernel
theorem md_T_readExponent_10 : decode prog_5_method_7_code 10 = .ok (.iconst (-1), 1) := by decide +kernel
theorem md_T_readExponent_11 : decode prog_5_method_7_code 11 = .ok (.ireturn, 1) := by decide +kernel
def mj_T_readExponent_68 (x0 : Nat) (x1 : Int) (x2 : Int) (σ : pw_Sto) : Option (Int × pw_Sto) := pw_bd (mf_T_here x0 σ) (fun v15 s14 => pw_bd (mf_T_isDigit v15 s14) (fun v17 s16 => pw_ck v17 0 (if v17 = 0 then pw_ck x2 (16 : Int) (if x2 < (16 : Int) then some (x2, s16) else (pw_pi 2 x0 2 x1 s16).bind (fun s18 => some ((-1 : Int), s18))) else some ((-1 : Int), s16))))
def mf_T_readExponent (x0 : Nat) (σ : pw_Sto) : Option (Int × pw_Sto) := pw_gd 2 x0 σ (pw_bd (mf_T_peek x0 σ) (fun v2 s1 => pw_bd (mf_T_isDigit v2 s1) (fun v4 s3 => pw_ck v4 0 (if v4 = 0 then some ((-1 : Int), s3) else (pw_gi 2 x0 2 s3).bind (fun v5 => pw_bd (mf_T_here x0 s3) (fun v7 s6 => (pw_gi 2 x0 2 s6).bind (fun v8 => (pw_pi 2 x0 2 (v8 + (1 : Int)) s6).bind (fun s9 => pw_bd (mf_T_here x0 s9) (fun v11 s10 => pw_bd (mf_T_isDigit v11 s10) (fun v13 s12 => pw_ck v13 0 (if v13 = 0 then mj_T_readExponent_68 x0 v5 (v7 - (48 : Int)) s12 else pw_bd (mf_T_here x0 s12) (fun v20 s19 => (pw_gi 2 x0 2 s19).bind (fun v21 => (pw_pi 2 x0 2 (v21 + (1 : Int)) s19).bind (fun s22 => mj_T_readExponent_68 x0 v5 ((((10 : Int) * (v7 - (48 : Int))) + v20) - (48 : Int)) s22))))))))))))))
set_option maxHeartbeats 4000000 in
set_option maxRecDepth 20000 in
theorem sj_T_readExponent_68 {X : pw_X Int} (hX : pw_Ok X prog_5_method_7_code "PadeWorkbench$FractionText" mr_T_readExponent 3) (hR : pw_RI X prog_5_method_7_code) (x0 : Nat) (x1 : Int) (x2 : Int) (σ : pw_Sto) : pw_Sp X 0 0 68 [(0, Value.ref x0), (1, Value.int (iI x1)), (2, Value.int (iI x2))] [] σ (mj_T_readExponent_68 x0 x1 x2 σ) := by
  unfold mj_T_readExponent_68
  refine sp_aload_n (pc := 68) (k := 0) (i := 0) hX rfl 0 rfl md_T_readExponent_68 ?_
  refine sp_callVI (pc := 69) (y := my_T_here) (ccy := prog_5_method_10_code) (nLy := 1) (ret := (some .int)) (rmy := mr_T_here) (n := 0) (idx := 68) (As := []) (st := []) (o := x0) (cells' := 0) (slots' := 0) hX (fun _ h => mc_T_here h) mk_T_here mv_T_here mcl_2 (fun _ h => pw_gd_of h) mq_457 ⟨(Nat.le_of_ble_eq_true rfl), (Nat.le_of_ble_eq_true rfl)⟩ rfl rfl (Nat.le_of_ble_eq_true rfl) ⟨(Nat.le_of_ble_eq_true rfl), (Nat.le_of_ble_eq_true rfl)⟩ rfl rfl md_T_readExponent_69 (fun v15 s14 => ?_)
  refine sp_callSI (pc := 72) (y := my_T_isDigit) (ccy := prog_5_method_11_code) (nLy := 1) (ret := (some .boolean)) (rmy := mr_T_isDigit) (n := 1) (idx := 53) (As := [.int (iI v15)]) (st := []) (cells' := 0) (slots' := 0) hX (fun _ h => mc_T_isDigit h) mk_T_isDigit mq_466 mq_465 ⟨(Nat.le_of_ble_eq_true rfl), (Nat.le_of_ble_eq_true rfl)⟩ rfl rfl (Nat.le_of_ble_eq_true rfl) ⟨(Nat.le_of_ble_eq_true rfl), (Nat.le_of_ble_eq_true rfl)⟩ rfl rfl md_T_readExponent_72 (fun v17 s16 => ?_)
  refine sp_if_eq (pc := 75) hX 80 (by decide) md_T_readExponent_75 (fun _ => ?_) (fun _ => ?_)
  · refine sp_iload_n (pc := 80) (k := 2) (i := 2) hX rfl 2 rfl md_T_readExponent_80 ?_
    refine sp_bipush (pc := 81) hX (by decide) md_T_readExponent_81 ?_
    refine sp_icmp_lt (pc := 83) hX 93 (by decide) md_T_readExponent_83 (fun _ => ?_) (fun _ => ?_)
    · refine sp_iload_n (pc := 93) (k := 2) (i := 2) hX rfl 2 rfl md_T_readExponent_93 ?_
      exact sp_iret (pc := 94) hX hR rfl (Nat.le_of_ble_eq_true rfl) md_T_readExponent_94
    · refine sp_aload_n (pc := 86) (k := 0) (i := 0) hX rfl 0 rfl md_T_readExponent_86 ?_
      refine sp_iload_n (pc := 87) (k := 1) (i := 1) hX rfl 1 rfl md_T_readExponent_87 ?_
      refine sp_putI (pc := 88) (ci := 2) (k := 2) (idx := 28) hX mcl_2 (by decide) mq_155 rfl rfl rfl md_T_readExponent_88 (fun s18 => ?_)
      refine sp_iconst (pc := 91) hX md_T_readExponent_91 ?_
      exact sp_iret (pc := 92) hX hR rfl (Nat.le_of_ble_eq_true rfl) md_T_readExponent_92
  · refine sp_iconst (pc := 78) hX md_T_readExponent_78 ?_
    exact sp_iret (pc := 79) hX hR rfl (Nat.le_of_ble_eq_true rfl) md_T_readExponent_79
set_option maxHeartbeats 4000000 in
set_option maxRecDepth 20000 in
theorem mc_T_readExponent {l : Launch} {E : pw_E} {σ : pw_Sto} {x0 : Nat} {out : Int × pw_Sto} (h : mf_T_readExponent x0 σ = some out) : pw_CI l E my_T_readExponent prog_5_method_7_code 3 (some .int) mr_T_readExponent [.ref x0] σ out := by
  unfold mf_T_readExponent at h
  refine pw_entryI (by decide) (Nat.le_of_ble_eq_true rfl) (pw_gd_val h) (fun X hX hR hI => ?_)
  change pw_Ok X prog_5_method_7_code "PadeWorkbench$FractionText" mr_T_readExponent 3 at hX
  show pw_Sp X 0 0 0 [(0, Value.ref x0)] [] σ _
  refine sp_aload_n (pc := 0) (k := 0) (i := 0) hX rfl 0 rfl md_T_readExponent_0 ?_
  refine sp_callVI (pc := 1) (y := my_T_peek) (ccy := prog_5_method_9_code) (nLy := 1) (ret := (some .int)) (rmy := mr_T_peek) (n := 0) (idx := 45) (As := []) (st := []) (o := x0) (cells' := 0) (slots' := 0) hX (fun _ h => mc_T_peek h) mk_T_peek mv_T_peek mcl_2 (fun _ h => pw_gd_of h) mq_453 ⟨(Nat.le_of_ble_eq_true rfl), (Nat.le_of_ble_eq_true rfl)⟩ rfl rfl (Nat.le_of_ble_eq_true rfl) ⟨(Nat.le_of_ble_eq_true rfl), (Nat.le_of_ble_eq_true rfl)⟩ rfl rfl md_T_readExponent_1 (fun v2 s1 => ?_)
  refine sp_callSI (pc := 4) (y := my_T_isDigit) (ccy := prog_5_method_11_code) (nLy := 1) (ret := (some .boolean)) (rmy := mr_T_isDigit) (n := 1) (idx := 53) (As := [.int (iI v2)]) (st := []) (cells' := 0) (slots' := 0) hX (fun _ h => mc_T_isDigit h) mk_T_isDigit mq_466 mq_465 ⟨(Nat.le_of_ble_eq_true rfl), (Nat.le_of_ble_eq_true rfl)⟩ rfl rfl (Nat.le_of_ble_eq_true rfl) ⟨(Nat.le_of_ble_eq_true rfl), (Nat.le_of_ble_eq_true rfl)⟩ rfl rfl md_T_readExponent_4 (fun v4 s3 => ?_)
  refine sp_if_ne (pc := 7) hX 12 (by decide) md_T_readExponent_7 (fun _ => ?_) (fun _ => ?_)
  · refine sp_iconst (pc := 10) hX md_T_readExponent_10 ?_
    exact sp_iret (pc := 11) hX hR rfl (Nat.le_of_ble_eq_true rfl) md_T_readExponent_11
  · refine sp_aload_n (pc := 12) (k := 0) (i := 0) hX rfl 0 rfl md_T_readExponent_12 ?_
    refine sp_getI (pc := 13) (ci := 2) (k := 2) (idx := 28) hX mcl_2 (by decide) mq_155 rfl md_T_readExponent_13 (fun v5 => ?_)
    refine sp_istore_n (pc := 16) (k := 1) (i := 1) (L' := [(1, Value.int (iI v5)), (0, Value.ref x0)]) hX rfl (by decide) rfl md_T_readExponent_16 ?_
    refine sp_aload_n (pc := 17) (k := 0) (i := 0) hX rfl 1 rfl md_T_readExponent_17 ?_
    refine sp_callVI (pc := 18) (y := my_T_here) (ccy := prog_5_method_10_code) (nLy := 1) (ret := (some .int)) (rmy := mr_T_here) (n := 0) (idx := 68) (As := []) (st := []) (o := x0) (cells' := 0) (slots' := 0) hX (fun _ h => mc_T_here h) mk_T_here mv_T_here mcl_2 (fun _ h => pw_gd_of h) mq_457 ⟨(Nat.le_of_ble_eq_true rfl), (Nat.le_of_ble_eq_true rfl)⟩ rfl rfl (Nat.le_of_ble_eq_true rfl) ⟨(Nat.le_of_ble_eq_true rfl), (Nat.le_of_ble_eq_true rfl)⟩ rfl rfl md_T_readExponent_18 (fun v7 s6 => ?_)
    refine sp_bipush (pc := 21) hX (by decide) md_T_readExponent_21 ?_
    refine sp_isub (pc := 23) hX md_T_readExponent_23 ?_
    refine sp_istore_n (pc := 24) (k := 2) (i := 2) (L' := [(2, Value.int (iI (v7 - (48 : Int)))), (1, Value.int (iI v5)), (0, Value.ref x0)]) hX rfl (by decide) rfl md_T_readExponent_24 ?_
    refine sp_aload_n (pc := 25) (k := 0) (i := 0) hX rfl 2 rfl md_T_readExponent_25 ?_
    refine sp_dup (pc := 26) hX rfl md_T_readExponent_26 ?_
    refine sp_getI (pc := 27) (ci := 2) (k := 2) (idx := 28) hX mcl_2 (by decide) mq_155 rfl md_T_readExponent_27 (fun v8 => ?_)
    refine sp_iconst (pc := 30) hX md_T_readExponent_30 ?_
    refine sp_iadd (pc := 31) hX md_T_readExponent_31 ?_
    refine sp_putI (pc := 32) (ci := 2) (k := 2) (idx := 28) hX mcl_2 (by decide) mq_155 rfl rfl rfl md_T_readExponent_32 (fun s9 => ?_)
    refine sp_aload_n (pc := 35) (k := 0) (i := 0) hX rfl 2 rfl md_T_readExponent_35 ?_
    refine sp_callVI (pc := 36) (y := my_T_here) (ccy := prog_5_method_10_code) (nLy := 1) (ret := (some .int)) (rmy := mr_T_here) (n := 0) (idx := 68) (As := []) (st := []) (o := x0) (cells' := 0) (slots' := 0) hX (fun _ h => mc_T_here h) mk_T_here mv_T_here mcl_2 (fun _ h => pw_gd_of h) mq_457 ⟨(Nat.le_of_ble_eq_true rfl), (Nat.le_of_ble_eq_true rfl)⟩ rfl rfl (Nat.le_of_ble_eq_true rfl) ⟨(Nat.le_of_ble_eq_true rfl), (Nat.le_of_ble_eq_true rfl)⟩ rfl rfl md_T_readExponent_36 (fun v11 s10 => ?_)
    refine sp_callSI (pc := 39) (y := my_T_isDigit) (ccy := prog_5_method_11_code) (nLy := 1) (ret := (some .boolean)) (rmy := mr_T_isDigit) (n := 1) (idx := 53) (As := [.int (iI v11)]) (st := []) (cells' := 0) (slots' := 0) hX (fun _ h => mc_T_isDigit h) mk_T_isDigit mq_466 mq_465 ⟨(Nat.le_of_ble_eq_true rfl), (Nat.le_of_ble_eq_true rfl)⟩ rfl rfl (Nat.le_of_ble_eq_true rfl) ⟨(Nat.le_of_ble_eq_true rfl), (Nat.le_of_ble_eq_true rfl)⟩ rfl rfl md_T_readExponent_39 (fun v13 s12 => ?_)
    refine sp_if_eq (pc := 42) hX 68 (by decide) md_T_readExponent_42 (fun _ => ?_) (fun _ => ?_)
    · refine sp_sub [2, 1, 0] (L' := [(0, Value.ref x0), (1, Value.int (iI v5)), (2, Value.int (iI (v7 - (48 : Int))))]) rfl ?_
      exact sj_T_readExponent_68 hX hR x0 v5 (v7 - (48 : Int)) s12
    · refine sp_bipush (pc := 45) hX (by decide) md_T_readExponent_45 ?_
      refine sp_iload_n (pc := 47) (k := 2) (i := 2) hX rfl 0 rfl md_T_readExponent_47 ?_
      refine sp_imul (pc := 48) hX md_T_readExponent_48 ?_
      refine sp_aload_n (pc := 49) (k := 0) (i := 0) hX rfl 2 rfl md_T_readExponent_49 ?_
      refine sp_callVI (pc := 50) (y := my_T_here) (ccy := prog_5_method_10_code) (nLy := 1) (ret := (some .int)) (rmy := mr_T_here) (n := 0) (idx := 68) (As := []) (st := [.int (iI ((10 : Int) * (v7 - (48 : Int))))]) (o := x0) (cells' := 0) (slots' := 0) hX (fun _ h => mc_T_here h) mk_T_here mv_T_here mcl_2 (fun _ h => pw_gd_of h) mq_457 ⟨(Nat.le_of_ble_eq_true rfl), (Nat.le_of_ble_eq_true rfl)⟩ rfl rfl (Nat.le_of_ble_eq_true rfl) ⟨(Nat.le_of_ble_eq_true rfl), (Nat.le_of_ble_eq_true rfl)⟩ rfl rfl md_T_readExponent_50 (fun v20 s19 => ?_)
      refine sp_iadd (pc := 53) hX md_T_readExponent_53 ?_
      refine sp_bipush (pc := 54) hX (by decide) md_T_readExponent_54 ?_
      refine sp_isub (pc := 56) hX md_T_readExponent_56 ?_
      refine sp_istore_n (pc := 57) (k := 2) (i := 2) (L' := [(2, Value.int (iI ((((10 : Int) * (v7 - (48 : Int))) + v20) - (48 : Int)))), (1, Value.int (iI v5)), (0, Value.ref x0)]) hX rfl (by decide) rfl md_T_readExponent_57 ?_
      refine sp_aload_n (pc := 58) (k := 0) (i := 0) hX rfl 2 rfl md_T_readExponent_58 ?_
      refine sp_dup (pc := 59) hX rfl md_T_readExponent_59 ?_
      refine sp_getI (pc := 60) (ci := 2) (k := 2) (idx := 28) hX mcl_2 (by decide) mq_155 rfl md_T_readExponent_60 (fun v21 => ?_)
      refine sp_iconst (pc := 63) hX md_T_readExponent_63 ?_
      refine sp_iadd (pc := 64) hX md_T_readExponent_64 ?_
      refine sp_putI (pc := 65) (ci := 2) (k := 2) (idx := 28) hX mcl_2 (by decide) mq_155 rfl rfl rfl md_T_readExponent_65 (fun s22 => ?_)
      refine sp_sub [2, 1, 0] (L' := [(0, Value.ref x0), (1, Value.int (iI v5)), (2, Value.int (iI ((((10 : Int) * (v7 - (48 : Int))) + v20) - (48 : Int))))]) rfl ?_
      exact sj_T_readExponent_68 hX hR x0 v5 ((((10 : Int) * (v7 - (48 : Int))) + v20) - (48 : Int)) s22
/-! PadeWorkbench$FractionText.readTerm([IZ)Z -/
theorem md_T_readTerm_0 : decode prog_5_method_5_code 0 = .ok (.iconst 1, 1) := by decide +kernel
theorem md_T_readTerm_1 : decode prog_5_method_5_code 1 = .ok (.istore_n 3, 1) := by decide +kernel
theorem md_T_readTerm_2 : decode prog_5_method_5_code 2 = .ok (.iconst 0, 1) := by decide +kernel
theorem md_T_readTerm_3 : decode prog_5_method_5_code 3 = .ok (.istore 4, 2) := by decide +kernel
theorem md_T_readTerm_5 : decode prog_5_method_5_code 5 = .ok (.aload_n 0, 1) := by decide +kernel
theorem md_T_readTerm_6 : decode prog_5_method_5_code 6 = .ok (.invokevirtual 45, 3) := by decide +kernel
theorem md_T_readTerm_9 : decode prog_5_method_5_code 9 = .ok (.invokestatic 53, 3) := by decide +kernel
theorem md_T_readTerm_12 : decode prog_5_method_5_code 12 = .ok (.istore 5, 2) := by decide +kernel
theorem md_T_readTerm_14 : decode prog_5_method_5_code 14 = .ok (.iload 5, 2) := by decide +kernel
theorem md_T_readTerm_16 : decode prog_5_method_5_code 16 = .ok (.ifCond .eq 14, 3) := by decide +kernel
theorem md_T_readTerm_30 : decode prog_5_method_5_code 30 = .ok (.aload_n 0, 1) := by decide +kernel
theorem md_T_readTerm_31 : decode prog_5_method_5_code 31 = .ok (.bipush 120, 2) := by decide +kernel
theorem md_T_readTerm_33 : decode prog_5_method_5_code 33 = .ok (.invokevirtual 41, 3) := by decide +kernel
theorem md_T_readTerm_36 : decode prog_5_method_5_code 36 = .ok (.ifCond .eq 25, 3) := by decide +kernel
theorem md_T_readTerm_61 : decode prog_5_method_5_code 61 = .ok (.iload 5, 2) := by decide +kernel
theorem md_T_readTerm_63 : decode prog_5_method_5_code 63 = .ok (.ifCond .ne 5, 3) := by decide +kernel
theorem md_T_readTerm_68 : decode prog_5_method_5_code 68 = .ok (.iload 4, 2) := by decide +kernel
theorem md_T_readTerm_70 : decode prog_5_method_5_code 70 = .ok (.ifCond .lt 10, 3) := by decide +kernel
theorem md_T_readTerm_80 : decode prog_5_method_5_code 80 = .ok (.iconst 0, 1) := by decide +kernel
theorem md_T_readTerm_81 : decode prog_5_method_5_code 81 = .ok (.ireturn, 1) := by decide +kernel
theorem md_T_readTerm_73 : decode prog_5_method_5_code 73 = .ok (.iload 4, 2) := by decide +kernel
theorem md_T_readTerm_75 : decode prog_5_method_5_code 75 = .ok (.bipush 16, 2) := by decide +kernel
theorem md_T_readTerm_77 : decode prog_5_method_5_code 77 = .ok (.if_icmp .lt 5, 3) := by decide +kernel
theorem md_T_readTerm_82 : decode prog_5_method_5_code 82 = .ok (.iload_n 3, 1) := by decide +kernel
theorem md_T_readTerm_83 : decode prog_5_method_5_code 83 = .ok (.aload_n 0, 1) := by decide +kernel
theorem md_T_readTerm_84 : decode prog_5_method_5_code 84 = .ok (.getfield 25, 3) := by decide +kernel
theorem md_T_readTerm_87 : decode prog_5_method_5_code 87 = .ok (.invokestatic 62, 3) := by decide +kernel
theorem md_T_readTerm_90 : decode prog_5_method_5_code 90 = .ok (.istore 6, 2) := by decide +kernel
theorem md_T_readTerm_92 : decode prog_5_method_5_code 92 = .ok (.aload_n 1, 1) := by decide +kernel
theorem md_T_readTerm_93 : decode prog_5_method_5_code 93 = .ok (.iload 4, 2) := by decide +kernel
theorem md_T_readTerm_95 : decode prog_5_method_5_code 95 = .ok (.aload_n 1, 1) := by decide +kernel
theorem md_T_readTerm_96 : decode prog_5_method_5_code 96 = .ok (.iload 4, 2) := by decide +kernel
theorem md_T_readTerm_98 : decode prog_5_method_5_code 98 = .ok (.iaload, 1) := by decide +kernel
theorem md_T_readTerm_99 : decode prog_5_method_5_code 99 = .ok (.iload_n 2, 1) := by decide +kernel
theorem md_T_readTerm_100 : decode prog_5_method_5_code 100 = .ok (.ifCond .eq 13, 3) := by decide +kernel
theorem md_T_readTerm_113 : decode prog_5_method_5_code 113 = .ok (.iload 6, 2) := by decide +kernel
theorem md_T_readTerm_115 : decode prog_5_method_5_code 115 = .ok (.iadd, 1) := by decide +kernel
theorem md_T_readTerm_116 : decode prog_5_method_5_code 116 = .ok (.aload_n 0, 1) := by decide +kernel
theorem md_T_readTerm_117 : decode prog_5_method_5_code 117 = .ok (.getfield 25, 3) := by decide +kernel
theorem md_T_readTerm_120 : decode prog_5_method_5_code 120 = .ok (.invokestatic 62, 3) := by decide +kernel
theorem md_T_readTerm_123 : decode prog_5_method_5_code 123 = .ok (.iastore, 1) := by decide +kernel
theorem md_T_readTerm_124 : decode prog_5_method_5_code 124 = .ok (.iconst 1, 1) := by decide +kernel
theorem md_T_readTerm_125 : decode prog_5_method_5_code 125 = .ok (.ireturn, 1) := by decide +kernel
theorem md_T_readTerm_103 : decode prog_5_method_5_code 103 = .ok (.aload_n 0, 1) := by decide +kernel
theorem md_T_readTerm_104 : decode prog_5_method_5_code 104 = .ok (.getfield 25, 3) := by decide +kernel
theorem md_T_readTerm_107 : decode prog_5_method_5_code 107 = .ok (.iload 6, 2) := by decide +kernel
theorem md_T_readTerm_109 : decode prog_5_method_5_code 109 = .ok (.isub, 1) := by decide +kernel
theorem md_T_readTerm_110 : decode prog_5_method_5_code 110 = .ok (.goto 5, 3) := by decide +kernel
theorem md_T_readTerm_66 : decode prog_5_method_5_code 66 = .ok (.iconst 0, 1) := by decide +kernel
theorem md_T_readTerm_67 : decode prog_5_method_5_code 67 = .ok (.ireturn, 1) := by decide +kernel
theorem md_T_readTerm_39 : decode prog_5_method_5_code 39 = .ok (.aload_n 0, 1) := by decide +kernel
theorem md_T_readTerm_40 : decode prog_5_method_5_code 40 = .ok (.bipush 94, 2) := by decide +kernel
theorem md_T_readTerm_42 : decode prog_5_method_5_code 42 = .ok (.invokevirtual 41, 3) := by decide +kernel
theorem md_T_readTerm_45 : decode prog_5_method_5_code 45 = .ok (.ifCond .eq 10, 3) := by decide +kernel
theorem md_T_readTerm_55 : decode prog_5_method_5_code 55 = .ok (.iconst 1, 1) := by decide +kernel
theorem md_T_readTerm_56 : decode prog_5_method_5_code 56 = .ok (.istore 4, 2) := by decide +kernel
theorem md_T_readTerm_58 : decode prog_5_method_5_code 58 = .ok (.goto 10, 3) := by decide +kernel
theorem md_T_readTerm_48 : decode prog_5_method_5_code 48 = .ok (.aload_n 0, 1) := by decide +kernel
theorem md_T_readTerm_49 : decode prog_5_method_5_code 49 = .ok (.invokevirtual 59, 3) := by decide +kernel
theorem md_T_readTerm_52 : decode prog_5_method_5_code 52 = .ok (.goto 4, 3) := by decide +kernel
theorem md_T_readTerm_19 : decode prog_5_method_5_code 19 = .ok (.aload_n 0, 1) := by decide +kernel
theorem md_T_readTerm_20 : decode prog_5_method_5_code 20 = .ok (.invokevirtual 56, 3) := by decide +kernel
theorem md_T_readTerm_23 : decode prog_5_method_5_code 23 = .ok (.istore_n 3, 1) := by decide +kernel
theorem md_T_readTerm_24 : decode prog_5_method_5_code 24 = .ok (.iload_n 3, 1) := by decide +kernel
theorem md_T_readTerm_25 : decode prog_5_method_5_code 25 = .ok (.ifCond .ge 5, 3) := by decide +kernel
theorem md_T_readTerm_28 : decode prog_5_method_5_code 28 = .ok (.iconst 0, 1) := by decide +kernel
theorem md_T_readTerm_29 : decode prog_5_method_5_code 29 = .ok (.ireturn, 1) := by decide +kernel
def mj_T_readTerm_115 (x0 : Nat) (y0 : Int) (y1 : Int) (y2 : Int) (y3 : Nat) (σ : pw_Sto) : Option (Int × pw_Sto) := (pw_gi 2 x0 3 σ).bind (fun v11 => pw_bd (mf_K_reduce (y1 + y0) v11 σ) (fun v13 s12 => (pw_si y3 y2 v13 s12).bind (fun s14 => some ((1 : Int), s14))))
def mj_T_readTerm_68 (x0 : Nat) (x1 : Nat) (x2 : Int) (x3 : Int) (x4 : Int) (σ : pw_Sto) : Option (Int × pw_Sto) := pw_ck x4 0 (if x4 < 0 then some ((0 : Int), σ) else pw_ck x4 (16 : Int) (if x4 < (16 : Int) then (pw_gi 2 x0 3 σ).bind (fun v7 => pw_bd (mf_K_reduce x3 v7 σ) (fun v9 s8 => (pw_ai x1 x4 s8).bind (fun v10 => pw_ck x2 0 (if x2 = 0 then mj_T_readTerm_115 x0 v9 v10 x4 x1 s8 else (pw_gi 2 x0 3 s8).bind (fun v15 => mj_T_readTerm_115 x0 (v15 - v9) v10 x4 x1 s8))))) else some ((0 : Int), σ)))
def mj_T_readTerm_56 (x0 : Nat) (x1 : Nat) (x2 : Int) (x3 : Int) (y0 : Int) (σ : pw_Sto) : Option (Int × pw_Sto) := mj_T_readTerm_68 x0 x1 x2 x3 y0 σ
def mj_T_readTerm_30 (x0 : Nat) (x1 : Nat) (x2 : Int) (x3 : Int) (x4 : Int) (x5 : Int) (σ : pw_Sto) : Option (Int × pw_Sto) := pw_bd (mf_T_took x0 (120 : Int) σ) (fun v6 s5 => pw_ck v6 0 (if v6 = 0 then pw_ck x5 0 (if x5 = 0 then some ((0 : Int), s5) else mj_T_readTerm_68 x0 x1 x2 x3 x4 s5) else pw_bd (mf_T_took x0 (94 : Int) s5) (fun v17 s16 => pw_ck v17 0 (if v17 = 0 then mj_T_readTerm_56 x0 x1 x2 x3 (1 : Int) s16 else pw_bd (mf_T_readExponent x0 s16) (fun v19 s18 => mj_T_readTerm_56 x0 x1 x2 x3 v19 s18)))))
def mf_T_readTerm (x0 : Nat) (x1 : Nat) (x2 : Int) (σ : pw_Sto) : Option (Int × pw_Sto) := pw_gd 2 x0 σ (pw_bd (mf_T_peek x0 σ) (fun v2 s1 => pw_bd (mf_T_isDigit v2 s1) (fun v4 s3 => pw_ck v4 0 (if v4 = 0 then mj_T_readTerm_30 x0 x1 x2 (1 : Int) (0 : Int) v4 s3 else pw_bd (mf_T_readNumber x0 s3) (fun v21 s20 => pw_ck v21 0 (if 0 ≤ v21 then mj_T_readTerm_30 x0 x1 x2 v21 (0 : Int) v4 s20 else some ((0 : Int), s20)))))))
set_option maxHeartbeats 4000000 in
set_option maxRecDepth 20000 in
theorem sj_T_readTerm_115 {X : pw_X Int} (hX : pw_Ok X prog_5_method_5_code "PadeWorkbench$FractionText" mr_T_readTerm 7) (hR : pw_RZ X prog_5_method_5_code) (x0 : Nat) (y0 : Int) (y1 : Int) (y2 : Int) (y3 : Nat) (σ : pw_Sto) : pw_Sp X 0 0 115 [(0, Value.ref x0)] [Value.int (iI y0), Value.int (iI y1), Value.int (iI y2), Value.ref y3] σ (mj_T_readTerm_115 x0 y0 y1 y2 y3 σ) := by
  unfold mj_T_readTerm_115
  refine sp_iadd (pc := 115) hX md_T_readTerm_115 ?_
  refine sp_aload_n (pc := 116) (k := 0) (i := 0) hX rfl 0 rfl md_T_readTerm_116 ?_
  refine sp_getI (pc := 117) (ci := 2) (k := 3) (idx := 25) hX mcl_2 (by decide) mq_157 rfl md_T_readTerm_117 (fun v11 => ?_)
  refine sp_callSI (pc := 120) (y := my_K_reduce) (ccy := prog_3_method_2_code) (nLy := 2) (ret := (some .int)) (rmy := mr_K_reduce) (n := 2) (idx := 62) (As := [.int (iI (y1 + y0)), .int (iI v11)]) (st := [.int (iI y2), .ref y3]) (cells' := 0) (slots' := 0) hX (fun _ h => mc_K_reduce h) mk_K_reduce mq_373 mq_476 ⟨(Nat.le_of_ble_eq_true rfl), (Nat.le_of_ble_eq_true rfl)⟩ rfl rfl (Nat.le_of_ble_eq_true rfl) ⟨(Nat.le_of_ble_eq_true rfl), (Nat.le_of_ble_eq_true rfl)⟩ rfl rfl md_T_readTerm_120 (fun v13 s12 => ?_)
  refine sp_iastore (pc := 123) hX md_T_readTerm_123 (fun s14 => ?_)
  refine sp_iconst (pc := 124) hX md_T_readTerm_124 ?_
  exact sp_zret (pc := 125) hX hR (by decide) rfl (Nat.le_of_ble_eq_true rfl) md_T_readTerm_125
set_option maxHeartbeats 4000000 in
set_option maxRecDepth 20000 in
theorem sj_T_readTerm_68 {X : pw_X Int} (hX : pw_Ok X prog_5_method_5_code "PadeWorkbench$FractionText" mr_T_readTerm 7) (hR : pw_RZ X prog_5_method_5_code) (x0 : Nat) (x1 : Nat) (x2 : Int) (x3 : Int) (x4 : Int) (σ : pw_Sto) : pw_Sp X 0 0 68 [(0, Value.ref x0), (1, Value.ref x1), (2, Value.int (iI x2)), (3, Value.int (iI x3)), (4, Value.int (iI x4))] [] σ (mj_T_readTerm_68 x0 x1 x2 x3 x4 σ) := by
  unfold mj_T_readTerm_68
  refine sp_iload (pc := 68) (i := 4) hX 4 rfl md_T_readTerm_68 ?_
  refine sp_if_lt (pc := 70) hX 80 (by decide) md_T_readTerm_70 (fun _ => ?_) (fun _ => ?_)
  · refine sp_iconst (pc := 80) hX md_T_readTerm_80 ?_
    exact sp_zret (pc := 81) hX hR (by decide) rfl (Nat.le_of_ble_eq_true rfl) md_T_readTerm_81
  · refine sp_iload (pc := 73) (i := 4) hX 4 rfl md_T_readTerm_73 ?_
    refine sp_bipush (pc := 75) hX (by decide) md_T_readTerm_75 ?_
    refine sp_icmp_lt (pc := 77) hX 82 (by decide) md_T_readTerm_77 (fun _ => ?_) (fun _ => ?_)
    · refine sp_iload_n (pc := 82) (k := 3) (i := 3) hX rfl 3 rfl md_T_readTerm_82 ?_
      refine sp_aload_n (pc := 83) (k := 0) (i := 0) hX rfl 0 rfl md_T_readTerm_83 ?_
      refine sp_getI (pc := 84) (ci := 2) (k := 3) (idx := 25) hX mcl_2 (by decide) mq_157 rfl md_T_readTerm_84 (fun v7 => ?_)
      refine sp_callSI (pc := 87) (y := my_K_reduce) (ccy := prog_3_method_2_code) (nLy := 2) (ret := (some .int)) (rmy := mr_K_reduce) (n := 2) (idx := 62) (As := [.int (iI x3), .int (iI v7)]) (st := []) (cells' := 0) (slots' := 0) hX (fun _ h => mc_K_reduce h) mk_K_reduce mq_373 mq_476 ⟨(Nat.le_of_ble_eq_true rfl), (Nat.le_of_ble_eq_true rfl)⟩ rfl rfl (Nat.le_of_ble_eq_true rfl) ⟨(Nat.le_of_ble_eq_true rfl), (Nat.le_of_ble_eq_true rfl)⟩ rfl rfl md_T_readTerm_87 (fun v9 s8 => ?_)
      refine sp_istore (pc := 90) (i := 6) (L' := [(6, Value.int (iI v9)), (0, Value.ref x0), (1, Value.ref x1), (2, Value.int (iI x2)), (3, Value.int (iI x3)), (4, Value.int (iI x4))]) hX (by decide) rfl md_T_readTerm_90 ?_
      refine sp_aload_n (pc := 92) (k := 1) (i := 1) hX rfl 2 rfl md_T_readTerm_92 ?_
      refine sp_iload (pc := 93) (i := 4) hX 5 rfl md_T_readTerm_93 ?_
      refine sp_aload_n (pc := 95) (k := 1) (i := 1) hX rfl 2 rfl md_T_readTerm_95 ?_
      refine sp_iload (pc := 96) (i := 4) hX 5 rfl md_T_readTerm_96 ?_
      refine sp_iaload (pc := 98) hX md_T_readTerm_98 (fun v10 => ?_)
      refine sp_iload_n (pc := 99) (k := 2) (i := 2) hX rfl 3 rfl md_T_readTerm_99 ?_
      refine sp_if_eq (pc := 100) hX 113 (by decide) md_T_readTerm_100 (fun _ => ?_) (fun _ => ?_)
      · refine sp_iload (pc := 113) (i := 6) hX 0 rfl md_T_readTerm_113 ?_
        refine sp_sub [1] (L' := [(0, Value.ref x0)]) rfl ?_
        exact sj_T_readTerm_115 hX hR x0 v9 v10 x4 x1 s8
      · refine sp_aload_n (pc := 103) (k := 0) (i := 0) hX rfl 1 rfl md_T_readTerm_103 ?_
        refine sp_getI (pc := 104) (ci := 2) (k := 3) (idx := 25) hX mcl_2 (by decide) mq_157 rfl md_T_readTerm_104 (fun v15 => ?_)
        refine sp_iload (pc := 107) (i := 6) hX 0 rfl md_T_readTerm_107 ?_
        refine sp_isub (pc := 109) hX md_T_readTerm_109 ?_
        refine sp_goto (pc := 110) hX 115 (by decide) md_T_readTerm_110 ?_
        refine sp_sub [1] (L' := [(0, Value.ref x0)]) rfl ?_
        exact sj_T_readTerm_115 hX hR x0 (v15 - v9) v10 x4 x1 s8
    · refine sp_iconst (pc := 80) hX md_T_readTerm_80 ?_
      exact sp_zret (pc := 81) hX hR (by decide) rfl (Nat.le_of_ble_eq_true rfl) md_T_readTerm_81
set_option maxHeartbeats 4000000 in
set_option maxRecDepth 20000 in
theorem sj_T_readTerm_56 {X : pw_X Int} (hX : pw_Ok X prog_5_method_5_code "PadeWorkbench$FractionText" mr_T_readTerm 7) (hR : pw_RZ X prog_5_method_5_code) (x0 : Nat) (x1 : Nat) (x2 : Int) (x3 : Int) (y0 : Int) (σ : pw_Sto) : pw_Sp X 0 0 56 [(0, Value.ref x0), (1, Value.ref x1), (2, Value.int (iI x2)), (3, Value.int (iI x3))] [Value.int (iI y0)] σ (mj_T_readTerm_56 x0 x1 x2 x3 y0 σ) := by
  unfold mj_T_readTerm_56
  refine sp_istore (pc := 56) (i := 4) (L' := [(4, Value.int (iI y0)), (0, Value.ref x0), (1, Value.ref x1), (2, Value.int (iI x2)), (3, Value.int (iI x3))]) hX (by decide) rfl md_T_readTerm_56 ?_
  refine sp_goto (pc := 58) hX 68 (by decide) md_T_readTerm_58 ?_
  refine sp_sub [1, 2, 3, 4, 0] (L' := [(0, Value.ref x0), (1, Value.ref x1), (2, Value.int (iI x2)), (3, Value.int (iI x3)), (4, Value.int (iI y0))]) rfl ?_
  exact sj_T_readTerm_68 hX hR x0 x1 x2 x3 y0 σ
set_option maxHeartbeats 4000000 in
set_option maxRecDepth 20000 in
theorem sj_T_readTerm_30 {X : pw_X Int} (hX : pw_Ok X prog_5_method_5_code "PadeWorkbench$FractionText" mr_T_readTerm 7) (hR : pw_RZ X prog_5_method_5_code) (x0 : Nat) (x1 : Nat) (x2 : Int) (x3 : Int) (x4 : Int) (x5 : Int) (σ : pw_Sto) : pw_Sp X 0 0 30 [(0, Value.ref x0), (1, Value.ref x1), (2, Value.int (iI x2)), (3, Value.int (iI x3)), (4, Value.int (iI x4)), (5, Value.int (iI x5))] [] σ (mj_T_readTerm_30 x0 x1 x2 x3 x4 x5 σ) := by
  unfold mj_T_readTerm_30
  refine sp_aload_n (pc := 30) (k := 0) (i := 0) hX rfl 0 rfl md_T_readTerm_30 ?_
  refine sp_bipush (pc := 31) hX (by decide) md_T_readTerm_31 ?_
  refine sp_callVI (pc := 33) (y := my_T_took) (ccy := prog_5_method_8_code) (nLy := 2) (ret := (some .boolean)) (rmy := mr_T_took) (n := 1) (idx := 41) (As := [.int (iI (120 : Int))]) (st := []) (o := x0) (cells' := 0) (slots' := 0) hX (fun _ h => mc_T_took h) mk_T_took mv_T_took mcl_2 (fun _ h => pw_gd_of h) mq_449 ⟨(Nat.le_of_ble_eq_true rfl), (Nat.le_of_ble_eq_true rfl)⟩ rfl rfl (Nat.le_of_ble_eq_true rfl) ⟨(Nat.le_of_ble_eq_true rfl), (Nat.le_of_ble_eq_true rfl)⟩ rfl rfl md_T_readTerm_33 (fun v6 s5 => ?_)
  refine sp_if_eq (pc := 36) hX 61 (by decide) md_T_readTerm_36 (fun _ => ?_) (fun _ => ?_)
  · refine sp_iload (pc := 61) (i := 5) hX 5 rfl md_T_readTerm_61 ?_
    refine sp_if_ne (pc := 63) hX 68 (by decide) md_T_readTerm_63 (fun _ => ?_) (fun _ => ?_)
    · refine sp_iconst (pc := 66) hX md_T_readTerm_66 ?_
      exact sp_zret (pc := 67) hX hR (by decide) rfl (Nat.le_of_ble_eq_true rfl) md_T_readTerm_67
    · refine sp_sub [0, 1, 2, 3, 4] (L' := [(0, Value.ref x0), (1, Value.ref x1), (2, Value.int (iI x2)), (3, Value.int (iI x3)), (4, Value.int (iI x4))]) rfl ?_
      exact sj_T_readTerm_68 hX hR x0 x1 x2 x3 x4 s5
  · refine sp_aload_n (pc := 39) (k := 0) (i := 0) hX rfl 0 rfl md_T_readTerm_39 ?_
    refine sp_bipush (pc := 40) hX (by decide) md_T_readTerm_40 ?_
    refine sp_callVI (pc := 42) (y := my_T_took) (ccy := prog_5_method_8_code) (nLy := 2) (ret := (some .boolean)) (rmy := mr_T_took) (n := 1) (idx := 41) (As := [.int (iI (94 : Int))]) (st := []) (o := x0) (cells' := 0) (slots' := 0) hX (fun _ h => mc_T_took h) mk_T_took mv_T_took mcl_2 (fun _ h => pw_gd_of h) mq_449 ⟨(Nat.le_of_ble_eq_true rfl), (Nat.le_of_ble_eq_true rfl)⟩ rfl rfl (Nat.le_of_ble_eq_true rfl) ⟨(Nat.le_of_ble_eq_true rfl), (Nat.le_of_ble_eq_true rfl)⟩ rfl rfl md_T_readTerm_42 (fun v17 s16 => ?_)
    refine sp_if_eq (pc := 45) hX 55 (by decide) md_T_readTerm_45 (fun _ => ?_) (fun _ => ?_)
    · refine sp_iconst (pc := 55) hX md_T_readTerm_55 ?_
      refine sp_sub [0, 1, 2, 3] (L' := [(0, Value.ref x0), (1, Value.ref x1), (2, Value.int (iI x2)), (3, Value.int (iI x3))]) rfl ?_
      exact sj_T_readTerm_56 hX hR x0 x1 x2 x3 (1 : Int) s16
    · refine sp_aload_n (pc := 48) (k := 0) (i := 0) hX rfl 0 rfl md_T_readTerm_48 ?_
      refine sp_callVI (pc := 49) (y := my_T_readExponent) (ccy := prog_5_method_7_code) (nLy := 3) (ret := (some .int)) (rmy := mr_T_readExponent) (n := 0) (idx := 59) (As := []) (st := []) (o := x0) (cells' := 0) (slots' := 0) hX (fun _ h => mc_T_readExponent h) mk_T_readExponent mv_T_readExponent mcl_2 (fun _ h => pw_gd_of h) mq_472 ⟨(Nat.le_of_ble_eq_true rfl), (Nat.le_of_ble_eq_true rfl)⟩ rfl rfl (Nat.le_of_ble_eq_true rfl) ⟨(Nat.le_of_ble_eq_true rfl), (Nat.le_of_ble_eq_true rfl)⟩ rfl rfl md_T_readTerm_49 (fun v19 s18 => ?_)
      refine sp_goto (pc := 52) hX 56 (by decide) md_T_readTerm_52 ?_
      refine sp_sub [0, 1, 2, 3] (L' := [(0, Value.ref x0), (1, Value.ref x1), (2, Value.int (iI x2)), (3, Value.int (iI x3))]) rfl ?_
      exact sj_T_readTerm_56 hX hR x0 x1 x2 x3 v19 s18
set_option maxHeartbeats 4000000 in
set_option maxRecDepth 20000 in
theorem mc_T_readTerm {l : Launch} {E : pw_E} {σ : pw_Sto} {x0 : Nat} {x1 : Nat} {x2 : Int} {out : Int × pw_Sto} (h : mf_T_readTerm x0 x1 x2 σ = some out) : pw_CI l E my_T_readTerm prog_5_method_5_code 7 (some .boolean) mr_T_readTerm [.ref x0, .ref x1, .int (iI x2)] σ out := by
  unfold mf_T_readTerm at h
  refine pw_entryZ (by decide) (Nat.le_of_ble_eq_true rfl) (pw_gd_val h) (fun X hX hR hI => ?_)
  change pw_Ok X prog_5_method_5_code "PadeWorkbench$FractionText" mr_T_readTerm 7 at hX
  show pw_Sp X 0 0 0 [(0, Value.ref x0), (1, Value.ref x1), (2, Value.int (iI x2))] [] σ _
  refine sp_iconst (pc := 0) hX md_T_readTerm_0 ?_
  refine sp_istore_n (pc := 1) (k := 3) (i := 3) (L' := [(3, Value.int (iI (1 : Int))), (0, Value.ref x0), (1, Value.ref x1), (2, Value.int (iI x2))]) hX rfl (by decide) rfl md_T_readTerm_1 ?_
  refine sp_iconst (pc := 2) hX md_T_readTerm_2 ?_
  refine sp_istore (pc := 3) (i := 4) (L' := [(4, Value.int (iI (0 : Int))), (3, Value.int (iI (1 : Int))), (0, Value.ref x0), (1, Value.ref x1), (2, Value.int (iI x2))]) hX (by decide) rfl md_T_readTerm_3 ?_
  refine sp_aload_n (pc := 5) (k := 0) (i := 0) hX rfl 2 rfl md_T_readTerm_5 ?_
  refine sp_callVI (pc := 6) (y := my_T_peek) (ccy := prog_5_method_9_code) (nLy := 1) (ret := (some .int)) (rmy := mr_T_peek) (n := 0) (idx := 45) (As := []) (st := []) (o := x0) (cells' := 0) (slots' := 0) hX (fun _ h => mc_T_peek h) mk_T_peek mv_T_peek mcl_2 (fun _ h => pw_gd_of h) mq_453 ⟨(Nat.le_of_ble_eq_true rfl), (Nat.le_of_ble_eq_true rfl)⟩ rfl rfl (Nat.le_of_ble_eq_true rfl) ⟨(Nat.le_of_ble_eq_true rfl), (Nat.le_of_ble_eq_true rfl)⟩ rfl rfl md_T_readTerm_6 (fun v2 s1 => ?_)
  refine sp_callSI (pc := 9) (y := my_T_isDigit) (ccy := prog_5_method_11_code) (nLy := 1) (ret := (some .boolean)) (rmy := mr_T_isDigit) (n := 1) (idx := 53) (As := [.int (iI v2)]) (st := []) (cells' := 0) (slots' := 0) hX (fun _ h => mc_T_isDigit h) mk_T_isDigit mq_466 mq_465 ⟨(Nat.le_of_ble_eq_true rfl), (Nat.le_of_ble_eq_true rfl)⟩ rfl rfl (Nat.le_of_ble_eq_true rfl) ⟨(Nat.le_of_ble_eq_true rfl), (Nat.le_of_ble_eq_true rfl)⟩ rfl rfl md_T_readTerm_9 (fun v4 s3 => ?_)
  refine sp_istore (pc := 12) (i := 5) (L' := [(5, Value.int (iI v4)), (4, Value.int (iI (0 : Int))), (3, Value.int (iI (1 : Int))), (0, Value.ref x0), (1, Value.ref x1), (2, Value.int (iI x2))]) hX (by decide) rfl md_T_readTerm_12 ?_
  refine sp_iload (pc := 14) (i := 5) hX 0 rfl md_T_readTerm_14 ?_
  refine sp_if_eq (pc := 16) hX 30 (by decide) md_T_readTerm_16 (fun _ => ?_) (fun _ => ?_)
  · refine sp_sub [3, 4, 5, 2, 1, 0] (L' := [(0, Value.ref x0), (1, Value.ref x1), (2, Value.int (iI x2)), (3, Value.int (iI (1 : Int))), (4, Value.int (iI (0 : Int))), (5, Value.int (iI v4))]) rfl ?_
    exact sj_T_readTerm_30 hX hR x0 x1 x2 (1 : Int) (0 : Int) v4 s3
  · refine sp_aload_n (pc := 19) (k := 0) (i := 0) hX rfl 3 rfl md_T_readTerm_19 ?_
    refine sp_callVI (pc := 20) (y := my_T_readNumber) (ccy := prog_5_method_6_code) (nLy := 3) (ret := (some .int)) (rmy := mr_T_readNumber) (n := 0) (idx := 56) (As := []) (st := []) (o := x0) (cells' := 0) (slots' := 0) hX (fun _ h => mc_T_readNumber h) mk_T_readNumber mv_T_readNumber mcl_2 (fun _ h => pw_gd_of h) mq_468 ⟨(Nat.le_of_ble_eq_true rfl), (Nat.le_of_ble_eq_true rfl)⟩ rfl rfl (Nat.le_of_ble_eq_true rfl) ⟨(Nat.le_of_ble_eq_true rfl), (Nat.le_of_ble_eq_true rfl)⟩ rfl rfl md_T_readTerm_20 (fun v21 s20 => ?_)
    refine sp_istore_n (pc := 23) (k := 3) (i := 3) (L' := [(3, Value.int (iI v21)), (5, Value.int (iI v4)), (4, Value.int (iI (0 : Int))), (0, Value.ref x0), (1, Value.ref x1), (2, Value.int (iI x2))]) hX rfl (by decide) rfl md_T_readTerm_23 ?_
    refine sp_iload_n (pc := 24) (k := 3) (i := 3) hX rfl 0 rfl md_T_readTerm_24 ?_
    refine sp_if_ge (pc := 25) hX 30 (by decide) md_T_readTerm_25 (fun _ => ?_) (fun _ => ?_)
    · refine sp_sub [3, 4, 5, 0, 2, 1] (L' := [(0, Value.ref x0), (1, Value.ref x1), (2, Value.int (iI x2)), (3, Value.int (iI v21)), (4, Value.int (iI (0 : Int))), (5, Value.int (iI v4))]) rfl ?_
      exact sj_T_readTerm_30 hX hR x0 x1 x2 v21 (0 : Int) v4 s20
    · refine sp_iconst (pc := 28) hX md_T_readTerm_28 ?_
      exact sp_zret (pc := 29) hX hR (by decide) rfl (Nat.le_of_ble_eq_true rfl) md_T_readTerm_29
/-! PadeWorkbench$FractionText.readPolynomial([I)Z -/
theorem md_T_readPolynomial_0 : decode prog_5_method_4_code 0 = .ok (.aload_n 0, 1) := by decide +kernel
theorem md_T_readPolynomial_1 : decode prog_5_method_4_code 1 = .ok (.bipush 45, 2) := by decide +kernel
theorem md_T_readPolynomial_3 : decode prog_5_method_4_code 3 = .ok (.invokevirtual 41, 3) := by decide +kernel
theorem md_T_readPolynomial_6 : decode prog_5_method_4_code 6 = .ok (.istore_n 2, 1) := by decide +kernel
theorem md_T_readPolynomial_7 : decode prog_5_method_4_code 7 = .ok (.iconst 0, 1) := by decide +kernel
theorem md_T_readPolynomial_8 : decode prog_5_method_4_code 8 = .ok (.istore_n 3, 1) := by decide +kernel
theorem md_T_readPolynomial_9 : decode prog_5_method_4_code 9 = .ok (.iload_n 3, 1) := by decide +kernel
theorem md_T_readPolynomial_10 : decode prog_5_method_4_code 10 = .ok (.bipush 80, 2) := by decide +kernel
theorem md_T_readPolynomial_12 : decode prog_5_method_4_code 12 = .ok (.if_icmp .ge 50, 3) := by decide +kernel
theorem md_T_readPolynomial_62 : decode prog_5_method_4_code 62 = .ok (.iconst 0, 1) := by decide +kernel
theorem md_T_readPolynomial_63 : decode prog_5_method_4_code 63 = .ok (.ireturn, 1) := by decide +kernel
theorem md_T_readPolynomial_15 : decode prog_5_method_4_code 15 = .ok (.aload_n 0, 1) := by decide +kernel
theorem md_T_readPolynomial_16 : decode prog_5_method_4_code 16 = .ok (.aload_n 1, 1) := by decide +kernel
theorem md_T_readPolynomial_17 : decode prog_5_method_4_code 17 = .ok (.iload_n 2, 1) := by decide +kernel
theorem md_T_readPolynomial_18 : decode prog_5_method_4_code 18 = .ok (.invokevirtual 49, 3) := by decide +kernel
theorem md_T_readPolynomial_21 : decode prog_5_method_4_code 21 = .ok (.ifCond .ne 5, 3) := by decide +kernel
theorem md_T_readPolynomial_26 : decode prog_5_method_4_code 26 = .ok (.aload_n 0, 1) := by decide +kernel
theorem md_T_readPolynomial_27 : decode prog_5_method_4_code 27 = .ok (.bipush 43, 2) := by decide +kernel
theorem md_T_readPolynomial_29 : decode prog_5_method_4_code 29 = .ok (.invokevirtual 41, 3) := by decide +kernel
theorem md_T_readPolynomial_32 : decode prog_5_method_4_code 32 = .ok (.ifCond .eq 8, 3) := by decide +kernel
theorem md_T_readPolynomial_40 : decode prog_5_method_4_code 40 = .ok (.aload_n 0, 1) := by decide +kernel
theorem md_T_readPolynomial_41 : decode prog_5_method_4_code 41 = .ok (.bipush 45, 2) := by decide +kernel
theorem md_T_readPolynomial_43 : decode prog_5_method_4_code 43 = .ok (.invokevirtual 41, 3) := by decide +kernel
theorem md_T_readPolynomial_46 : decode prog_5_method_4_code 46 = .ok (.ifCond .eq 8, 3) := by decide +kernel
theorem md_T_readPolynomial_54 : decode prog_5_method_4_code 54 = .ok (.iconst 1, 1) := by decide +kernel
theorem md_T_readPolynomial_55 : decode prog_5_method_4_code 55 = .ok (.ireturn, 1) := by decide +kernel
theorem md_T_readPolynomial_49 : decode prog_5_method_4_code 49 = .ok (.iconst 1, 1) := by decide +kernel
theorem md_T_readPolynomial_50 : decode prog_5_method_4_code 50 = .ok (.istore_n 2, 1) := by decide +kernel
theorem md_T_readPolynomial_51 : decode prog_5_method_4_code 51 = .ok (.goto 5, 3) := by decide +kernel
theorem md_T_readPolynomial_56 : decode prog_5_method_4_code 56 = .ok (.iinc 3 1, 3) := by decide +kernel
theorem md_T_readPolynomial_59 : decode prog_5_method_4_code 59 = .ok (.goto (-50), 3) := by decide +kernel
theorem md_T_readPolynomial_35 : decode prog_5_method_4_code 35 = .ok (.iconst 0, 1) := by decide +kernel
theorem md_T_readPolynomial_36 : decode prog_5_method_4_code 36 = .ok (.istore_n 2, 1) := by decide +kernel
theorem md_T_readPolynomial_37 : decode prog_5_method_4_code 37 = .ok (.goto 19, 3) := by decide +kernel
theorem md_T_readPolynomial_24 : decode prog_5_method_4_code 24 = .ok (.iconst 0, 1) := by decide +kernel
theorem md_T_readPolynomial_25 : decode prog_5_method_4_code 25 = .ok (.ireturn, 1) := by decide +kernel
def mb_T_readPolynomial_9 (rc : Nat → Nat → Int → Int → pw_Sto → Option (Int × pw_Sto)) : Nat → Nat → Int → Int → pw_Sto → Option (Int × pw_Sto) := fun x0 x1 x2 x3 σ => pw_ck x3 (80 : Int) (if (80 : Int) ≤ x3 then some ((0 : Int), σ) else pw_bd (mf_T_readTerm x0 x1 x2 σ) (fun v4 s3 => pw_ck v4 0 (if v4 = 0 then some ((0 : Int), s3) else pw_bd (mf_T_took x0 (43 : Int) s3) (fun v6 s5 => pw_ck v6 0 (if v6 = 0 then pw_bd (mf_T_took x0 (45 : Int) s5) (fun v8 s7 => pw_ck v8 0 (if v8 = 0 then some ((1 : Int), s7) else rc x0 x1 (1 : Int) (x3 + 1) s7)) else rc x0 x1 (0 : Int) (x3 + 1) s5)))))
def ml_T_readPolynomial_9 : Nat → Nat → Nat → Int → Int → pw_Sto → Option (Int × pw_Sto) := pw_lp (fun _ _ _ _ _ => none) (mb_T_readPolynomial_9)
def mf_T_readPolynomial (x0 : Nat) (x1 : Nat) (σ : pw_Sto) : Option (Int × pw_Sto) := pw_gd 2 x0 σ (pw_bd (mf_T_took x0 (45 : Int) σ) (fun v2 s1 => ml_T_readPolynomial_9 1000 x0 x1 v2 (0 : Int) s1))
set_option maxHeartbeats 4000000 in
set_option maxRecDepth 20000 in
theorem sl_T_readPolynomial_9 {X : pw_X Int} (hX : pw_Ok X prog_5_method_4_code "PadeWorkbench$FractionText" mr_T_readPolynomial 4) (hR : pw_RZ X prog_5_method_4_code) : ∀ (n : Nat) (x0 : Nat) (x1 : Nat) (x2 : Int) (x3 : Int) (σ : pw_Sto), pw_Sp X 0 0 9 [(0, Value.ref x0), (1, Value.ref x1), (2, Value.int (iI x2)), (3, Value.int (iI x3))] [] σ (ml_T_readPolynomial_9 n x0 x1 x2 x3 σ) := by
  intro n
  induction n with
  | zero => intros; exact pw_none
  | succ n ih =>
    intro x0 x1 x2 x3 σ
    show pw_Sp X 0 0 9 _ _ σ (mb_T_readPolynomial_9 (ml_T_readPolynomial_9 n) x0 x1 x2 x3 σ)
    unfold mb_T_readPolynomial_9
    refine sp_iload_n (pc := 9) (k := 3) (i := 3) hX rfl 3 rfl md_T_readPolynomial_9 ?_
    refine sp_bipush (pc := 10) hX (by decide) md_T_readPolynomial_10 ?_
    refine sp_icmp_ge (pc := 12) hX 62 (by decide) md_T_readPolynomial_12 (fun _ => ?_) (fun _ => ?_)
    · refine sp_iconst (pc := 62) hX md_T_readPolynomial_62 ?_
      exact sp_zret (pc := 63) hX hR (by decide) rfl (Nat.le_of_ble_eq_true rfl) md_T_readPolynomial_63
    · refine sp_aload_n (pc := 15) (k := 0) (i := 0) hX rfl 0 rfl md_T_readPolynomial_15 ?_
      refine sp_aload_n (pc := 16) (k := 1) (i := 1) hX rfl 1 rfl md_T_readPolynomial_16 ?_
      refine sp_iload_n (pc := 17) (k := 2) (i := 2) hX rfl 2 rfl md_T_readPolynomial_17 ?_
      refine sp_callVI (pc := 18) (y := my_T_readTerm) (ccy := prog_5_method_5_code) (nLy := 7) (ret := (some .boolean)) (rmy := mr_T_readTerm) (n := 2) (idx := 49) (As := [.ref x1, .int (iI x2)]) (st := []) (o := x0) (cells' := 0) (slots' := 0) hX (fun _ h => mc_T_readTerm h) mk_T_readTerm mv_T_readTerm mcl_2 (fun _ h => pw_gd_of h) mq_461 ⟨(Nat.le_of_ble_eq_true rfl), (Nat.le_of_ble_eq_true rfl)⟩ rfl rfl (Nat.le_of_ble_eq_true rfl) ⟨(Nat.le_of_ble_eq_true rfl), (Nat.le_of_ble_eq_true rfl)⟩ rfl rfl md_T_readPolynomial_18 (fun v4 s3 => ?_)
      refine sp_if_ne (pc := 21) hX 26 (by decide) md_T_readPolynomial_21 (fun _ => ?_) (fun _ => ?_)
      · refine sp_iconst (pc := 24) hX md_T_readPolynomial_24 ?_
        exact sp_zret (pc := 25) hX hR (by decide) rfl (Nat.le_of_ble_eq_true rfl) md_T_readPolynomial_25
      · refine sp_aload_n (pc := 26) (k := 0) (i := 0) hX rfl 0 rfl md_T_readPolynomial_26 ?_
        refine sp_bipush (pc := 27) hX (by decide) md_T_readPolynomial_27 ?_
        refine sp_callVI (pc := 29) (y := my_T_took) (ccy := prog_5_method_8_code) (nLy := 2) (ret := (some .boolean)) (rmy := mr_T_took) (n := 1) (idx := 41) (As := [.int (iI (43 : Int))]) (st := []) (o := x0) (cells' := 0) (slots' := 0) hX (fun _ h => mc_T_took h) mk_T_took mv_T_took mcl_2 (fun _ h => pw_gd_of h) mq_449 ⟨(Nat.le_of_ble_eq_true rfl), (Nat.le_of_ble_eq_true rfl)⟩ rfl rfl (Nat.le_of_ble_eq_true rfl) ⟨(Nat.le_of_ble_eq_true rfl), (Nat.le_of_ble_eq_true rfl)⟩ rfl rfl md_T_readPolynomial_29 (fun v6 s5 => ?_)
        refine sp_if_eq (pc := 32) hX 40 (by decide) md_T_readPolynomial_32 (fun _ => ?_) (fun _ => ?_)
        · refine sp_aload_n (pc := 40) (k := 0) (i := 0) hX rfl 0 rfl md_T_readPolynomial_40 ?_
          refine sp_bipush (pc := 41) hX (by decide) md_T_readPolynomial_41 ?_
          refine sp_callVI (pc := 43) (y := my_T_took) (ccy := prog_5_method_8_code) (nLy := 2) (ret := (some .boolean)) (rmy := mr_T_took) (n := 1) (idx := 41) (As := [.int (iI (45 : Int))]) (st := []) (o := x0) (cells' := 0) (slots' := 0) hX (fun _ h => mc_T_took h) mk_T_took mv_T_took mcl_2 (fun _ h => pw_gd_of h) mq_449 ⟨(Nat.le_of_ble_eq_true rfl), (Nat.le_of_ble_eq_true rfl)⟩ rfl rfl (Nat.le_of_ble_eq_true rfl) ⟨(Nat.le_of_ble_eq_true rfl), (Nat.le_of_ble_eq_true rfl)⟩ rfl rfl md_T_readPolynomial_43 (fun v8 s7 => ?_)
          refine sp_if_eq (pc := 46) hX 54 (by decide) md_T_readPolynomial_46 (fun _ => ?_) (fun _ => ?_)
          · refine sp_iconst (pc := 54) hX md_T_readPolynomial_54 ?_
            exact sp_zret (pc := 55) hX hR (by decide) rfl (Nat.le_of_ble_eq_true rfl) md_T_readPolynomial_55
          · refine sp_iconst (pc := 49) hX md_T_readPolynomial_49 ?_
            refine sp_istore_n (pc := 50) (k := 2) (i := 2) (L' := [(2, Value.int (iI (1 : Int))), (0, Value.ref x0), (1, Value.ref x1), (3, Value.int (iI x3))]) hX rfl (by decide) rfl md_T_readPolynomial_50 ?_
            refine sp_goto (pc := 51) hX 56 (by decide) md_T_readPolynomial_51 ?_
            refine sp_iinc (pc := 56) (i := 3) (L' := [(3, Value.int (iI (x3 + 1))), (2, Value.int (iI (1 : Int))), (0, Value.ref x0), (1, Value.ref x1)]) hX 3 rfl (by decide) rfl md_T_readPolynomial_56 ?_
            refine sp_goto (pc := 59) hX 9 (by decide) md_T_readPolynomial_59 ?_
            refine sp_sub [2, 3, 1, 0] (L' := [(0, Value.ref x0), (1, Value.ref x1), (2, Value.int (iI (1 : Int))), (3, Value.int (iI (x3 + 1)))]) rfl ?_
            exact ih x0 x1 (1 : Int) (x3 + 1) s7
        · refine sp_iconst (pc := 35) hX md_T_readPolynomial_35 ?_
          refine sp_istore_n (pc := 36) (k := 2) (i := 2) (L' := [(2, Value.int (iI (0 : Int))), (0, Value.ref x0), (1, Value.ref x1), (3, Value.int (iI x3))]) hX rfl (by decide) rfl md_T_readPolynomial_36 ?_
          refine sp_goto (pc := 37) hX 56 (by decide) md_T_readPolynomial_37 ?_
          refine sp_iinc (pc := 56) (i := 3) (L' := [(3, Value.int (iI (x3 + 1))), (2, Value.int (iI (0 : Int))), (0, Value.ref x0), (1, Value.ref x1)]) hX 3 rfl (by decide) rfl md_T_readPolynomial_56 ?_
          refine sp_goto (pc := 59) hX 9 (by decide) md_T_readPolynomial_59 ?_
          refine sp_sub [2, 3, 1, 0] (L' := [(0, Value.ref x0), (1, Value.ref x1), (2, Value.int (iI (0 : Int))), (3, Value.int (iI (x3 + 1)))]) rfl ?_
          exact ih x0 x1 (0 : Int) (x3 + 1) s5
set_option maxHeartbeats 4000000 in
set_option maxRecDepth 20000 in
theorem mc_T_readPolynomial {l : Launch} {E : pw_E} {σ : pw_Sto} {x0 : Nat} {x1 : Nat} {out : Int × pw_Sto} (h : mf_T_readPolynomial x0 x1 σ = some out) : pw_CI l E my_T_readPolynomial prog_5_method_4_code 4 (some .boolean) mr_T_readPolynomial [.ref x0, .ref x1] σ out := by
  unfold mf_T_readPolynomial at h
  refine pw_entryZ (by decide) (Nat.le_of_ble_eq_true rfl) (pw_gd_val h) (fun X hX hR hI => ?_)
  change pw_Ok X prog_5_method_4_code "PadeWorkbench$FractionText" mr_T_readPolynomial 4 at hX
  show pw_Sp X 0 0 0 [(0, Value.ref x0), (1, Value.ref x1)] [] σ _
  refine sp_aload_n (pc := 0) (k := 0) (i := 0) hX rfl 0 rfl md_T_readPolynomial_0 ?_
  refine sp_bipush (pc := 1) hX (by decide) md_T_readPolynomial_1 ?_
  refine sp_callVI (pc := 3) (y := my_T_took) (ccy := prog_5_method_8_code) (nLy := 2) (ret := (some .boolean)) (rmy := mr_T_took) (n := 1) (idx := 41) (As := [.int (iI (45 : Int))]) (st := []) (o := x0) (cells' := 0) (slots' := 0) hX (fun _ h => mc_T_took h) mk_T_took mv_T_took mcl_2 (fun _ h => pw_gd_of h) mq_449 ⟨(Nat.le_of_ble_eq_true rfl), (Nat.le_of_ble_eq_true rfl)⟩ rfl rfl (Nat.le_of_ble_eq_true rfl) ⟨(Nat.le_of_ble_eq_true rfl), (Nat.le_of_ble_eq_true rfl)⟩ rfl rfl md_T_readPolynomial_3 (fun v2 s1 => ?_)
  refine sp_istore_n (pc := 6) (k := 2) (i := 2) (L' := [(2, Value.int (iI v2)), (0, Value.ref x0), (1, Value.ref x1)]) hX rfl (by decide) rfl md_T_readPolynomial_6 ?_
  refine sp_iconst (pc := 7) hX md_T_readPolynomial_7 ?_
  refine sp_istore_n (pc := 8) (k := 3) (i := 3) (L' := [(3, Value.int (iI (0 : Int))), (2, Value.int (iI v2)), (0, Value.ref x0), (1, Value.ref x1)]) hX rfl (by decide) rfl md_T_readPolynomial_8 ?_
  refine sp_sub [2, 3, 1, 0] (L' := [(0, Value.ref x0), (1, Value.ref x1), (2, Value.int (iI v2)), (3, Value.int (iI (0 : Int)))]) rfl ?_
  exact sl_T_readPolynomial_9 hX hR 1000 x0 x1 v2 (0 : Int) s1
/-! PadeWorkbench$FractionText.readFraction(I)Z -/
theorem md_T_readFraction_0 : decode prog_5_method_3_code 0 = .ok (.aload_n 0, 1) := by decide +kernel
theorem md_T_readFraction_1 : decode prog_5_method_3_code 1 = .ok (.iload_n 1, 1) := by decide +kernel
theorem md_T_readFraction_2 : decode prog_5_method_3_code 2 = .ok (.putfield 25, 3) := by decide +kernel
theorem md_T_readFraction_5 : decode prog_5_method_3_code 5 = .ok (.aload_n 0, 1) := by decide +kernel
theorem md_T_readFraction_6 : decode prog_5_method_3_code 6 = .ok (.iconst 0, 1) := by decide +kernel
theorem md_T_readFraction_7 : decode prog_5_method_3_code 7 = .ok (.putfield 28, 3) := by decide +kernel
theorem md_T_readFraction_10 : decode prog_5_method_3_code 10 = .ok (.aload_n 0, 1) := by decide +kernel
theorem md_T_readFraction_11 : decode prog_5_method_3_code 11 = .ok (.getfield 15, 3) := by decide +kernel
theorem md_T_readFraction_14 : decode prog_5_method_3_code 14 = .ok (.iconst 0, 1) := by decide +kernel
theorem md_T_readFraction_15 : decode prog_5_method_3_code 15 = .ok (.invokestatic 31, 3) := by decide +kernel
theorem md_T_readFraction_18 : decode prog_5_method_3_code 18 = .ok (.aload_n 0, 1) := by decide +kernel
theorem md_T_readFraction_19 : decode prog_5_method_3_code 19 = .ok (.getfield 18, 3) := by decide +kernel
theorem md_T_readFraction_22 : decode prog_5_method_3_code 22 = .ok (.iconst 0, 1) := by decide +kernel
theorem md_T_readFraction_23 : decode prog_5_method_3_code 23 = .ok (.invokestatic 31, 3) := by decide +kernel
theorem md_T_readFraction_26 : decode prog_5_method_3_code 26 = .ok (.aload_n 0, 1) := by decide +kernel
theorem md_T_readFraction_27 : decode prog_5_method_3_code 27 = .ok (.aload_n 0, 1) := by decide +kernel
theorem md_T_readFraction_28 : decode prog_5_method_3_code 28 = .ok (.getfield 15, 3) := by decide +kernel
theorem md_T_readFraction_31 : decode prog_5_method_3_code 31 = .ok (.invokevirtual 37, 3) := by decide +kernel
theorem md_T_readFraction_34 : decode prog_5_method_3_code 34 = .ok (.ifCond .ne 5, 3) := by decide +kernel
theorem md_T_readFraction_39 : decode prog_5_method_3_code 39 = .ok (.aload_n 0, 1) := by decide +kernel
theorem md_T_readFraction_40 : decode prog_5_method_3_code 40 = .ok (.bipush 47, 2) := by decide +kernel
theorem md_T_readFraction_42 : decode prog_5_method_3_code 42 = .ok (.invokevirtual 41, 3) := by decide +kernel
theorem md_T_readFraction_45 : decode prog_5_method_3_code 45 = .ok (.ifCond .ne 13, 3) := by decide +kernel
theorem md_T_readFraction_58 : decode prog_5_method_3_code 58 = .ok (.aload_n 0, 1) := by decide +kernel
theorem md_T_readFraction_59 : decode prog_5_method_3_code 59 = .ok (.aload_n 0, 1) := by decide +kernel
theorem md_T_readFraction_60 : decode prog_5_method_3_code 60 = .ok (.getfield 18, 3) := by decide +kernel
theorem md_T_readFraction_63 : decode prog_5_method_3_code 63 = .ok (.invokevirtual 37, 3) := by decide +kernel
theorem md_T_readFraction_66 : decode prog_5_method_3_code 66 = .ok (.ifCond .ne 5, 3) := by decide +kernel
theorem md_T_readFraction_71 : decode prog_5_method_3_code 71 = .ok (.aload_n 0, 1) := by decide +kernel
theorem md_T_readFraction_72 : decode prog_5_method_3_code 72 = .ok (.invokevirtual 45, 3) := by decide +kernel
theorem md_T_readFraction_75 : decode prog_5_method_3_code 75 = .ok (.iconst (-1), 1) := by decide +kernel
theorem md_T_readFraction_76 : decode prog_5_method_3_code 76 = .ok (.if_icmp .ne 7, 3) := by decide +kernel
theorem md_T_readFraction_83 : decode prog_5_method_3_code 83 = .ok (.iconst 0, 1) := by decide +kernel
theorem md_T_readFraction_84 : decode prog_5_method_3_code 84 = .ok (.ireturn, 1) := by decide +kernel
theorem md_T_readFraction_79 : decode prog_5_method_3_code 79 = .ok (.iconst 1, 1) := by decide +kernel
theorem md_T_readFraction_80 : decode prog_5_method_3_code 80 = .ok (.goto 4, 3) := by decide +kernel
theorem md_T_readFraction_69 : decode prog_5_method_3_code 69 = .ok (.iconst 0, 1) := by decide +kernel
theorem md_T_readFraction_70 : decode prog_5_method_3_code 70 = .ok (.ireturn, 1) := by decide +kernel
theorem md_T_readFraction_48 : decode prog_5_method_3_code 48 = .ok (.aload_n 0, 1) := by decide +kernel
theorem md_T_readFraction_49 : decode prog_5_method_3_code 49 = .ok (.getfield 18, 3) := by decide +kernel
theorem md_T_readFraction_52 : decode prog_5_method_3_code 52 = .ok (.iconst 0, 1) := by decide +kernel
theorem md_T_readFraction_53 : decode prog_5_method_3_code 53 = .ok (.iconst 1, 1) := by decide +kernel
theorem md_T_readFraction_54 : decode prog_5_method_3_code 54 = .ok (.iastore, 1) := by decide +kernel
theorem md_T_readFraction_55 : decode prog_5_method_3_code 55 = .ok (.goto 16, 3) := by decide +kernel
theorem md_T_readFraction_37 : decode prog_5_method_3_code 37 = .ok (.iconst 0, 1) := by decide +kernel
theorem md_T_readFraction_38 : decode prog_5_method_3_code 38 = .ok (.ireturn, 1) := by decide +kernel
def mj_T_readFraction_71 (x0 : Nat) (σ : pw_Sto) : Option (Int × pw_Sto) := pw_bd (mf_T_peek x0 σ) (fun v16 s15 => pw_ck v16 (-1 : Int) (if v16 = (-1 : Int) then some ((1 : Int), s15) else some ((0 : Int), s15)))
def mf_T_readFraction (x0 : Nat) (x1 : Int) (σ : pw_Sto) : Option (Int × pw_Sto) := pw_gd 2 x0 σ ((pw_pi 2 x0 3 x1 σ).bind (fun s1 => (pw_pi 2 x0 2 (0 : Int) s1).bind (fun s2 => (pw_gr 2 x0 4 s2).bind (fun v3 => pw_bd (mf_A_fill v3 (0 : Int) s2) (fun _ s4 => (pw_gr 2 x0 5 s4).bind (fun v5 => pw_bd (mf_A_fill v5 (0 : Int) s4) (fun _ s6 => (pw_gr 2 x0 4 s6).bind (fun v7 => pw_bd (mf_T_readPolynomial x0 v7 s6) (fun v9 s8 => pw_ck v9 0 (if v9 = 0 then some ((0 : Int), s8) else pw_bd (mf_T_took x0 (47 : Int) s8) (fun v11 s10 => pw_ck v11 0 (if v11 = 0 then (pw_gr 2 x0 5 s10).bind (fun v17 => (pw_si v17 (0 : Int) (1 : Int) s10).bind (fun s18 => mj_T_readFraction_71 x0 s18)) else (pw_gr 2 x0 5 s10).bind (fun v12 => pw_bd (mf_T_readPolynomial x0 v12 s10) (fun v14 s13 => pw_ck v14 0 (if v14 = 0 then some ((0 : Int), s13) else mj_T_readFraction_71 x0 s13)))))))))))))))
set_option maxHeartbeats 4000000 in
set_option maxRecDepth 20000 in
theorem sj_T_readFraction_71 {X : pw_X Int} (hX : pw_Ok X prog_5_method_3_code "PadeWorkbench$FractionText" mr_T_readFraction 2) (hR : pw_RZ X prog_5_method_3_code) (x0 : Nat) (σ : pw_Sto) : pw_Sp X 0 0 71 [(0, Value.ref x0)] [] σ (mj_T_readFraction_71 x0 σ) := by
  unfold mj_T_readFraction_71
  refine sp_aload_n (pc := 71) (k := 0) (i := 0) hX rfl 0 rfl md_T_readFraction_71 ?_
  refine sp_callVI (pc := 72) (y := my_T_peek) (ccy := prog_5_method_9_code) (nLy := 1) (ret := (some .int)) (rmy := mr_T_peek) (n := 0) (idx := 45) (As := []) (st := []) (o := x0) (cells' := 0) (slots' := 0) hX (fun _ h => mc_T_peek h) mk_T_peek mv_T_peek mcl_2 (fun _ h => pw_gd_of h) mq_453 ⟨(Nat.le_of_ble_eq_true rfl), (Nat.le_of_ble_eq_true rfl)⟩ rfl rfl (Nat.le_of_ble_eq_true rfl) ⟨(Nat.le_of_ble_eq_true rfl), (Nat.le_of_ble_eq_true rfl)⟩ rfl rfl md_T_readFraction_72 (fun v16 s15 => ?_)
  refine sp_iconst (pc := 75) hX md_T_readFraction_75 ?_
  refine sp_icmp_ne (pc := 76) hX 83 (by decide) md_T_readFraction_76 (fun _ => ?_) (fun _ => ?_)
  · refine sp_iconst (pc := 79) hX md_T_readFraction_79 ?_
    refine sp_goto (pc := 80) hX 84 (by decide) md_T_readFraction_80 ?_
    exact sp_zret (pc := 84) hX hR (by decide) rfl (Nat.le_of_ble_eq_true rfl) md_T_readFraction_84
  · refine sp_iconst (pc := 83) hX md_T_readFraction_83 ?_
    exact sp_zret (pc := 84) hX hR (by decide) rfl (Nat.le_of_ble_eq_true rfl) md_T_readFraction_84
set_option maxHeartbeats 4000000 in
set_option maxRecDepth 20000 in
theorem mc_T_readFraction {l : Launch} {E : pw_E} {σ : pw_Sto} {x0 : Nat} {x1 : Int} {out : Int × pw_Sto} (h : mf_T_readFraction x0 x1 σ = some out) : pw_CI l E my_T_readFraction prog_5_method_3_code 2 (some .boolean) mr_T_readFraction [.ref x0, .int (iI x1)] σ out := by
  unfold mf_T_readFraction at h
  refine pw_entryZ (by decide) (Nat.le_of_ble_eq_true rfl) (pw_gd_val h) (fun X hX hR hI => ?_)
  change pw_Ok X prog_5_method_3_code "PadeWorkbench$FractionText" mr_T_readFraction 2 at hX
  show pw_Sp X 0 0 0 [(0, Value.ref x0), (1, Value.int (iI x1))] [] σ _
  refine sp_aload_n (pc := 0) (k := 0) (i := 0) hX rfl 0 rfl md_T_readFraction_0 ?_
  refine sp_iload_n (pc := 1) (k := 1) (i := 1) hX rfl 1 rfl md_T_readFraction_1 ?_
  refine sp_putI (pc := 2) (ci := 2) (k := 3) (idx := 25) hX mcl_2 (by decide) mq_157 rfl rfl rfl md_T_readFraction_2 (fun s1 => ?_)
  refine sp_aload_n (pc := 5) (k := 0) (i := 0) hX rfl 0 rfl md_T_readFraction_5 ?_
  refine sp_iconst (pc := 6) hX md_T_readFraction_6 ?_
  refine sp_putI (pc := 7) (ci := 2) (k := 2) (idx := 28) hX mcl_2 (by decide) mq_155 rfl rfl rfl md_T_readFraction_7 (fun s2 => ?_)
  refine sp_aload_n (pc := 10) (k := 0) (i := 0) hX rfl 0 rfl md_T_readFraction_10 ?_
  refine sp_getR (pc := 11) (ci := 2) (k := 4) (idx := 15) hX mcl_2 (by decide) mq_158 rfl md_T_readFraction_11 (fun v3 => ?_)
  refine sp_iconst (pc := 14) hX md_T_readFraction_14 ?_
  refine sp_callSV (pc := 15) (y := my_A_fill) (ccy := prog_16_method_103_code) (nLy := 4) (ret := none) (rmy := mr_A_fill) (n := 2) (idx := 31) (As := [.ref v3, .int (iI (0 : Int))]) (st := []) (cells' := 0) (slots' := 0) hX (fun _ h => mc_A_fill h) mk_A_fill mq_345 mq_444 ⟨(Nat.le_of_ble_eq_true rfl), (Nat.le_of_ble_eq_true rfl)⟩ rfl rfl (Nat.le_of_ble_eq_true rfl) ⟨(Nat.le_of_ble_eq_true rfl), (Nat.le_of_ble_eq_true rfl)⟩ rfl rfl md_T_readFraction_15 (fun s4 => ?_)
  refine sp_aload_n (pc := 18) (k := 0) (i := 0) hX rfl 0 rfl md_T_readFraction_18 ?_
  refine sp_getR (pc := 19) (ci := 2) (k := 5) (idx := 18) hX mcl_2 (by decide) mq_160 rfl md_T_readFraction_19 (fun v5 => ?_)
  refine sp_iconst (pc := 22) hX md_T_readFraction_22 ?_
  refine sp_callSV (pc := 23) (y := my_A_fill) (ccy := prog_16_method_103_code) (nLy := 4) (ret := none) (rmy := mr_A_fill) (n := 2) (idx := 31) (As := [.ref v5, .int (iI (0 : Int))]) (st := []) (cells' := 0) (slots' := 0) hX (fun _ h => mc_A_fill h) mk_A_fill mq_345 mq_444 ⟨(Nat.le_of_ble_eq_true rfl), (Nat.le_of_ble_eq_true rfl)⟩ rfl rfl (Nat.le_of_ble_eq_true rfl) ⟨(Nat.le_of_ble_eq_true rfl), (Nat.le_of_ble_eq_true rfl)⟩ rfl rfl md_T_readFraction_23 (fun s6 => ?_)
  refine sp_aload_n (pc := 26) (k := 0) (i := 0) hX rfl 0 rfl md_T_readFraction_26 ?_
  refine sp_aload_n (pc := 27) (k := 0) (i := 0) hX rfl 0 rfl md_T_readFraction_27 ?_
  refine sp_getR (pc := 28) (ci := 2) (k := 4) (idx := 15) hX mcl_2 (by decide) mq_158 rfl md_T_readFraction_28 (fun v7 => ?_)
  refine sp_callVI (pc := 31) (y := my_T_readPolynomial) (ccy := prog_5_method_4_code) (nLy := 4) (ret := (some .boolean)) (rmy := mr_T_readPolynomial) (n := 1) (idx := 37) (As := [.ref v7]) (st := []) (o := x0) (cells' := 0) (slots' := 0) hX (fun _ h => mc_T_readPolynomial h) mk_T_readPolynomial mv_T_readPolynomial mcl_2 (fun _ h => pw_gd_of h) mq_445 ⟨(Nat.le_of_ble_eq_true rfl), (Nat.le_of_ble_eq_true rfl)⟩ rfl rfl (Nat.le_of_ble_eq_true rfl) ⟨(Nat.le_of_ble_eq_true rfl), (Nat.le_of_ble_eq_true rfl)⟩ rfl rfl md_T_readFraction_31 (fun v9 s8 => ?_)
  refine sp_if_ne (pc := 34) hX 39 (by decide) md_T_readFraction_34 (fun _ => ?_) (fun _ => ?_)
  · refine sp_iconst (pc := 37) hX md_T_readFraction_37 ?_
    exact sp_zret (pc := 38) hX hR (by decide) rfl (Nat.le_of_ble_eq_true rfl) md_T_readFraction_38
  · refine sp_aload_n (pc := 39) (k := 0) (i := 0) hX rfl 0 rfl md_T_readFraction_39 ?_
    refine sp_bipush (pc := 40) hX (by decide) md_T_readFraction_40 ?_
    refine sp_callVI (pc := 42) (y := my_T_took) (ccy := prog_5_method_8_code) (nLy := 2) (ret := (some .boolean)) (rmy := mr_T_took) (n := 1) (idx := 41) (As := [.int (iI (47 : Int))]) (st := []) (o := x0) (cells' := 0) (slots' := 0) hX (fun _ h => mc_T_took h) mk_T_took mv_T_took mcl_2 (fun _ h => pw_gd_of h) mq_449 ⟨(Nat.le_of_ble_eq_true rfl), (Nat.le_of_ble_eq_true rfl)⟩ rfl rfl (Nat.le_of_ble_eq_true rfl) ⟨(Nat.le_of_ble_eq_true rfl), (Nat.le_of_ble_eq_true rfl)⟩ rfl rfl md_T_readFraction_42 (fun v11 s10 => ?_)
    refine sp_if_ne (pc := 45) hX 58 (by decide) md_T_readFraction_45 (fun _ => ?_) (fun _ => ?_)
    · refine sp_aload_n (pc := 48) (k := 0) (i := 0) hX rfl 0 rfl md_T_readFraction_48 ?_
      refine sp_getR (pc := 49) (ci := 2) (k := 5) (idx := 18) hX mcl_2 (by decide) mq_160 rfl md_T_readFraction_49 (fun v17 => ?_)
      refine sp_iconst (pc := 52) hX md_T_readFraction_52 ?_
      refine sp_iconst (pc := 53) hX md_T_readFraction_53 ?_
      refine sp_iastore (pc := 54) hX md_T_readFraction_54 (fun s18 => ?_)
      refine sp_goto (pc := 55) hX 71 (by decide) md_T_readFraction_55 ?_
      refine sp_sub [0] (L' := [(0, Value.ref x0)]) rfl ?_
      exact sj_T_readFraction_71 hX hR x0 s18
    · refine sp_aload_n (pc := 58) (k := 0) (i := 0) hX rfl 0 rfl md_T_readFraction_58 ?_
      refine sp_aload_n (pc := 59) (k := 0) (i := 0) hX rfl 0 rfl md_T_readFraction_59 ?_
      refine sp_getR (pc := 60) (ci := 2) (k := 5) (idx := 18) hX mcl_2 (by decide) mq_160 rfl md_T_readFraction_60 (fun v12 => ?_)
      refine sp_callVI (pc := 63) (y := my_T_readPolynomial) (ccy := prog_5_method_4_code) (nLy := 4) (ret := (some .boolean)) (rmy := mr_T_readPolynomial) (n := 1) (idx := 37) (As := [.ref v12]) (st := []) (o := x0) (cells' := 0) (slots' := 0) hX (fun _ h => mc_T_readPolynomial h) mk_T_readPolynomial mv_T_readPolynomial mcl_2 (fun _ h => pw_gd_of h) mq_445 ⟨(Nat.le_of_ble_eq_true rfl), (Nat.le_of_ble_eq_true rfl)⟩ rfl rfl (Nat.le_of_ble_eq_true rfl) ⟨(Nat.le_of_ble_eq_true rfl), (Nat.le_of_ble_eq_true rfl)⟩ rfl rfl md_T_readFraction_63 (fun v14 s13 => ?_)
      refine sp_if_ne (pc := 66) hX 71 (by decide) md_T_readFraction_66 (fun _ => ?_) (fun _ => ?_)
      · refine sp_iconst (pc := 69) hX md_T_readFraction_69 ?_
        exact sp_zret (pc := 70) hX hR (by decide) rfl (Nat.le_of_ble_eq_true rfl) md_T_readFraction_70
      · refine sp_sub [0] (L' := [(0, Value.ref x0)]) rfl ?_
        exact sj_T_readFraction_71 hX hR x0 s13
/-! PadeWorkbench$State.hasPointAt(I)Z -/
theorem md_Z_hasPointAt_0 : decode prog_11_method_4_code 0 = .ok (.iconst 0, 1) := by decide +kernel
theorem md_Z_hasPointAt_1 : decode prog_11_method_4_code 1 = .ok (.istore_n 2, 1) := by decide +kernel
theorem md_Z_hasPointAt_2 : decode prog_11_method_4_code 2 = .ok (.iload_n 2, 1) := by decide +kernel
theorem md_Z_hasPointAt_3 : decode prog_11_method_4_code 3 = .ok (.aload_n 0, 1) := by decide +kernel
theorem md_Z_hasPointAt_4 : decode prog_11_method_4_code 4 = .ok (.getfield 33, 3) := by decide +kernel
theorem md_Z_hasPointAt_7 : decode prog_11_method_4_code 7 = .ok (.if_icmp .ge 27, 3) := by decide +kernel
theorem md_Z_hasPointAt_34 : decode prog_11_method_4_code 34 = .ok (.iconst 0, 1) := by decide +kernel
theorem md_Z_hasPointAt_35 : decode prog_11_method_4_code 35 = .ok (.ireturn, 1) := by decide +kernel
theorem md_Z_hasPointAt_10 : decode prog_11_method_4_code 10 = .ok (.iload_n 2, 1) := by decide +kernel
theorem md_Z_hasPointAt_11 : decode prog_11_method_4_code 11 = .ok (.bipush 10, 2) := by decide +kernel
theorem md_Z_hasPointAt_13 : decode prog_11_method_4_code 13 = .ok (.if_icmp .ge 21, 3) := by decide +kernel
theorem md_Z_hasPointAt_16 : decode prog_11_method_4_code 16 = .ok (.aload_n 0, 1) := by decide +kernel
theorem md_Z_hasPointAt_17 : decode prog_11_method_4_code 17 = .ok (.getfield 20, 3) := by decide +kernel
theorem md_Z_hasPointAt_20 : decode prog_11_method_4_code 20 = .ok (.iload_n 2, 1) := by decide +kernel
theorem md_Z_hasPointAt_21 : decode prog_11_method_4_code 21 = .ok (.iaload, 1) := by decide +kernel
theorem md_Z_hasPointAt_22 : decode prog_11_method_4_code 22 = .ok (.iload_n 1, 1) := by decide +kernel
theorem md_Z_hasPointAt_23 : decode prog_11_method_4_code 23 = .ok (.if_icmp .ne 5, 3) := by decide +kernel
theorem md_Z_hasPointAt_28 : decode prog_11_method_4_code 28 = .ok (.iinc 2 1, 3) := by decide +kernel
theorem md_Z_hasPointAt_31 : decode prog_11_method_4_code 31 = .ok (.goto (-29), 3) := by decide +kernel
theorem md_Z_hasPointAt_26 : decode prog_11_method_4_code 26 = .ok (.iconst 1, 1) := by decide +kernel
theorem md_Z_hasPointAt_27 : decode prog_11_method_4_code 27 = .ok (.ireturn, 1) := by decide +kernel
def mb_Z_hasPointAt_2 (rc : Nat → Int → Int → pw_Sto → Option (Int × pw_Sto)) : Nat → Int → Int → pw_Sto → Option (Int × pw_Sto) := fun x0 x1 x2 σ => (pw_gi 7 x0 2 σ).bind (fun v1 => pw_ck x2 v1 (if v1 ≤ x2 then some ((0 : Int), σ) else pw_ck x2 (10 : Int) (if (10 : Int) ≤ x2 then some ((0 : Int), σ) else (pw_gr 7 x0 3 σ).bind (fun v2 => (pw_ai v2 x2 σ).bind (fun v3 => pw_ck v3 x1 (if v3 = x1 then some ((1 : Int), σ) else rc x0 x1 (x2 + 1) σ))))))
def ml_Z_hasPointAt_2 : Nat → Nat → Int → Int → pw_Sto → Option (Int × pw_Sto) := pw_lp (fun _ _ _ _ => none) (mb_Z_hasPointAt_2)
def mf_Z_hasPointAt (x0 : Nat) (x1 : Int) (σ : pw_Sto) : Option (Int × pw_Sto) := pw_gd 7 x0 σ (ml_Z_hasPointAt_2 1000 x0 x1 (0 : Int) σ)
set_option maxHeartbeats 4000000 in
set_option maxRecDepth 20000 in
theorem sl_Z_hasPointAt_2 {X : pw_X Int} (hX : pw_Ok X prog_11_method_4_code "PadeWorkbench$State" mr_Z_hasPointAt 3) (hR : pw_RZ X prog_11_method_4_code) : ∀ (n : Nat) (x0 : Nat) (x1 : Int) (x2 : Int) (σ : pw_Sto), pw_Sp X 0 0 2 [(0, Value.ref x0), (1, Value.int (iI x1)), (2, Value.int (iI x2))] [] σ (ml_Z_hasPointAt_2 n x0 x1 x2 σ) := by
  intro n
  induction n with
  | zero => intros; exact pw_none
  | succ n ih =>
    intro x0 x1 x2 σ
    show pw_Sp X 0 0 2 _ _ σ (mb_Z_hasPointAt_2 (ml_Z_hasPointAt_2 n) x0 x1 x2 σ)
    unfold mb_Z_hasPointAt_2
    refine sp_iload_n (pc := 2) (k := 2) (i := 2) hX rfl 2 rfl md_Z_hasPointAt_2 ?_
    refine sp_aload_n (pc := 3) (k := 0) (i := 0) hX rfl 0 rfl md_Z_hasPointAt_3 ?_
    refine sp_getI (pc := 4) (ci := 7) (k := 2) (idx := 33) hX mcl_7 (by decide) mq_105 rfl md_Z_hasPointAt_4 (fun v1 => ?_)
    refine sp_icmp_ge (pc := 7) hX 34 (by decide) md_Z_hasPointAt_7 (fun _ => ?_) (fun _ => ?_)
    · refine sp_iconst (pc := 34) hX md_Z_hasPointAt_34 ?_
      exact sp_zret (pc := 35) hX hR (by decide) rfl (Nat.le_of_ble_eq_true rfl) md_Z_hasPointAt_35
    · refine sp_iload_n (pc := 10) (k := 2) (i := 2) hX rfl 2 rfl md_Z_hasPointAt_10 ?_
      refine sp_bipush (pc := 11) hX (by decide) md_Z_hasPointAt_11 ?_
      refine sp_icmp_ge (pc := 13) hX 34 (by decide) md_Z_hasPointAt_13 (fun _ => ?_) (fun _ => ?_)
      · refine sp_iconst (pc := 34) hX md_Z_hasPointAt_34 ?_
        exact sp_zret (pc := 35) hX hR (by decide) rfl (Nat.le_of_ble_eq_true rfl) md_Z_hasPointAt_35
      · refine sp_aload_n (pc := 16) (k := 0) (i := 0) hX rfl 0 rfl md_Z_hasPointAt_16 ?_
        refine sp_getR (pc := 17) (ci := 7) (k := 3) (idx := 20) hX mcl_7 (by decide) mq_108 rfl md_Z_hasPointAt_17 (fun v2 => ?_)
        refine sp_iload_n (pc := 20) (k := 2) (i := 2) hX rfl 2 rfl md_Z_hasPointAt_20 ?_
        refine sp_iaload (pc := 21) hX md_Z_hasPointAt_21 (fun v3 => ?_)
        refine sp_iload_n (pc := 22) (k := 1) (i := 1) hX rfl 1 rfl md_Z_hasPointAt_22 ?_
        refine sp_icmp_ne (pc := 23) hX 28 (by decide) md_Z_hasPointAt_23 (fun _ => ?_) (fun _ => ?_)
        · refine sp_iconst (pc := 26) hX md_Z_hasPointAt_26 ?_
          exact sp_zret (pc := 27) hX hR (by decide) rfl (Nat.le_of_ble_eq_true rfl) md_Z_hasPointAt_27
        · refine sp_iinc (pc := 28) (i := 2) (L' := [(2, Value.int (iI (x2 + 1))), (0, Value.ref x0), (1, Value.int (iI x1))]) hX 2 rfl (by decide) rfl md_Z_hasPointAt_28 ?_
          refine sp_goto (pc := 31) hX 2 (by decide) md_Z_hasPointAt_31 ?_
          refine sp_sub [1, 2, 0] (L' := [(0, Value.ref x0), (1, Value.int (iI x1)), (2, Value.int (iI (x2 + 1)))]) rfl ?_
          exact ih x0 x1 (x2 + 1) σ
set_option maxHeartbeats 4000000 in
set_option maxRecDepth 20000 in
theorem mc_Z_hasPointAt {l : Launch} {E : pw_E} {σ : pw_Sto} {x0 : Nat} {x1 : Int} {out : Int × pw_Sto} (h : mf_Z_hasPointAt x0 x1 σ = some out) : pw_CI l E my_Z_hasPointAt prog_11_method_4_code 3 (some .boolean) mr_Z_hasPointAt [.ref x0, .int (iI x1)] σ out := by
  unfold mf_Z_hasPointAt at h
  refine pw_entryZ (by decide) (Nat.le_of_ble_eq_true rfl) (pw_gd_val h) (fun X hX hR hI => ?_)
  change pw_Ok X prog_11_method_4_code "PadeWorkbench$State" mr_Z_hasPointAt 3 at hX
  show pw_Sp X 0 0 0 [(0, Value.ref x0), (1, Value.int (iI x1))] [] σ _
  refine sp_iconst (pc := 0) hX md_Z_hasPointAt_0 ?_
  refine sp_istore_n (pc := 1) (k := 2) (i := 2) (L' := [(2, Value.int (iI (0 : Int))), (0, Value.ref x0), (1, Value.int (iI x1))]) hX rfl (by decide) rfl md_Z_hasPointAt_1 ?_
  refine sp_sub [1, 2, 0] (L' := [(0, Value.ref x0), (1, Value.int (iI x1)), (2, Value.int (iI (0 : Int)))]) rfl ?_
  exact sl_Z_hasPointAt_2 hX hR 1000 x0 x1 (0 : Int) σ
/-! PadeWorkbench$State.putPoint(II)V -/
theorem md_Z_putPoint_0 : decode prog_11_method_5_code 0 = .ok (.aload_n 0, 1) := by decide +kernel
theorem md_Z_putPoint_1 : decode prog_11_method_5_code 1 = .ok (.getfield 33, 3) := by decide +kernel
theorem md_Z_putPoint_4 : decode prog_11_method_5_code 4 = .ok (.bipush 10, 2) := by decide +kernel
theorem md_Z_putPoint_6 : decode prog_11_method_5_code 6 = .ok (.if_icmp .ge 33, 3) := by decide +kernel
theorem md_Z_putPoint_39 : decode prog_11_method_5_code 39 = .ok (.return_, 1) := by decide +kernel
theorem md_Z_putPoint_9 : decode prog_11_method_5_code 9 = .ok (.aload_n 0, 1) := by decide +kernel
theorem md_Z_putPoint_10 : decode prog_11_method_5_code 10 = .ok (.getfield 20, 3) := by decide +kernel
theorem md_Z_putPoint_13 : decode prog_11_method_5_code 13 = .ok (.aload_n 0, 1) := by decide +kernel
theorem md_Z_putPoint_14 : decode prog_11_method_5_code 14 = .ok (.getfield 33, 3) := by decide +kernel
theorem md_Z_putPoint_17 : decode prog_11_method_5_code 17 = .ok (.iload_n 1, 1) := by decide +kernel
theorem md_Z_putPoint_18 : decode prog_11_method_5_code 18 = .ok (.iastore, 1) := by decide +kernel
theorem md_Z_putPoint_19 : decode prog_11_method_5_code 19 = .ok (.aload_n 0, 1) := by decide +kernel
theorem md_Z_putPoint_20 : decode prog_11_method_5_code 20 = .ok (.getfield 24, 3) := by decide +kernel
theorem md_Z_putPoint_23 : decode prog_11_method_5_code 23 = .ok (.aload_n 0, 1) := by decide +kernel
theorem md_Z_putPoint_24 : decode prog_11_method_5_code 24 = .ok (.getfield 33, 3) := by decide +kernel
theorem md_Z_putPoint_27 : decode prog_11_method_5_code 27 = .ok (.iload_n 2, 1) := by decide +kernel
theorem md_Z_putPoint_28 : decode prog_11_method_5_code 28 = .ok (.iastore, 1) := by decide +kernel
theorem md_Z_putPoint_29 : decode prog_11_method_5_code 29 = .ok (.aload_n 0, 1) := by decide +kernel
theorem md_Z_putPoint_30 : decode prog_11_method_5_code 30 = .ok (.dup, 1) := by decide +kernel
theorem md_Z_putPoint_31 : decode prog_11_method_5_code 31 = .ok (.getfield 33, 3) := by decide +kernel
theorem md_Z_putPoint_34 : decode prog_11_method_5_code 34 = .ok (.iconst 1, 1) := by decide +kernel
theorem md_Z_putPoint_35 : decode prog_11_method_5_code 35 = .ok (.iadd, 1) := by decide +kernel
theorem md_Z_putPoint_36 : decode prog_11_method_5_code 36 = .ok (.putfield 33, 3) := by decide +kernel
def mf_Z_putPoint (x0 : Nat) (x1 : Int) (x2 : Int) (σ : pw_Sto) : Option (Unit × pw_Sto) := pw_gd 7 x0 σ ((pw_gi 7 x0 2 σ).bind (fun v1 => pw_ck v1 (10 : Int) (if (10 : Int) ≤ v1 then some ((), σ) else (pw_gr 7 x0 3 σ).bind (fun v2 => (pw_gi 7 x0 2 σ).bind (fun v3 => (pw_si v2 v3 x1 σ).bind (fun s4 => (pw_gr 7 x0 4 s4).bind (fun v5 => (pw_gi 7 x0 2 s4).bind (fun v6 => (pw_si v5 v6 x2 s4).bind (fun s7 => (pw_gi 7 x0 2 s7).bind (fun v8 => (pw_pi 7 x0 2 (v8 + (1 : Int)) s7).bind (fun s9 => some ((), s9))))))))))))
set_option maxHeartbeats 4000000 in
set_option maxRecDepth 20000 in
theorem mc_Z_putPoint {l : Launch} {E : pw_E} {σ : pw_Sto} {x0 : Nat} {x1 : Int} {x2 : Int} {out : Unit × pw_Sto} (h : mf_Z_putPoint x0 x1 x2 σ = some out) : pw_CV l E my_Z_putPoint prog_11_method_5_code 3 none mr_Z_putPoint [.ref x0, .int (iI x1), .int (iI x2)] σ out := by
  unfold mf_Z_putPoint at h
  refine pw_entryV (by decide) (Nat.le_of_ble_eq_true rfl) (pw_gd_val h) (fun X hX hR hI => ?_)
  change pw_Ok X prog_11_method_5_code "PadeWorkbench$State" mr_Z_putPoint 3 at hX
  show pw_Sp X 0 0 0 [(0, Value.ref x0), (1, Value.int (iI x1)), (2, Value.int (iI x2))] [] σ _
  refine sp_aload_n (pc := 0) (k := 0) (i := 0) hX rfl 0 rfl md_Z_putPoint_0 ?_
  refine sp_getI (pc := 1) (ci := 7) (k := 2) (idx := 33) hX mcl_7 (by decide) mq_105 rfl md_Z_putPoint_1 (fun v1 => ?_)
  refine sp_bipush (pc := 4) hX (by decide) md_Z_putPoint_4 ?_
  refine sp_icmp_ge (pc := 6) hX 39 (by decide) md_Z_putPoint_6 (fun _ => ?_) (fun _ => ?_)
  · exact sp_vret (pc := 39) hX hR rfl (Nat.le_of_ble_eq_true rfl) md_Z_putPoint_39
  · refine sp_aload_n (pc := 9) (k := 0) (i := 0) hX rfl 0 rfl md_Z_putPoint_9 ?_
    refine sp_getR (pc := 10) (ci := 7) (k := 3) (idx := 20) hX mcl_7 (by decide) mq_108 rfl md_Z_putPoint_10 (fun v2 => ?_)
    refine sp_aload_n (pc := 13) (k := 0) (i := 0) hX rfl 0 rfl md_Z_putPoint_13 ?_
    refine sp_getI (pc := 14) (ci := 7) (k := 2) (idx := 33) hX mcl_7 (by decide) mq_105 rfl md_Z_putPoint_14 (fun v3 => ?_)
    refine sp_iload_n (pc := 17) (k := 1) (i := 1) hX rfl 1 rfl md_Z_putPoint_17 ?_
    refine sp_iastore (pc := 18) hX md_Z_putPoint_18 (fun s4 => ?_)
    refine sp_aload_n (pc := 19) (k := 0) (i := 0) hX rfl 0 rfl md_Z_putPoint_19 ?_
    refine sp_getR (pc := 20) (ci := 7) (k := 4) (idx := 24) hX mcl_7 (by decide) mq_111 rfl md_Z_putPoint_20 (fun v5 => ?_)
    refine sp_aload_n (pc := 23) (k := 0) (i := 0) hX rfl 0 rfl md_Z_putPoint_23 ?_
    refine sp_getI (pc := 24) (ci := 7) (k := 2) (idx := 33) hX mcl_7 (by decide) mq_105 rfl md_Z_putPoint_24 (fun v6 => ?_)
    refine sp_iload_n (pc := 27) (k := 2) (i := 2) hX rfl 2 rfl md_Z_putPoint_27 ?_
    refine sp_iastore (pc := 28) hX md_Z_putPoint_28 (fun s7 => ?_)
    refine sp_aload_n (pc := 29) (k := 0) (i := 0) hX rfl 0 rfl md_Z_putPoint_29 ?_
    refine sp_dup (pc := 30) hX rfl md_Z_putPoint_30 ?_
    refine sp_getI (pc := 31) (ci := 7) (k := 2) (idx := 33) hX mcl_7 (by decide) mq_105 rfl md_Z_putPoint_31 (fun v8 => ?_)
    refine sp_iconst (pc := 34) hX md_Z_putPoint_34 ?_
    refine sp_iadd (pc := 35) hX md_Z_putPoint_35 ?_
    refine sp_putI (pc := 36) (ci := 7) (k := 2) (idx := 33) hX mcl_7 (by decide) mq_105 rfl rfl rfl md_Z_putPoint_36 (fun s9 => ?_)
    exact sp_vret (pc := 39) hX hR rfl (Nat.le_of_ble_eq_true rfl) md_Z_putPoint_39
/-! PadeWorkbench$History.giveBack(LPadeWorkbench$State;)V -/
theorem md_H_giveBack_0 : decode prog_6_method_3_code 0 = .ok (.aload_n 0, 1) := by decide +kernel
theorem md_H_giveBack_1 : decode prog_6_method_3_code 1 = .ok (.getfield 26, 3) := by decide +kernel
theorem md_H_giveBack_4 : decode prog_6_method_3_code 4 = .ok (.ifCond .le 38, 3) := by decide +kernel
theorem md_H_giveBack_42 : decode prog_6_method_3_code 42 = .ok (.return_, 1) := by decide +kernel
theorem md_H_giveBack_7 : decode prog_6_method_3_code 7 = .ok (.aload_n 0, 1) := by decide +kernel
theorem md_H_giveBack_8 : decode prog_6_method_3_code 8 = .ok (.aload_n 0, 1) := by decide +kernel
theorem md_H_giveBack_9 : decode prog_6_method_3_code 9 = .ok (.getfield 18, 3) := by decide +kernel
theorem md_H_giveBack_12 : decode prog_6_method_3_code 12 = .ok (.iconst 1, 1) := by decide +kernel
theorem md_H_giveBack_13 : decode prog_6_method_3_code 13 = .ok (.isub, 1) := by decide +kernel
theorem md_H_giveBack_14 : decode prog_6_method_3_code 14 = .ok (.iconst 3, 1) := by decide +kernel
theorem md_H_giveBack_15 : decode prog_6_method_3_code 15 = .ok (.iand, 1) := by decide +kernel
theorem md_H_giveBack_16 : decode prog_6_method_3_code 16 = .ok (.putfield 18, 3) := by decide +kernel
theorem md_H_giveBack_19 : decode prog_6_method_3_code 19 = .ok (.aload_n 1, 1) := by decide +kernel
theorem md_H_giveBack_20 : decode prog_6_method_3_code 20 = .ok (.aload_n 0, 1) := by decide +kernel
theorem md_H_giveBack_21 : decode prog_6_method_3_code 21 = .ok (.getfield 11, 3) := by decide +kernel
theorem md_H_giveBack_24 : decode prog_6_method_3_code 24 = .ok (.aload_n 0, 1) := by decide +kernel
theorem md_H_giveBack_25 : decode prog_6_method_3_code 25 = .ok (.getfield 18, 3) := by decide +kernel
theorem md_H_giveBack_28 : decode prog_6_method_3_code 28 = .ok (.aaload, 1) := by decide +kernel
theorem md_H_giveBack_29 : decode prog_6_method_3_code 29 = .ok (.invokevirtual 22, 3) := by decide +kernel
theorem md_H_giveBack_32 : decode prog_6_method_3_code 32 = .ok (.aload_n 0, 1) := by decide +kernel
theorem md_H_giveBack_33 : decode prog_6_method_3_code 33 = .ok (.dup, 1) := by decide +kernel
theorem md_H_giveBack_34 : decode prog_6_method_3_code 34 = .ok (.getfield 26, 3) := by decide +kernel
theorem md_H_giveBack_37 : decode prog_6_method_3_code 37 = .ok (.iconst 1, 1) := by decide +kernel
theorem md_H_giveBack_38 : decode prog_6_method_3_code 38 = .ok (.isub, 1) := by decide +kernel
theorem md_H_giveBack_39 : decode prog_6_method_3_code 39 = .ok (.putfield 26, 3) := by decide +kernel
def mf_H_giveBack (x0 : Nat) (x1 : Nat) (σ : pw_Sto) : Option (Unit × pw_Sto) := pw_gd 3 x0 σ ((pw_gi 3 x0 2 σ).bind (fun v1 => pw_ck v1 0 (if v1 ≤ 0 then some ((), σ) else (pw_gi 3 x0 1 σ).bind (fun v2 => (pw_pi 3 x0 1 ((v2 - (1 : Int)) % 4) σ).bind (fun s3 => (pw_gr 3 x0 0 s3).bind (fun v4 => (pw_gi 3 x0 1 s3).bind (fun v5 => (pw_ar 12 v4 v5 s3).bind (fun v6 => pw_bd (mf_Z_copyFrom x1 v6 s3) (fun _ s7 => (pw_gi 3 x0 2 s7).bind (fun v8 => (pw_pi 3 x0 2 (v8 - (1 : Int)) s7).bind (fun s9 => some ((), s9))))))))))))
set_option maxHeartbeats 4000000 in
set_option maxRecDepth 20000 in
theorem mc_H_giveBack {l : Launch} {E : pw_E} {σ : pw_Sto} {x0 : Nat} {x1 : Nat} {out : Unit × pw_Sto} (h : mf_H_giveBack x0 x1 σ = some out) : pw_CV l E my_H_giveBack prog_6_method_3_code 2 none mr_H_giveBack [.ref x0, .ref x1] σ out := by
  unfold mf_H_giveBack at h
  refine pw_entryV (by decide) (Nat.le_of_ble_eq_true rfl) (pw_gd_val h) (fun X hX hR hI => ?_)
  change pw_Ok X prog_6_method_3_code "PadeWorkbench$History" mr_H_giveBack 2 at hX
  show pw_Sp X 0 0 0 [(0, Value.ref x0), (1, Value.ref x1)] [] σ _
  refine sp_aload_n (pc := 0) (k := 0) (i := 0) hX rfl 0 rfl md_H_giveBack_0 ?_
  refine sp_getI (pc := 1) (ci := 3) (k := 2) (idx := 26) hX mcl_3 (by decide) mq_137 rfl md_H_giveBack_1 (fun v1 => ?_)
  refine sp_if_le (pc := 4) hX 42 (by decide) md_H_giveBack_4 (fun _ => ?_) (fun _ => ?_)
  · exact sp_vret (pc := 42) hX hR rfl (Nat.le_of_ble_eq_true rfl) md_H_giveBack_42
  · refine sp_aload_n (pc := 7) (k := 0) (i := 0) hX rfl 0 rfl md_H_giveBack_7 ?_
    refine sp_aload_n (pc := 8) (k := 0) (i := 0) hX rfl 0 rfl md_H_giveBack_8 ?_
    refine sp_getI (pc := 9) (ci := 3) (k := 1) (idx := 18) hX mcl_3 (by decide) mq_136 rfl md_H_giveBack_9 (fun v2 => ?_)
    refine sp_iconst (pc := 12) hX md_H_giveBack_12 ?_
    refine sp_isub (pc := 13) hX md_H_giveBack_13 ?_
    refine sp_iconst (pc := 14) hX md_H_giveBack_14 ?_
    refine sp_iand3 (pc := 15) hX md_H_giveBack_15 ?_
    refine sp_putI (pc := 16) (ci := 3) (k := 1) (idx := 18) hX mcl_3 (by decide) mq_136 rfl rfl rfl md_H_giveBack_16 (fun s3 => ?_)
    refine sp_aload_n (pc := 19) (k := 1) (i := 1) hX rfl 1 rfl md_H_giveBack_19 ?_
    refine sp_aload_n (pc := 20) (k := 0) (i := 0) hX rfl 0 rfl md_H_giveBack_20 ?_
    refine sp_getR (pc := 21) (ci := 3) (k := 0) (idx := 11) hX mcl_3 (by decide) mq_135 rfl md_H_giveBack_21 (fun v4 => ?_)
    refine sp_aload_n (pc := 24) (k := 0) (i := 0) hX rfl 0 rfl md_H_giveBack_24 ?_
    refine sp_getI (pc := 25) (ci := 3) (k := 1) (idx := 18) hX mcl_3 (by decide) mq_136 rfl md_H_giveBack_25 (fun v5 => ?_)
    refine sp_aaS (pc := 28) hX md_H_giveBack_28 (fun v6 => ?_)
    refine sp_callVV (pc := 29) (y := my_Z_copyFrom) (ccy := prog_11_method_2_code) (nLy := 3) (ret := none) (rmy := mr_Z_copyFrom) (n := 1) (idx := 22) (As := [.ref v6]) (st := []) (o := x1) (cells' := 0) (slots' := 0) hX (fun _ h => mc_Z_copyFrom h) mk_Z_copyFrom mv_Z_copyFrom mcl_7 (fun _ h => pw_gd_of h) mq_333 ⟨(Nat.le_of_ble_eq_true rfl), (Nat.le_of_ble_eq_true rfl)⟩ rfl rfl (Nat.le_of_ble_eq_true rfl) ⟨(Nat.le_of_ble_eq_true rfl), (Nat.le_of_ble_eq_true rfl)⟩ rfl rfl md_H_giveBack_29 (fun s7 => ?_)
    refine sp_aload_n (pc := 32) (k := 0) (i := 0) hX rfl 0 rfl md_H_giveBack_32 ?_
    refine sp_dup (pc := 33) hX rfl md_H_giveBack_33 ?_
    refine sp_getI (pc := 34) (ci := 3) (k := 2) (idx := 26) hX mcl_3 (by decide) mq_137 rfl md_H_giveBack_34 (fun v8 => ?_)
    refine sp_iconst (pc := 37) hX md_H_giveBack_37 ?_
    refine sp_isub (pc := 38) hX md_H_giveBack_38 ?_
    refine sp_putI (pc := 39) (ci := 3) (k := 2) (idx := 26) hX mcl_3 (by decide) mq_137 rfl rfl rfl md_H_giveBack_39 (fun s9 => ?_)
    exact sp_vret (pc := 42) hX hR rfl (Nat.le_of_ble_eq_true rfl) md_H_giveBack_42
