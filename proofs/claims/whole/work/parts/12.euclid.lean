/-! PadeWorkbench$Euclid.<init>()V -/
theorem md_E_init_0 : decode prog_2_method_1_code 0 = .ok (.aload_n 0, 1) := by decide +kernel
theorem md_E_init_1 : decode prog_2_method_1_code 1 = .ok (.invokespecial 3, 3) := by decide +kernel
theorem md_E_init_4 : decode prog_2_method_1_code 4 = .ok (.aload_n 0, 1) := by decide +kernel
theorem md_E_init_5 : decode prog_2_method_1_code 5 = .ok (.new 9, 3) := by decide +kernel
theorem md_E_init_8 : decode prog_2_method_1_code 8 = .ok (.dup, 1) := by decide +kernel
theorem md_E_init_9 : decode prog_2_method_1_code 9 = .ok (.invokespecial 11, 3) := by decide +kernel
theorem md_E_init_12 : decode prog_2_method_1_code 12 = .ok (.putfield 12, 3) := by decide +kernel
theorem md_E_init_15 : decode prog_2_method_1_code 15 = .ok (.aload_n 0, 1) := by decide +kernel
theorem md_E_init_16 : decode prog_2_method_1_code 16 = .ok (.new 9, 3) := by decide +kernel
theorem md_E_init_19 : decode prog_2_method_1_code 19 = .ok (.dup, 1) := by decide +kernel
theorem md_E_init_20 : decode prog_2_method_1_code 20 = .ok (.invokespecial 11, 3) := by decide +kernel
theorem md_E_init_23 : decode prog_2_method_1_code 23 = .ok (.putfield 18, 3) := by decide +kernel
theorem md_E_init_26 : decode prog_2_method_1_code 26 = .ok (.aload_n 0, 1) := by decide +kernel
theorem md_E_init_27 : decode prog_2_method_1_code 27 = .ok (.new 9, 3) := by decide +kernel
theorem md_E_init_30 : decode prog_2_method_1_code 30 = .ok (.dup, 1) := by decide +kernel
theorem md_E_init_31 : decode prog_2_method_1_code 31 = .ok (.invokespecial 11, 3) := by decide +kernel
theorem md_E_init_34 : decode prog_2_method_1_code 34 = .ok (.putfield 21, 3) := by decide +kernel
theorem md_E_init_37 : decode prog_2_method_1_code 37 = .ok (.aload_n 0, 1) := by decide +kernel
theorem md_E_init_38 : decode prog_2_method_1_code 38 = .ok (.new 9, 3) := by decide +kernel
theorem md_E_init_41 : decode prog_2_method_1_code 41 = .ok (.dup, 1) := by decide +kernel
theorem md_E_init_42 : decode prog_2_method_1_code 42 = .ok (.invokespecial 11, 3) := by decide +kernel
theorem md_E_init_45 : decode prog_2_method_1_code 45 = .ok (.putfield 24, 3) := by decide +kernel
theorem md_E_init_48 : decode prog_2_method_1_code 48 = .ok (.aload_n 0, 1) := by decide +kernel
theorem md_E_init_49 : decode prog_2_method_1_code 49 = .ok (.new 9, 3) := by decide +kernel
theorem md_E_init_52 : decode prog_2_method_1_code 52 = .ok (.dup, 1) := by decide +kernel
theorem md_E_init_53 : decode prog_2_method_1_code 53 = .ok (.invokespecial 11, 3) := by decide +kernel
theorem md_E_init_56 : decode prog_2_method_1_code 56 = .ok (.putfield 27, 3) := by decide +kernel
theorem md_E_init_59 : decode prog_2_method_1_code 59 = .ok (.aload_n 0, 1) := by decide +kernel
theorem md_E_init_60 : decode prog_2_method_1_code 60 = .ok (.bipush 101, 2) := by decide +kernel
theorem md_E_init_62 : decode prog_2_method_1_code 62 = .ok (.putfield 30, 3) := by decide +kernel
theorem md_E_init_65 : decode prog_2_method_1_code 65 = .ok (.return_, 1) := by decide +kernel
def mf_E_init (x0 : Nat) (σ : pw_Sto) : Option (Unit × pw_Sto) := pw_bd (pw_nw 4 σ) (fun v1 s2 => pw_bd (mf_P_init v1 s2) (fun _ s3 => (pw_pr 0 x0 0 v1 s3).bind (fun s4 => pw_bd (pw_nw 4 s4) (fun v5 s6 => pw_bd (mf_P_init v5 s6) (fun _ s7 => (pw_pr 0 x0 1 v5 s7).bind (fun s8 => pw_bd (pw_nw 4 s8) (fun v9 s10 => pw_bd (mf_P_init v9 s10) (fun _ s11 => (pw_pr 0 x0 2 v9 s11).bind (fun s12 => pw_bd (pw_nw 4 s12) (fun v13 s14 => pw_bd (mf_P_init v13 s14) (fun _ s15 => (pw_pr 0 x0 3 v13 s15).bind (fun s16 => pw_bd (pw_nw 4 s16) (fun v17 s18 => pw_bd (mf_P_init v17 s18) (fun _ s19 => (pw_pr 0 x0 4 v17 s19).bind (fun s20 => (pw_pi 0 x0 5 (101 : Int) s20).bind (fun s21 => some ((), s21)))))))))))))))))
set_option maxHeartbeats 4000000 in
set_option maxRecDepth 20000 in
theorem mc_E_init {l : Launch} {E : pw_E} {σ : pw_Sto} {x0 : Nat} {out : Unit × pw_Sto} (h : mf_E_init x0 σ = some out) : pw_CV l E my_E_init prog_2_method_1_code 1 none mr_E_init [.ref x0] σ out := by
  unfold mf_E_init at h
  refine pw_entryV (by decide) (Nat.le_of_ble_eq_true rfl) h (fun X hX hR hI => ?_)
  change pw_Ok X prog_2_method_1_code "PadeWorkbench$Euclid" mr_E_init 1 at hX
  show pw_Sp X 0 0 0 [(0, Value.ref x0)] [] σ _
  refine sp_aload_n (pc := 0) (k := 0) (i := 0) hX rfl 0 rfl md_E_init_0 ?_
  refine sp_objInit (pc := 1) (idx := 3) hX mq_180 mq_90 mq_91 (Nat.le_of_ble_eq_true rfl) (Nat.le_of_ble_eq_true rfl) md_E_init_1 ?_
  refine sp_aload_n (pc := 4) (k := 0) (i := 0) hX rfl 0 rfl md_E_init_4 ?_
  refine sp_new (pc := 5) (ci := 4) (idx := 9) (slots' := 2) hX mcl_4 mdf_4 mq_181 mq_182 mq_74 (Nat.le_of_ble_eq_true rfl) (Nat.le_of_ble_eq_true rfl) rfl md_E_init_5 (fun v1 s2 => ?_)
  refine sp_dup (pc := 8) hX rfl md_E_init_8 ?_
  refine sp_callIVN (pc := 9) (y := my_P_init) (ccy := prog_7_method_1_code) (nLy := 1) (rmy := mr_P_init) (n := 0) (idx := 11) (As := []) (st := [.ref v1, .ref x0]) (o := v1) (cells' := 2) (slots' := 19) hX (fun _ h => mc_P_init h) mk_P_init mq_184 rfl mn_183 ⟨(Nat.le_of_ble_eq_true rfl), (Nat.le_of_ble_eq_true rfl)⟩ rfl rfl (Nat.le_of_ble_eq_true rfl) ⟨(Nat.le_of_ble_eq_true rfl), (Nat.le_of_ble_eq_true rfl)⟩ rfl rfl md_E_init_9 (fun s3 => ?_)
  refine sp_putR (pc := 12) (ci := 0) (k := 0) (idx := 12) hX mcl_0 (by decide) mq_200 rfl rfl mty_0_0 md_E_init_12 (fun s4 => ?_)
  refine sp_aload_n (pc := 15) (k := 0) (i := 0) hX rfl 0 rfl md_E_init_15 ?_
  refine sp_new (pc := 16) (ci := 4) (idx := 9) (slots' := 21) hX mcl_4 mdf_4 mq_181 mq_182 mq_74 (Nat.le_of_ble_eq_true rfl) (Nat.le_of_ble_eq_true rfl) rfl md_E_init_16 (fun v5 s6 => ?_)
  refine sp_dup (pc := 19) hX rfl md_E_init_19 ?_
  refine sp_callIVN (pc := 20) (y := my_P_init) (ccy := prog_7_method_1_code) (nLy := 1) (rmy := mr_P_init) (n := 0) (idx := 11) (As := []) (st := [.ref v5, .ref x0]) (o := v5) (cells' := 4) (slots' := 38) hX (fun _ h => mc_P_init h) mk_P_init mq_184 rfl mn_183 ⟨(Nat.le_of_ble_eq_true rfl), (Nat.le_of_ble_eq_true rfl)⟩ rfl rfl (Nat.le_of_ble_eq_true rfl) ⟨(Nat.le_of_ble_eq_true rfl), (Nat.le_of_ble_eq_true rfl)⟩ rfl rfl md_E_init_20 (fun s7 => ?_)
  refine sp_putR (pc := 23) (ci := 0) (k := 1) (idx := 18) hX mcl_0 (by decide) mq_201 rfl rfl mty_0_1 md_E_init_23 (fun s8 => ?_)
  refine sp_aload_n (pc := 26) (k := 0) (i := 0) hX rfl 0 rfl md_E_init_26 ?_
  refine sp_new (pc := 27) (ci := 4) (idx := 9) (slots' := 40) hX mcl_4 mdf_4 mq_181 mq_182 mq_74 (Nat.le_of_ble_eq_true rfl) (Nat.le_of_ble_eq_true rfl) rfl md_E_init_27 (fun v9 s10 => ?_)
  refine sp_dup (pc := 30) hX rfl md_E_init_30 ?_
  refine sp_callIVN (pc := 31) (y := my_P_init) (ccy := prog_7_method_1_code) (nLy := 1) (rmy := mr_P_init) (n := 0) (idx := 11) (As := []) (st := [.ref v9, .ref x0]) (o := v9) (cells' := 6) (slots' := 57) hX (fun _ h => mc_P_init h) mk_P_init mq_184 rfl mn_183 ⟨(Nat.le_of_ble_eq_true rfl), (Nat.le_of_ble_eq_true rfl)⟩ rfl rfl (Nat.le_of_ble_eq_true rfl) ⟨(Nat.le_of_ble_eq_true rfl), (Nat.le_of_ble_eq_true rfl)⟩ rfl rfl md_E_init_31 (fun s11 => ?_)
  refine sp_putR (pc := 34) (ci := 0) (k := 2) (idx := 21) hX mcl_0 (by decide) mq_203 rfl rfl mty_0_2 md_E_init_34 (fun s12 => ?_)
  refine sp_aload_n (pc := 37) (k := 0) (i := 0) hX rfl 0 rfl md_E_init_37 ?_
  refine sp_new (pc := 38) (ci := 4) (idx := 9) (slots' := 59) hX mcl_4 mdf_4 mq_181 mq_182 mq_74 (Nat.le_of_ble_eq_true rfl) (Nat.le_of_ble_eq_true rfl) rfl md_E_init_38 (fun v13 s14 => ?_)
  refine sp_dup (pc := 41) hX rfl md_E_init_41 ?_
  refine sp_callIVN (pc := 42) (y := my_P_init) (ccy := prog_7_method_1_code) (nLy := 1) (rmy := mr_P_init) (n := 0) (idx := 11) (As := []) (st := [.ref v13, .ref x0]) (o := v13) (cells' := 8) (slots' := 76) hX (fun _ h => mc_P_init h) mk_P_init mq_184 rfl mn_183 ⟨(Nat.le_of_ble_eq_true rfl), (Nat.le_of_ble_eq_true rfl)⟩ rfl rfl (Nat.le_of_ble_eq_true rfl) ⟨(Nat.le_of_ble_eq_true rfl), (Nat.le_of_ble_eq_true rfl)⟩ rfl rfl md_E_init_42 (fun s15 => ?_)
  refine sp_putR (pc := 45) (ci := 0) (k := 3) (idx := 24) hX mcl_0 (by decide) mq_204 rfl rfl mty_0_3 md_E_init_45 (fun s16 => ?_)
  refine sp_aload_n (pc := 48) (k := 0) (i := 0) hX rfl 0 rfl md_E_init_48 ?_
  refine sp_new (pc := 49) (ci := 4) (idx := 9) (slots' := 78) hX mcl_4 mdf_4 mq_181 mq_182 mq_74 (Nat.le_of_ble_eq_true rfl) (Nat.le_of_ble_eq_true rfl) rfl md_E_init_49 (fun v17 s18 => ?_)
  refine sp_dup (pc := 52) hX rfl md_E_init_52 ?_
  refine sp_callIVN (pc := 53) (y := my_P_init) (ccy := prog_7_method_1_code) (nLy := 1) (rmy := mr_P_init) (n := 0) (idx := 11) (As := []) (st := [.ref v17, .ref x0]) (o := v17) (cells' := 10) (slots' := 95) hX (fun _ h => mc_P_init h) mk_P_init mq_184 rfl mn_183 ⟨(Nat.le_of_ble_eq_true rfl), (Nat.le_of_ble_eq_true rfl)⟩ rfl rfl (Nat.le_of_ble_eq_true rfl) ⟨(Nat.le_of_ble_eq_true rfl), (Nat.le_of_ble_eq_true rfl)⟩ rfl rfl md_E_init_53 (fun s19 => ?_)
  refine sp_putRF (pc := 56) (ci := 0) (k := 4) (idx := 27) hX mcl_0 (by decide) mq_206 rfl rfl hI rfl mty_0_4 md_E_init_56 (fun s20 => ?_)
  refine sp_aload_n (pc := 59) (k := 0) (i := 0) hX rfl 0 rfl md_E_init_59 ?_
  refine sp_bipush (pc := 60) hX (by decide) md_E_init_60 ?_
  refine sp_putI (pc := 62) (ci := 0) (k := 5) (idx := 30) hX mcl_0 (by decide) mq_208 rfl rfl rfl md_E_init_62 (fun s21 => ?_)
  exact sp_vret (pc := 65) hX hR rfl (Nat.le_of_ble_eq_true rfl) md_E_init_65
/-! PadeWorkbench$Fraction.<init>()V -/
theorem md_R_init_0 : decode prog_4_method_1_code 0 = .ok (.aload_n 0, 1) := by decide +kernel
theorem md_R_init_1 : decode prog_4_method_1_code 1 = .ok (.invokespecial 3, 3) := by decide +kernel
theorem md_R_init_4 : decode prog_4_method_1_code 4 = .ok (.aload_n 0, 1) := by decide +kernel
theorem md_R_init_5 : decode prog_4_method_1_code 5 = .ok (.new 9, 3) := by decide +kernel
theorem md_R_init_8 : decode prog_4_method_1_code 8 = .ok (.dup, 1) := by decide +kernel
theorem md_R_init_9 : decode prog_4_method_1_code 9 = .ok (.invokespecial 11, 3) := by decide +kernel
theorem md_R_init_12 : decode prog_4_method_1_code 12 = .ok (.putfield 12, 3) := by decide +kernel
theorem md_R_init_15 : decode prog_4_method_1_code 15 = .ok (.aload_n 0, 1) := by decide +kernel
theorem md_R_init_16 : decode prog_4_method_1_code 16 = .ok (.new 9, 3) := by decide +kernel
theorem md_R_init_19 : decode prog_4_method_1_code 19 = .ok (.dup, 1) := by decide +kernel
theorem md_R_init_20 : decode prog_4_method_1_code 20 = .ok (.invokespecial 11, 3) := by decide +kernel
theorem md_R_init_23 : decode prog_4_method_1_code 23 = .ok (.putfield 18, 3) := by decide +kernel
theorem md_R_init_26 : decode prog_4_method_1_code 26 = .ok (.return_, 1) := by decide +kernel
def mf_R_init (x0 : Nat) (σ : pw_Sto) : Option (Unit × pw_Sto) := pw_bd (pw_nw 4 σ) (fun v1 s2 => pw_bd (mf_P_init v1 s2) (fun _ s3 => (pw_pr 1 x0 0 v1 s3).bind (fun s4 => pw_bd (pw_nw 4 s4) (fun v5 s6 => pw_bd (mf_P_init v5 s6) (fun _ s7 => (pw_pr 1 x0 1 v5 s7).bind (fun s8 => some ((), s8)))))))
set_option maxHeartbeats 4000000 in
set_option maxRecDepth 20000 in
theorem mc_R_init {l : Launch} {E : pw_E} {σ : pw_Sto} {x0 : Nat} {out : Unit × pw_Sto} (h : mf_R_init x0 σ = some out) : pw_CV l E my_R_init prog_4_method_1_code 1 none mr_R_init [.ref x0] σ out := by
  unfold mf_R_init at h
  refine pw_entryV (by decide) (Nat.le_of_ble_eq_true rfl) h (fun X hX hR hI => ?_)
  change pw_Ok X prog_4_method_1_code "PadeWorkbench$Fraction" mr_R_init 1 at hX
  show pw_Sp X 0 0 0 [(0, Value.ref x0)] [] σ _
  refine sp_aload_n (pc := 0) (k := 0) (i := 0) hX rfl 0 rfl md_R_init_0 ?_
  refine sp_objInit (pc := 1) (idx := 3) hX mq_227 mq_90 mq_91 (Nat.le_of_ble_eq_true rfl) (Nat.le_of_ble_eq_true rfl) md_R_init_1 ?_
  refine sp_aload_n (pc := 4) (k := 0) (i := 0) hX rfl 0 rfl md_R_init_4 ?_
  refine sp_new (pc := 5) (ci := 4) (idx := 9) (slots' := 2) hX mcl_4 mdf_4 mq_228 mq_182 mq_74 (Nat.le_of_ble_eq_true rfl) (Nat.le_of_ble_eq_true rfl) rfl md_R_init_5 (fun v1 s2 => ?_)
  refine sp_dup (pc := 8) hX rfl md_R_init_8 ?_
  refine sp_callIVN (pc := 9) (y := my_P_init) (ccy := prog_7_method_1_code) (nLy := 1) (rmy := mr_P_init) (n := 0) (idx := 11) (As := []) (st := [.ref v1, .ref x0]) (o := v1) (cells' := 2) (slots' := 19) hX (fun _ h => mc_P_init h) mk_P_init mq_184 rfl mn_229 ⟨(Nat.le_of_ble_eq_true rfl), (Nat.le_of_ble_eq_true rfl)⟩ rfl rfl (Nat.le_of_ble_eq_true rfl) ⟨(Nat.le_of_ble_eq_true rfl), (Nat.le_of_ble_eq_true rfl)⟩ rfl rfl md_R_init_9 (fun s3 => ?_)
  refine sp_putRF (pc := 12) (ci := 1) (k := 0) (idx := 12) hX mcl_1 (by decide) mq_230 rfl rfl hI rfl mty_1_0 md_R_init_12 (fun s4 => ?_)
  refine sp_aload_n (pc := 15) (k := 0) (i := 0) hX rfl 0 rfl md_R_init_15 ?_
  refine sp_new (pc := 16) (ci := 4) (idx := 9) (slots' := 21) hX mcl_4 mdf_4 mq_228 mq_182 mq_74 (Nat.le_of_ble_eq_true rfl) (Nat.le_of_ble_eq_true rfl) rfl md_R_init_16 (fun v5 s6 => ?_)
  refine sp_dup (pc := 19) hX rfl md_R_init_19 ?_
  refine sp_callIVN (pc := 20) (y := my_P_init) (ccy := prog_7_method_1_code) (nLy := 1) (rmy := mr_P_init) (n := 0) (idx := 11) (As := []) (st := [.ref v5, .ref x0]) (o := v5) (cells' := 4) (slots' := 38) hX (fun _ h => mc_P_init h) mk_P_init mq_184 rfl mn_229 ⟨(Nat.le_of_ble_eq_true rfl), (Nat.le_of_ble_eq_true rfl)⟩ rfl rfl (Nat.le_of_ble_eq_true rfl) ⟨(Nat.le_of_ble_eq_true rfl), (Nat.le_of_ble_eq_true rfl)⟩ rfl rfl md_R_init_20 (fun s7 => ?_)
  refine sp_putRF (pc := 23) (ci := 1) (k := 1) (idx := 18) hX mcl_1 (by decide) mq_232 rfl rfl hI rfl mty_1_1 md_R_init_23 (fun s8 => ?_)
  exact sp_vret (pc := 26) hX hR rfl (Nat.le_of_ble_eq_true rfl) md_R_init_26
/-! PadeWorkbench$Euclid.startCofactors()V -/
theorem md_E_startCofactors_0 : decode prog_2_method_4_code 0 = .ok (.aload_n 0, 1) := by decide +kernel
theorem md_E_startCofactors_1 : decode prog_2_method_4_code 1 = .ok (.getfield 21, 3) := by decide +kernel
theorem md_E_startCofactors_4 : decode prog_2_method_4_code 4 = .ok (.invokevirtual 50, 3) := by decide +kernel
theorem md_E_startCofactors_7 : decode prog_2_method_4_code 7 = .ok (.aload_n 0, 1) := by decide +kernel
theorem md_E_startCofactors_8 : decode prog_2_method_4_code 8 = .ok (.getfield 24, 3) := by decide +kernel
theorem md_E_startCofactors_11 : decode prog_2_method_4_code 11 = .ok (.iconst 0, 1) := by decide +kernel
theorem md_E_startCofactors_12 : decode prog_2_method_4_code 12 = .ok (.invokevirtual 34, 3) := by decide +kernel
theorem md_E_startCofactors_15 : decode prog_2_method_4_code 15 = .ok (.aload_n 0, 1) := by decide +kernel
theorem md_E_startCofactors_16 : decode prog_2_method_4_code 16 = .ok (.getfield 27, 3) := by decide +kernel
theorem md_E_startCofactors_19 : decode prog_2_method_4_code 19 = .ok (.invokevirtual 50, 3) := by decide +kernel
theorem md_E_startCofactors_22 : decode prog_2_method_4_code 22 = .ok (.return_, 1) := by decide +kernel
def mf_E_startCofactors (x0 : Nat) (σ : pw_Sto) : Option (Unit × pw_Sto) := pw_gd 0 x0 σ ((pw_gr 0 x0 2 σ).bind (fun v1 => pw_bd (mf_P_becomeZero v1 σ) (fun _ s2 => (pw_gr 0 x0 3 s2).bind (fun v3 => pw_bd (mf_P_becomePower v3 (0 : Int) s2) (fun _ s4 => (pw_gr 0 x0 4 s4).bind (fun v5 => pw_bd (mf_P_becomeZero v5 s4) (fun _ s6 => some ((), s6))))))))
set_option maxHeartbeats 4000000 in
set_option maxRecDepth 20000 in
theorem mc_E_startCofactors {l : Launch} {E : pw_E} {σ : pw_Sto} {x0 : Nat} {out : Unit × pw_Sto} (h : mf_E_startCofactors x0 σ = some out) : pw_CV l E my_E_startCofactors prog_2_method_4_code 1 none mr_E_startCofactors [.ref x0] σ out := by
  unfold mf_E_startCofactors at h
  refine pw_entryV (by decide) (Nat.le_of_ble_eq_true rfl) (pw_gd_val h) (fun X hX hR hI => ?_)
  change pw_Ok X prog_2_method_4_code "PadeWorkbench$Euclid" mr_E_startCofactors 1 at hX
  show pw_Sp X 0 0 0 [(0, Value.ref x0)] [] σ _
  refine sp_aload_n (pc := 0) (k := 0) (i := 0) hX rfl 0 rfl md_E_startCofactors_0 ?_
  refine sp_getR (pc := 1) (ci := 0) (k := 2) (idx := 21) hX mcl_0 (by decide) mq_203 rfl md_E_startCofactors_1 (fun v1 => ?_)
  refine sp_callVV (pc := 4) (y := my_P_becomeZero) (ccy := prog_7_method_2_code) (nLy := 1) (ret := none) (rmy := mr_P_becomeZero) (n := 0) (idx := 50) (As := []) (st := []) (o := v1) (cells' := 0) (slots' := 0) hX (fun _ h => mc_P_becomeZero h) mk_P_becomeZero mv_P_becomeZero mcl_4 (fun _ h => pw_gd_of h) mq_513 ⟨(Nat.le_of_ble_eq_true rfl), (Nat.le_of_ble_eq_true rfl)⟩ rfl rfl (Nat.le_of_ble_eq_true rfl) ⟨(Nat.le_of_ble_eq_true rfl), (Nat.le_of_ble_eq_true rfl)⟩ rfl rfl md_E_startCofactors_4 (fun s2 => ?_)
  refine sp_aload_n (pc := 7) (k := 0) (i := 0) hX rfl 0 rfl md_E_startCofactors_7 ?_
  refine sp_getR (pc := 8) (ci := 0) (k := 3) (idx := 24) hX mcl_0 (by decide) mq_204 rfl md_E_startCofactors_8 (fun v3 => ?_)
  refine sp_iconst (pc := 11) hX md_E_startCofactors_11 ?_
  refine sp_callVV (pc := 12) (y := my_P_becomePower) (ccy := prog_7_method_3_code) (nLy := 2) (ret := none) (rmy := mr_P_becomePower) (n := 1) (idx := 34) (As := [.int (iI (0 : Int))]) (st := []) (o := v3) (cells' := 0) (slots' := 0) hX (fun _ h => mc_P_becomePower h) mk_P_becomePower mv_P_becomePower mcl_4 (fun _ h => pw_gd_of h) mq_492 ⟨(Nat.le_of_ble_eq_true rfl), (Nat.le_of_ble_eq_true rfl)⟩ rfl rfl (Nat.le_of_ble_eq_true rfl) ⟨(Nat.le_of_ble_eq_true rfl), (Nat.le_of_ble_eq_true rfl)⟩ rfl rfl md_E_startCofactors_12 (fun s4 => ?_)
  refine sp_aload_n (pc := 15) (k := 0) (i := 0) hX rfl 0 rfl md_E_startCofactors_15 ?_
  refine sp_getR (pc := 16) (ci := 0) (k := 4) (idx := 27) hX mcl_0 (by decide) mq_206 rfl md_E_startCofactors_16 (fun v5 => ?_)
  refine sp_callVV (pc := 19) (y := my_P_becomeZero) (ccy := prog_7_method_2_code) (nLy := 1) (ret := none) (rmy := mr_P_becomeZero) (n := 0) (idx := 50) (As := []) (st := []) (o := v5) (cells' := 0) (slots' := 0) hX (fun _ h => mc_P_becomeZero h) mk_P_becomeZero mv_P_becomeZero mcl_4 (fun _ h => pw_gd_of h) mq_513 ⟨(Nat.le_of_ble_eq_true rfl), (Nat.le_of_ble_eq_true rfl)⟩ rfl rfl (Nat.le_of_ble_eq_true rfl) ⟨(Nat.le_of_ble_eq_true rfl), (Nat.le_of_ble_eq_true rfl)⟩ rfl rfl md_E_startCofactors_19 (fun s6 => ?_)
  exact sp_vret (pc := 22) hX hR rfl (Nat.le_of_ble_eq_true rfl) md_E_startCofactors_22
/-! PadeWorkbench$Euclid.startWithSeries([III)V -/
theorem md_E_startWithSeries_0 : decode prog_2_method_2_code 0 = .ok (.aload_n 0, 1) := by decide +kernel
theorem md_E_startWithSeries_1 : decode prog_2_method_2_code 1 = .ok (.iload_n 3, 1) := by decide +kernel
theorem md_E_startWithSeries_2 : decode prog_2_method_2_code 2 = .ok (.putfield 30, 3) := by decide +kernel
theorem md_E_startWithSeries_5 : decode prog_2_method_2_code 5 = .ok (.aload_n 0, 1) := by decide +kernel
theorem md_E_startWithSeries_6 : decode prog_2_method_2_code 6 = .ok (.getfield 12, 3) := by decide +kernel
theorem md_E_startWithSeries_9 : decode prog_2_method_2_code 9 = .ok (.iload_n 2, 1) := by decide +kernel
theorem md_E_startWithSeries_10 : decode prog_2_method_2_code 10 = .ok (.iconst 1, 1) := by decide +kernel
theorem md_E_startWithSeries_11 : decode prog_2_method_2_code 11 = .ok (.iadd, 1) := by decide +kernel
theorem md_E_startWithSeries_12 : decode prog_2_method_2_code 12 = .ok (.invokevirtual 34, 3) := by decide +kernel
theorem md_E_startWithSeries_15 : decode prog_2_method_2_code 15 = .ok (.aload_n 0, 1) := by decide +kernel
theorem md_E_startWithSeries_16 : decode prog_2_method_2_code 16 = .ok (.getfield 18, 3) := by decide +kernel
theorem md_E_startWithSeries_19 : decode prog_2_method_2_code 19 = .ok (.aload_n 1, 1) := by decide +kernel
theorem md_E_startWithSeries_20 : decode prog_2_method_2_code 20 = .ok (.iload_n 2, 1) := by decide +kernel
theorem md_E_startWithSeries_21 : decode prog_2_method_2_code 21 = .ok (.invokevirtual 38, 3) := by decide +kernel
theorem md_E_startWithSeries_24 : decode prog_2_method_2_code 24 = .ok (.aload_n 0, 1) := by decide +kernel
theorem md_E_startWithSeries_25 : decode prog_2_method_2_code 25 = .ok (.invokevirtual 42, 3) := by decide +kernel
theorem md_E_startWithSeries_28 : decode prog_2_method_2_code 28 = .ok (.return_, 1) := by decide +kernel
def mf_E_startWithSeries (x0 : Nat) (x1 : Nat) (x2 : Int) (x3 : Int) (σ : pw_Sto) : Option (Unit × pw_Sto) := pw_gd 0 x0 σ ((pw_pi 0 x0 5 x3 σ).bind (fun s1 => (pw_gr 0 x0 0 s1).bind (fun v2 => pw_bd (mf_P_becomePower v2 (x2 + (1 : Int)) s1) (fun _ s3 => (pw_gr 0 x0 1 s3).bind (fun v4 => pw_bd (mf_P_becomeStart v4 x1 x2 s3) (fun _ s5 => pw_bd (mf_E_startCofactors x0 s5) (fun _ s6 => some ((), s6))))))))
set_option maxHeartbeats 4000000 in
set_option maxRecDepth 20000 in
theorem mc_E_startWithSeries {l : Launch} {E : pw_E} {σ : pw_Sto} {x0 : Nat} {x1 : Nat} {x2 : Int} {x3 : Int} {out : Unit × pw_Sto} (h : mf_E_startWithSeries x0 x1 x2 x3 σ = some out) : pw_CV l E my_E_startWithSeries prog_2_method_2_code 4 none mr_E_startWithSeries [.ref x0, .ref x1, .int (iI x2), .int (iI x3)] σ out := by
  unfold mf_E_startWithSeries at h
  refine pw_entryV (by decide) (Nat.le_of_ble_eq_true rfl) (pw_gd_val h) (fun X hX hR hI => ?_)
  change pw_Ok X prog_2_method_2_code "PadeWorkbench$Euclid" mr_E_startWithSeries 4 at hX
  show pw_Sp X 0 0 0 [(0, Value.ref x0), (1, Value.ref x1), (2, Value.int (iI x2)), (3, Value.int (iI x3))] [] σ _
  refine sp_aload_n (pc := 0) (k := 0) (i := 0) hX rfl 0 rfl md_E_startWithSeries_0 ?_
  refine sp_iload_n (pc := 1) (k := 3) (i := 3) hX rfl 3 rfl md_E_startWithSeries_1 ?_
  refine sp_putI (pc := 2) (ci := 0) (k := 5) (idx := 30) hX mcl_0 (by decide) mq_208 rfl rfl rfl md_E_startWithSeries_2 (fun s1 => ?_)
  refine sp_aload_n (pc := 5) (k := 0) (i := 0) hX rfl 0 rfl md_E_startWithSeries_5 ?_
  refine sp_getR (pc := 6) (ci := 0) (k := 0) (idx := 12) hX mcl_0 (by decide) mq_200 rfl md_E_startWithSeries_6 (fun v2 => ?_)
  refine sp_iload_n (pc := 9) (k := 2) (i := 2) hX rfl 2 rfl md_E_startWithSeries_9 ?_
  refine sp_iconst (pc := 10) hX md_E_startWithSeries_10 ?_
  refine sp_iadd (pc := 11) hX md_E_startWithSeries_11 ?_
  refine sp_callVV (pc := 12) (y := my_P_becomePower) (ccy := prog_7_method_3_code) (nLy := 2) (ret := none) (rmy := mr_P_becomePower) (n := 1) (idx := 34) (As := [.int (iI (x2 + (1 : Int)))]) (st := []) (o := v2) (cells' := 0) (slots' := 0) hX (fun _ h => mc_P_becomePower h) mk_P_becomePower mv_P_becomePower mcl_4 (fun _ h => pw_gd_of h) mq_492 ⟨(Nat.le_of_ble_eq_true rfl), (Nat.le_of_ble_eq_true rfl)⟩ rfl rfl (Nat.le_of_ble_eq_true rfl) ⟨(Nat.le_of_ble_eq_true rfl), (Nat.le_of_ble_eq_true rfl)⟩ rfl rfl md_E_startWithSeries_12 (fun s3 => ?_)
  refine sp_aload_n (pc := 15) (k := 0) (i := 0) hX rfl 0 rfl md_E_startWithSeries_15 ?_
  refine sp_getR (pc := 16) (ci := 0) (k := 1) (idx := 18) hX mcl_0 (by decide) mq_201 rfl md_E_startWithSeries_16 (fun v4 => ?_)
  refine sp_aload_n (pc := 19) (k := 1) (i := 1) hX rfl 1 rfl md_E_startWithSeries_19 ?_
  refine sp_iload_n (pc := 20) (k := 2) (i := 2) hX rfl 2 rfl md_E_startWithSeries_20 ?_
  refine sp_callVV (pc := 21) (y := my_P_becomeStart) (ccy := prog_7_method_4_code) (nLy := 4) (ret := none) (rmy := mr_P_becomeStart) (n := 2) (idx := 38) (As := [.ref x1, .int (iI x2)]) (st := []) (o := v4) (cells' := 0) (slots' := 0) hX (fun _ h => mc_P_becomeStart h) mk_P_becomeStart mv_P_becomeStart mcl_4 (fun _ h => pw_gd_of h) mq_501 ⟨(Nat.le_of_ble_eq_true rfl), (Nat.le_of_ble_eq_true rfl)⟩ rfl rfl (Nat.le_of_ble_eq_true rfl) ⟨(Nat.le_of_ble_eq_true rfl), (Nat.le_of_ble_eq_true rfl)⟩ rfl rfl md_E_startWithSeries_21 (fun s5 => ?_)
  refine sp_aload_n (pc := 24) (k := 0) (i := 0) hX rfl 0 rfl md_E_startWithSeries_24 ?_
  refine sp_callVV (pc := 25) (y := my_E_startCofactors) (ccy := prog_2_method_4_code) (nLy := 1) (ret := none) (rmy := mr_E_startCofactors) (n := 0) (idx := 42) (As := []) (st := []) (o := x0) (cells' := 0) (slots' := 0) hX (fun _ h => mc_E_startCofactors h) mk_E_startCofactors mv_E_startCofactors mcl_0 (fun _ h => pw_gd_of h) mq_509 ⟨(Nat.le_of_ble_eq_true rfl), (Nat.le_of_ble_eq_true rfl)⟩ rfl rfl (Nat.le_of_ble_eq_true rfl) ⟨(Nat.le_of_ble_eq_true rfl), (Nat.le_of_ble_eq_true rfl)⟩ rfl rfl md_E_startWithSeries_25 (fun s6 => ?_)
  exact sp_vret (pc := 28) hX hR rfl (Nat.le_of_ble_eq_true rfl) md_E_startWithSeries_28
/-! PadeWorkbench$Euclid.divide()V -/
theorem md_E_divide_0 : decode prog_2_method_6_code 0 = .ok (.aload_n 0, 1) := by decide +kernel
theorem md_E_divide_1 : decode prog_2_method_6_code 1 = .ok (.getfield 18, 3) := by decide +kernel
theorem md_E_divide_4 : decode prog_2_method_6_code 4 = .ok (.getfield 87, 3) := by decide +kernel
theorem md_E_divide_7 : decode prog_2_method_6_code 7 = .ok (.ifCond .ge 4, 3) := by decide +kernel
theorem md_E_divide_11 : decode prog_2_method_6_code 11 = .ok (.aload_n 0, 1) := by decide +kernel
theorem md_E_divide_12 : decode prog_2_method_6_code 12 = .ok (.getfield 27, 3) := by decide +kernel
theorem md_E_divide_15 : decode prog_2_method_6_code 15 = .ok (.invokevirtual 50, 3) := by decide +kernel
theorem md_E_divide_18 : decode prog_2_method_6_code 18 = .ok (.aload_n 0, 1) := by decide +kernel
theorem md_E_divide_19 : decode prog_2_method_6_code 19 = .ok (.getfield 18, 3) := by decide +kernel
theorem md_E_divide_22 : decode prog_2_method_6_code 22 = .ok (.getfield 96, 3) := by decide +kernel
theorem md_E_divide_25 : decode prog_2_method_6_code 25 = .ok (.aload_n 0, 1) := by decide +kernel
theorem md_E_divide_26 : decode prog_2_method_6_code 26 = .ok (.getfield 18, 3) := by decide +kernel
theorem md_E_divide_29 : decode prog_2_method_6_code 29 = .ok (.getfield 87, 3) := by decide +kernel
theorem md_E_divide_32 : decode prog_2_method_6_code 32 = .ok (.iaload, 1) := by decide +kernel
theorem md_E_divide_33 : decode prog_2_method_6_code 33 = .ok (.aload_n 0, 1) := by decide +kernel
theorem md_E_divide_34 : decode prog_2_method_6_code 34 = .ok (.getfield 30, 3) := by decide +kernel
theorem md_E_divide_37 : decode prog_2_method_6_code 37 = .ok (.invokestatic 99, 3) := by decide +kernel
theorem md_E_divide_40 : decode prog_2_method_6_code 40 = .ok (.istore_n 1, 1) := by decide +kernel
theorem md_E_divide_41 : decode prog_2_method_6_code 41 = .ok (.aload_n 0, 1) := by decide +kernel
theorem md_E_divide_42 : decode prog_2_method_6_code 42 = .ok (.getfield 12, 3) := by decide +kernel
theorem md_E_divide_45 : decode prog_2_method_6_code 45 = .ok (.getfield 87, 3) := by decide +kernel
theorem md_E_divide_48 : decode prog_2_method_6_code 48 = .ok (.aload_n 0, 1) := by decide +kernel
theorem md_E_divide_49 : decode prog_2_method_6_code 49 = .ok (.getfield 18, 3) := by decide +kernel
theorem md_E_divide_52 : decode prog_2_method_6_code 52 = .ok (.getfield 87, 3) := by decide +kernel
theorem md_E_divide_55 : decode prog_2_method_6_code 55 = .ok (.isub, 1) := by decide +kernel
theorem md_E_divide_56 : decode prog_2_method_6_code 56 = .ok (.istore_n 2, 1) := by decide +kernel
theorem md_E_divide_57 : decode prog_2_method_6_code 57 = .ok (.iload_n 2, 1) := by decide +kernel
theorem md_E_divide_58 : decode prog_2_method_6_code 58 = .ok (.ifCond .lt 69, 3) := by decide +kernel
theorem md_E_divide_127 : decode prog_2_method_6_code 127 = .ok (.aload_n 0, 1) := by decide +kernel
theorem md_E_divide_128 : decode prog_2_method_6_code 128 = .ok (.getfield 27, 3) := by decide +kernel
theorem md_E_divide_131 : decode prog_2_method_6_code 131 = .ok (.invokevirtual 80, 3) := by decide +kernel
theorem md_E_divide_134 : decode prog_2_method_6_code 134 = .ok (.aload_n 0, 1) := by decide +kernel
theorem md_E_divide_135 : decode prog_2_method_6_code 135 = .ok (.getfield 12, 3) := by decide +kernel
theorem md_E_divide_138 : decode prog_2_method_6_code 138 = .ok (.invokevirtual 80, 3) := by decide +kernel
theorem md_E_divide_141 : decode prog_2_method_6_code 141 = .ok (.aload_n 0, 1) := by decide +kernel
theorem md_E_divide_142 : decode prog_2_method_6_code 142 = .ok (.getfield 12, 3) := by decide +kernel
theorem md_E_divide_145 : decode prog_2_method_6_code 145 = .ok (.astore_n 2, 1) := by decide +kernel
theorem md_E_divide_146 : decode prog_2_method_6_code 146 = .ok (.aload_n 0, 1) := by decide +kernel
theorem md_E_divide_147 : decode prog_2_method_6_code 147 = .ok (.aload_n 0, 1) := by decide +kernel
theorem md_E_divide_148 : decode prog_2_method_6_code 148 = .ok (.getfield 18, 3) := by decide +kernel
theorem md_E_divide_151 : decode prog_2_method_6_code 151 = .ok (.putfield 12, 3) := by decide +kernel
theorem md_E_divide_154 : decode prog_2_method_6_code 154 = .ok (.aload_n 0, 1) := by decide +kernel
theorem md_E_divide_155 : decode prog_2_method_6_code 155 = .ok (.aload_n 2, 1) := by decide +kernel
theorem md_E_divide_156 : decode prog_2_method_6_code 156 = .ok (.putfield 18, 3) := by decide +kernel
theorem md_E_divide_159 : decode prog_2_method_6_code 159 = .ok (.return_, 1) := by decide +kernel
theorem md_E_divide_61 : decode prog_2_method_6_code 61 = .ok (.aload_n 0, 1) := by decide +kernel
theorem md_E_divide_62 : decode prog_2_method_6_code 62 = .ok (.getfield 12, 3) := by decide +kernel
theorem md_E_divide_65 : decode prog_2_method_6_code 65 = .ok (.getfield 96, 3) := by decide +kernel
theorem md_E_divide_68 : decode prog_2_method_6_code 68 = .ok (.iload_n 2, 1) := by decide +kernel
theorem md_E_divide_69 : decode prog_2_method_6_code 69 = .ok (.aload_n 0, 1) := by decide +kernel
theorem md_E_divide_70 : decode prog_2_method_6_code 70 = .ok (.getfield 18, 3) := by decide +kernel
theorem md_E_divide_73 : decode prog_2_method_6_code 73 = .ok (.getfield 87, 3) := by decide +kernel
theorem md_E_divide_76 : decode prog_2_method_6_code 76 = .ok (.iadd, 1) := by decide +kernel
theorem md_E_divide_77 : decode prog_2_method_6_code 77 = .ok (.iaload, 1) := by decide +kernel
theorem md_E_divide_78 : decode prog_2_method_6_code 78 = .ok (.iload_n 1, 1) := by decide +kernel
theorem md_E_divide_79 : decode prog_2_method_6_code 79 = .ok (.aload_n 0, 1) := by decide +kernel
theorem md_E_divide_80 : decode prog_2_method_6_code 80 = .ok (.getfield 30, 3) := by decide +kernel
theorem md_E_divide_83 : decode prog_2_method_6_code 83 = .ok (.invokestatic 102, 3) := by decide +kernel
theorem md_E_divide_86 : decode prog_2_method_6_code 86 = .ok (.istore_n 3, 1) := by decide +kernel
theorem md_E_divide_87 : decode prog_2_method_6_code 87 = .ok (.aload_n 0, 1) := by decide +kernel
theorem md_E_divide_88 : decode prog_2_method_6_code 88 = .ok (.getfield 27, 3) := by decide +kernel
theorem md_E_divide_91 : decode prog_2_method_6_code 91 = .ok (.getfield 96, 3) := by decide +kernel
theorem md_E_divide_94 : decode prog_2_method_6_code 94 = .ok (.iload_n 2, 1) := by decide +kernel
theorem md_E_divide_95 : decode prog_2_method_6_code 95 = .ok (.iload_n 3, 1) := by decide +kernel
theorem md_E_divide_96 : decode prog_2_method_6_code 96 = .ok (.iastore, 1) := by decide +kernel
theorem md_E_divide_97 : decode prog_2_method_6_code 97 = .ok (.aload_n 0, 1) := by decide +kernel
theorem md_E_divide_98 : decode prog_2_method_6_code 98 = .ok (.getfield 12, 3) := by decide +kernel
theorem md_E_divide_101 : decode prog_2_method_6_code 101 = .ok (.aload_n 0, 1) := by decide +kernel
theorem md_E_divide_102 : decode prog_2_method_6_code 102 = .ok (.getfield 18, 3) := by decide +kernel
theorem md_E_divide_105 : decode prog_2_method_6_code 105 = .ok (.iload_n 3, 1) := by decide +kernel
theorem md_E_divide_106 : decode prog_2_method_6_code 106 = .ok (.aload_n 0, 1) := by decide +kernel
theorem md_E_divide_107 : decode prog_2_method_6_code 107 = .ok (.getfield 30, 3) := by decide +kernel
theorem md_E_divide_110 : decode prog_2_method_6_code 110 = .ok (.invokestatic 105, 3) := by decide +kernel
theorem md_E_divide_113 : decode prog_2_method_6_code 113 = .ok (.iload_n 2, 1) := by decide +kernel
theorem md_E_divide_114 : decode prog_2_method_6_code 114 = .ok (.aload_n 0, 1) := by decide +kernel
theorem md_E_divide_115 : decode prog_2_method_6_code 115 = .ok (.getfield 30, 3) := by decide +kernel
theorem md_E_divide_118 : decode prog_2_method_6_code 118 = .ok (.invokevirtual 76, 3) := by decide +kernel
theorem md_E_divide_121 : decode prog_2_method_6_code 121 = .ok (.iinc 2 (-1), 3) := by decide +kernel
theorem md_E_divide_124 : decode prog_2_method_6_code 124 = .ok (.goto (-67), 3) := by decide +kernel
theorem md_E_divide_10 : decode prog_2_method_6_code 10 = .ok (.return_, 1) := by decide +kernel
def mb_E_divide_57 (rc : Nat → Int → Int → pw_Sto → Option (Unit × pw_Sto)) : Nat → Int → Int → pw_Sto → Option (Unit × pw_Sto) := fun x0 x1 x2 σ => pw_ck x2 0 (if x2 < 0 then (pw_gr 0 x0 4 σ).bind (fun v17 => pw_bd (mf_P_measure v17 σ) (fun _ s18 => (pw_gr 0 x0 0 s18).bind (fun v19 => pw_bd (mf_P_measure v19 s18) (fun _ s20 => (pw_gr 0 x0 0 s20).bind (fun v21 => (pw_gr 0 x0 1 s20).bind (fun v22 => (pw_pr 0 x0 0 v22 s20).bind (fun s23 => (pw_pr 0 x0 1 v21 s23).bind (fun s24 => some ((), s24))))))))) else (pw_gr 0 x0 0 σ).bind (fun v25 => (pw_gr 4 v25 0 σ).bind (fun v26 => (pw_gr 0 x0 1 σ).bind (fun v27 => (pw_gi 4 v27 1 σ).bind (fun v28 => (pw_ai v26 (x2 + v28) σ).bind (fun v29 => (pw_gi 0 x0 5 σ).bind (fun v30 => pw_bd (mf_K_times v29 x1 v30 σ) (fun v32 s31 => (pw_gr 0 x0 4 s31).bind (fun v33 => (pw_gr 4 v33 0 s31).bind (fun v34 => (pw_si v34 x2 v32 s31).bind (fun s35 => (pw_gr 0 x0 0 s35).bind (fun v36 => (pw_gr 0 x0 1 s35).bind (fun v37 => (pw_gi 0 x0 5 s35).bind (fun v38 => pw_bd (mf_K_negative v32 v38 s35) (fun v40 s39 => (pw_gi 0 x0 5 s39).bind (fun v41 => pw_bd (mf_P_gather v36 v37 v40 x2 v41 s39) (fun _ s42 => rc x0 x1 (x2 + (-1)) s42)))))))))))))))))
def ml_E_divide_57 : Nat → Nat → Int → Int → pw_Sto → Option (Unit × pw_Sto) := pw_lp (fun _ _ _ _ => none) (mb_E_divide_57)
def mf_E_divide (x0 : Nat) (σ : pw_Sto) : Option (Unit × pw_Sto) := pw_gd 0 x0 σ ((pw_gr 0 x0 1 σ).bind (fun v1 => (pw_gi 4 v1 1 σ).bind (fun v2 => pw_ck v2 0 (if 0 ≤ v2 then (pw_gr 0 x0 4 σ).bind (fun v3 => pw_bd (mf_P_becomeZero v3 σ) (fun _ s4 => (pw_gr 0 x0 1 s4).bind (fun v5 => (pw_gr 4 v5 0 s4).bind (fun v6 => (pw_gr 0 x0 1 s4).bind (fun v7 => (pw_gi 4 v7 1 s4).bind (fun v8 => (pw_ai v6 v8 s4).bind (fun v9 => (pw_gi 0 x0 5 s4).bind (fun v10 => pw_bd (mf_K_inverse v9 v10 s4) (fun v12 s11 => (pw_gr 0 x0 0 s11).bind (fun v13 => (pw_gi 4 v13 1 s11).bind (fun v14 => (pw_gr 0 x0 1 s11).bind (fun v15 => (pw_gi 4 v15 1 s11).bind (fun v16 => ml_E_divide_57 1000 x0 v12 (v14 - v16) s11))))))))))))) else some ((), σ)))))
set_option maxHeartbeats 4000000 in
set_option maxRecDepth 20000 in
theorem sl_E_divide_57 {X : pw_X Unit} (hX : pw_Ok X prog_2_method_6_code "PadeWorkbench$Euclid" mr_E_divide 4) (hR : pw_RV X prog_2_method_6_code) : ∀ (n : Nat) (x0 : Nat) (x1 : Int) (x2 : Int) (σ : pw_Sto), pw_Sp X 0 0 57 [(0, Value.ref x0), (1, Value.int (iI x1)), (2, Value.int (iI x2))] [] σ (ml_E_divide_57 n x0 x1 x2 σ) := by
  intro n
  induction n with
  | zero => intros; exact pw_none
  | succ n ih =>
    intro x0 x1 x2 σ
    show pw_Sp X 0 0 57 _ _ σ (mb_E_divide_57 (ml_E_divide_57 n) x0 x1 x2 σ)
    unfold mb_E_divide_57
    refine sp_iload_n (pc := 57) (k := 2) (i := 2) hX rfl 2 rfl md_E_divide_57 ?_
    refine sp_if_lt (pc := 58) hX 127 (by decide) md_E_divide_58 (fun _ => ?_) (fun _ => ?_)
    · refine sp_aload_n (pc := 127) (k := 0) (i := 0) hX rfl 0 rfl md_E_divide_127 ?_
      refine sp_getR (pc := 128) (ci := 0) (k := 4) (idx := 27) hX mcl_0 (by decide) mq_206 rfl md_E_divide_128 (fun v17 => ?_)
      refine sp_callVV (pc := 131) (y := my_P_measure) (ccy := prog_7_method_6_code) (nLy := 1) (ret := none) (rmy := mr_P_measure) (n := 0) (idx := 80) (As := []) (st := []) (o := v17) (cells' := 0) (slots' := 0) hX (fun _ h => mc_P_measure h) mk_P_measure mv_P_measure mcl_4 (fun _ h => pw_gd_of h) mq_530 ⟨(Nat.le_of_ble_eq_true rfl), (Nat.le_of_ble_eq_true rfl)⟩ rfl rfl (Nat.le_of_ble_eq_true rfl) ⟨(Nat.le_of_ble_eq_true rfl), (Nat.le_of_ble_eq_true rfl)⟩ rfl rfl md_E_divide_131 (fun s18 => ?_)
      refine sp_aload_n (pc := 134) (k := 0) (i := 0) hX rfl 0 rfl md_E_divide_134 ?_
      refine sp_getR (pc := 135) (ci := 0) (k := 0) (idx := 12) hX mcl_0 (by decide) mq_200 rfl md_E_divide_135 (fun v19 => ?_)
      refine sp_callVV (pc := 138) (y := my_P_measure) (ccy := prog_7_method_6_code) (nLy := 1) (ret := none) (rmy := mr_P_measure) (n := 0) (idx := 80) (As := []) (st := []) (o := v19) (cells' := 0) (slots' := 0) hX (fun _ h => mc_P_measure h) mk_P_measure mv_P_measure mcl_4 (fun _ h => pw_gd_of h) mq_530 ⟨(Nat.le_of_ble_eq_true rfl), (Nat.le_of_ble_eq_true rfl)⟩ rfl rfl (Nat.le_of_ble_eq_true rfl) ⟨(Nat.le_of_ble_eq_true rfl), (Nat.le_of_ble_eq_true rfl)⟩ rfl rfl md_E_divide_138 (fun s20 => ?_)
      refine sp_aload_n (pc := 141) (k := 0) (i := 0) hX rfl 0 rfl md_E_divide_141 ?_
      refine sp_getR (pc := 142) (ci := 0) (k := 0) (idx := 12) hX mcl_0 (by decide) mq_200 rfl md_E_divide_142 (fun v21 => ?_)
      refine sp_astore_n (pc := 145) (k := 2) (i := 2) (L' := [(2, Value.ref v21), (0, Value.ref x0), (1, Value.int (iI x1))]) hX rfl (by decide) rfl md_E_divide_145 ?_
      refine sp_aload_n (pc := 146) (k := 0) (i := 0) hX rfl 1 rfl md_E_divide_146 ?_
      refine sp_aload_n (pc := 147) (k := 0) (i := 0) hX rfl 1 rfl md_E_divide_147 ?_
      refine sp_getR (pc := 148) (ci := 0) (k := 1) (idx := 18) hX mcl_0 (by decide) mq_201 rfl md_E_divide_148 (fun v22 => ?_)
      refine sp_putR (pc := 151) (ci := 0) (k := 0) (idx := 12) hX mcl_0 (by decide) mq_200 rfl rfl mty_0_0 md_E_divide_151 (fun s23 => ?_)
      refine sp_aload_n (pc := 154) (k := 0) (i := 0) hX rfl 1 rfl md_E_divide_154 ?_
      refine sp_aload_n (pc := 155) (k := 2) (i := 2) hX rfl 0 rfl md_E_divide_155 ?_
      refine sp_putR (pc := 156) (ci := 0) (k := 1) (idx := 18) hX mcl_0 (by decide) mq_201 rfl rfl mty_0_1 md_E_divide_156 (fun s24 => ?_)
      exact sp_vret (pc := 159) hX hR rfl (Nat.le_of_ble_eq_true rfl) md_E_divide_159
    · refine sp_aload_n (pc := 61) (k := 0) (i := 0) hX rfl 0 rfl md_E_divide_61 ?_
      refine sp_getR (pc := 62) (ci := 0) (k := 0) (idx := 12) hX mcl_0 (by decide) mq_200 rfl md_E_divide_62 (fun v25 => ?_)
      refine sp_getRN (pc := 65) (ci := 4) (k := 0) (idx := 96) hX mcl_4 (by decide) mn_189 rfl md_E_divide_65 (fun v26 => ?_)
      refine sp_iload_n (pc := 68) (k := 2) (i := 2) hX rfl 2 rfl md_E_divide_68 ?_
      refine sp_aload_n (pc := 69) (k := 0) (i := 0) hX rfl 0 rfl md_E_divide_69 ?_
      refine sp_getR (pc := 70) (ci := 0) (k := 1) (idx := 18) hX mcl_0 (by decide) mq_201 rfl md_E_divide_70 (fun v27 => ?_)
      refine sp_getIN (pc := 73) (ci := 4) (k := 1) (idx := 87) hX mcl_4 (by decide) mn_193 rfl md_E_divide_73 (fun v28 => ?_)
      refine sp_iadd (pc := 76) hX md_E_divide_76 ?_
      refine sp_iaload (pc := 77) hX md_E_divide_77 (fun v29 => ?_)
      refine sp_iload_n (pc := 78) (k := 1) (i := 1) hX rfl 1 rfl md_E_divide_78 ?_
      refine sp_aload_n (pc := 79) (k := 0) (i := 0) hX rfl 0 rfl md_E_divide_79 ?_
      refine sp_getI (pc := 80) (ci := 0) (k := 5) (idx := 30) hX mcl_0 (by decide) mq_208 rfl md_E_divide_80 (fun v30 => ?_)
      refine sp_callSI (pc := 83) (y := my_K_times) (ccy := prog_3_method_4_code) (nLy := 3) (ret := (some .int)) (rmy := mr_K_times) (n := 3) (idx := 102) (As := [.int (iI v29), .int (iI x1), .int (iI v30)]) (st := []) (cells' := 0) (slots' := 0) hX (fun _ h => mc_K_times h) mk_K_times mq_402 mq_523 ⟨(Nat.le_of_ble_eq_true rfl), (Nat.le_of_ble_eq_true rfl)⟩ rfl rfl (Nat.le_of_ble_eq_true rfl) ⟨(Nat.le_of_ble_eq_true rfl), (Nat.le_of_ble_eq_true rfl)⟩ rfl rfl md_E_divide_83 (fun v32 s31 => ?_)
      refine sp_istore_n (pc := 86) (k := 3) (i := 3) (L' := [(3, Value.int (iI v32)), (0, Value.ref x0), (1, Value.int (iI x1)), (2, Value.int (iI x2))]) hX rfl (by decide) rfl md_E_divide_86 ?_
      refine sp_aload_n (pc := 87) (k := 0) (i := 0) hX rfl 1 rfl md_E_divide_87 ?_
      refine sp_getR (pc := 88) (ci := 0) (k := 4) (idx := 27) hX mcl_0 (by decide) mq_206 rfl md_E_divide_88 (fun v33 => ?_)
      refine sp_getRN (pc := 91) (ci := 4) (k := 0) (idx := 96) hX mcl_4 (by decide) mn_189 rfl md_E_divide_91 (fun v34 => ?_)
      refine sp_iload_n (pc := 94) (k := 2) (i := 2) hX rfl 3 rfl md_E_divide_94 ?_
      refine sp_iload_n (pc := 95) (k := 3) (i := 3) hX rfl 0 rfl md_E_divide_95 ?_
      refine sp_iastore (pc := 96) hX md_E_divide_96 (fun s35 => ?_)
      refine sp_aload_n (pc := 97) (k := 0) (i := 0) hX rfl 1 rfl md_E_divide_97 ?_
      refine sp_getR (pc := 98) (ci := 0) (k := 0) (idx := 12) hX mcl_0 (by decide) mq_200 rfl md_E_divide_98 (fun v36 => ?_)
      refine sp_aload_n (pc := 101) (k := 0) (i := 0) hX rfl 1 rfl md_E_divide_101 ?_
      refine sp_getR (pc := 102) (ci := 0) (k := 1) (idx := 18) hX mcl_0 (by decide) mq_201 rfl md_E_divide_102 (fun v37 => ?_)
      refine sp_iload_n (pc := 105) (k := 3) (i := 3) hX rfl 0 rfl md_E_divide_105 ?_
      refine sp_aload_n (pc := 106) (k := 0) (i := 0) hX rfl 1 rfl md_E_divide_106 ?_
      refine sp_getI (pc := 107) (ci := 0) (k := 5) (idx := 30) hX mcl_0 (by decide) mq_208 rfl md_E_divide_107 (fun v38 => ?_)
      refine sp_callSI (pc := 110) (y := my_K_negative) (ccy := prog_3_method_3_code) (nLy := 2) (ret := (some .int)) (rmy := mr_K_negative) (n := 2) (idx := 105) (As := [.int (iI v32), .int (iI v38)]) (st := [.ref v37, .ref v36]) (cells' := 0) (slots' := 0) hX (fun _ h => mc_K_negative h) mk_K_negative mq_405 mq_524 ⟨(Nat.le_of_ble_eq_true rfl), (Nat.le_of_ble_eq_true rfl)⟩ rfl rfl (Nat.le_of_ble_eq_true rfl) ⟨(Nat.le_of_ble_eq_true rfl), (Nat.le_of_ble_eq_true rfl)⟩ rfl rfl md_E_divide_110 (fun v40 s39 => ?_)
      refine sp_iload_n (pc := 113) (k := 2) (i := 2) hX rfl 3 rfl md_E_divide_113 ?_
      refine sp_aload_n (pc := 114) (k := 0) (i := 0) hX rfl 1 rfl md_E_divide_114 ?_
      refine sp_getI (pc := 115) (ci := 0) (k := 5) (idx := 30) hX mcl_0 (by decide) mq_208 rfl md_E_divide_115 (fun v41 => ?_)
      refine sp_callVV (pc := 118) (y := my_P_gather) (ccy := prog_7_method_8_code) (nLy := 6) (ret := none) (rmy := mr_P_gather) (n := 4) (idx := 76) (As := [.ref v37, .int (iI v40), .int (iI x2), .int (iI v41)]) (st := []) (o := v36) (cells' := 0) (slots' := 0) hX (fun _ h => mc_P_gather h) mk_P_gather mv_P_gather mcl_4 (fun _ h => pw_gd_of h) mq_525 ⟨(Nat.le_of_ble_eq_true rfl), (Nat.le_of_ble_eq_true rfl)⟩ rfl rfl (Nat.le_of_ble_eq_true rfl) ⟨(Nat.le_of_ble_eq_true rfl), (Nat.le_of_ble_eq_true rfl)⟩ rfl rfl md_E_divide_118 (fun s42 => ?_)
      refine sp_iinc (pc := 121) (i := 2) (L' := [(2, Value.int (iI (x2 + (-1)))), (3, Value.int (iI v32)), (0, Value.ref x0), (1, Value.int (iI x1))]) hX 3 rfl (by decide) rfl md_E_divide_121 ?_
      refine sp_goto (pc := 124) hX 57 (by decide) md_E_divide_124 ?_
      refine sp_sub [2, 3, 0] (L' := [(0, Value.ref x0), (1, Value.int (iI x1)), (2, Value.int (iI (x2 + (-1))))]) rfl ?_
      exact ih x0 x1 (x2 + (-1)) s42
set_option maxHeartbeats 4000000 in
set_option maxRecDepth 20000 in
theorem mc_E_divide {l : Launch} {E : pw_E} {σ : pw_Sto} {x0 : Nat} {out : Unit × pw_Sto} (h : mf_E_divide x0 σ = some out) : pw_CV l E my_E_divide prog_2_method_6_code 4 none mr_E_divide [.ref x0] σ out := by
  unfold mf_E_divide at h
  refine pw_entryV (by decide) (Nat.le_of_ble_eq_true rfl) (pw_gd_val h) (fun X hX hR hI => ?_)
  change pw_Ok X prog_2_method_6_code "PadeWorkbench$Euclid" mr_E_divide 4 at hX
  show pw_Sp X 0 0 0 [(0, Value.ref x0)] [] σ _
  refine sp_aload_n (pc := 0) (k := 0) (i := 0) hX rfl 0 rfl md_E_divide_0 ?_
  refine sp_getR (pc := 1) (ci := 0) (k := 1) (idx := 18) hX mcl_0 (by decide) mq_201 rfl md_E_divide_1 (fun v1 => ?_)
  refine sp_getIN (pc := 4) (ci := 4) (k := 1) (idx := 87) hX mcl_4 (by decide) mn_193 rfl md_E_divide_4 (fun v2 => ?_)
  refine sp_if_ge (pc := 7) hX 11 (by decide) md_E_divide_7 (fun _ => ?_) (fun _ => ?_)
  · refine sp_aload_n (pc := 11) (k := 0) (i := 0) hX rfl 0 rfl md_E_divide_11 ?_
    refine sp_getR (pc := 12) (ci := 0) (k := 4) (idx := 27) hX mcl_0 (by decide) mq_206 rfl md_E_divide_12 (fun v3 => ?_)
    refine sp_callVV (pc := 15) (y := my_P_becomeZero) (ccy := prog_7_method_2_code) (nLy := 1) (ret := none) (rmy := mr_P_becomeZero) (n := 0) (idx := 50) (As := []) (st := []) (o := v3) (cells' := 0) (slots' := 0) hX (fun _ h => mc_P_becomeZero h) mk_P_becomeZero mv_P_becomeZero mcl_4 (fun _ h => pw_gd_of h) mq_513 ⟨(Nat.le_of_ble_eq_true rfl), (Nat.le_of_ble_eq_true rfl)⟩ rfl rfl (Nat.le_of_ble_eq_true rfl) ⟨(Nat.le_of_ble_eq_true rfl), (Nat.le_of_ble_eq_true rfl)⟩ rfl rfl md_E_divide_15 (fun s4 => ?_)
    refine sp_aload_n (pc := 18) (k := 0) (i := 0) hX rfl 0 rfl md_E_divide_18 ?_
    refine sp_getR (pc := 19) (ci := 0) (k := 1) (idx := 18) hX mcl_0 (by decide) mq_201 rfl md_E_divide_19 (fun v5 => ?_)
    refine sp_getRN (pc := 22) (ci := 4) (k := 0) (idx := 96) hX mcl_4 (by decide) mn_189 rfl md_E_divide_22 (fun v6 => ?_)
    refine sp_aload_n (pc := 25) (k := 0) (i := 0) hX rfl 0 rfl md_E_divide_25 ?_
    refine sp_getR (pc := 26) (ci := 0) (k := 1) (idx := 18) hX mcl_0 (by decide) mq_201 rfl md_E_divide_26 (fun v7 => ?_)
    refine sp_getIN (pc := 29) (ci := 4) (k := 1) (idx := 87) hX mcl_4 (by decide) mn_193 rfl md_E_divide_29 (fun v8 => ?_)
    refine sp_iaload (pc := 32) hX md_E_divide_32 (fun v9 => ?_)
    refine sp_aload_n (pc := 33) (k := 0) (i := 0) hX rfl 0 rfl md_E_divide_33 ?_
    refine sp_getI (pc := 34) (ci := 0) (k := 5) (idx := 30) hX mcl_0 (by decide) mq_208 rfl md_E_divide_34 (fun v10 => ?_)
    refine sp_callSI (pc := 37) (y := my_K_inverse) (ccy := prog_3_method_5_code) (nLy := 5) (ret := (some .int)) (rmy := mr_K_inverse) (n := 2) (idx := 99) (As := [.int (iI v9), .int (iI v10)]) (st := []) (cells' := 0) (slots' := 0) hX (fun _ h => mc_K_inverse h) mk_K_inverse mq_398 mq_522 ⟨(Nat.le_of_ble_eq_true rfl), (Nat.le_of_ble_eq_true rfl)⟩ rfl rfl (Nat.le_of_ble_eq_true rfl) ⟨(Nat.le_of_ble_eq_true rfl), (Nat.le_of_ble_eq_true rfl)⟩ rfl rfl md_E_divide_37 (fun v12 s11 => ?_)
    refine sp_istore_n (pc := 40) (k := 1) (i := 1) (L' := [(1, Value.int (iI v12)), (0, Value.ref x0)]) hX rfl (by decide) rfl md_E_divide_40 ?_
    refine sp_aload_n (pc := 41) (k := 0) (i := 0) hX rfl 1 rfl md_E_divide_41 ?_
    refine sp_getR (pc := 42) (ci := 0) (k := 0) (idx := 12) hX mcl_0 (by decide) mq_200 rfl md_E_divide_42 (fun v13 => ?_)
    refine sp_getIN (pc := 45) (ci := 4) (k := 1) (idx := 87) hX mcl_4 (by decide) mn_193 rfl md_E_divide_45 (fun v14 => ?_)
    refine sp_aload_n (pc := 48) (k := 0) (i := 0) hX rfl 1 rfl md_E_divide_48 ?_
    refine sp_getR (pc := 49) (ci := 0) (k := 1) (idx := 18) hX mcl_0 (by decide) mq_201 rfl md_E_divide_49 (fun v15 => ?_)
    refine sp_getIN (pc := 52) (ci := 4) (k := 1) (idx := 87) hX mcl_4 (by decide) mn_193 rfl md_E_divide_52 (fun v16 => ?_)
    refine sp_isub (pc := 55) hX md_E_divide_55 ?_
    refine sp_istore_n (pc := 56) (k := 2) (i := 2) (L' := [(2, Value.int (iI (v14 - v16))), (1, Value.int (iI v12)), (0, Value.ref x0)]) hX rfl (by decide) rfl md_E_divide_56 ?_
    refine sp_sub [2, 1, 0] (L' := [(0, Value.ref x0), (1, Value.int (iI v12)), (2, Value.int (iI (v14 - v16)))]) rfl ?_
    exact sl_E_divide_57 hX hR 1000 x0 v12 (v14 - v16) s11
  · exact sp_vret (pc := 10) hX hR rfl (Nat.le_of_ble_eq_true rfl) md_E_divide_10
/-! PadeWorkbench$Euclid.followWithCofactors()V -/
theorem md_E_followWithCofactors_0 : decode prog_2_method_7_code 0 = .ok (.iconst 0, 1) := by decide +kernel
theorem md_E_followWithCofactors_1 : decode prog_2_method_7_code 1 = .ok (.istore_n 1, 1) := by decide +kernel
theorem md_E_followWithCofactors_2 : decode prog_2_method_7_code 2 = .ok (.iload_n 1, 1) := by decide +kernel
theorem md_E_followWithCofactors_3 : decode prog_2_method_7_code 3 = .ok (.aload_n 0, 1) := by decide +kernel
theorem md_E_followWithCofactors_4 : decode prog_2_method_7_code 4 = .ok (.getfield 27, 3) := by decide +kernel
theorem md_E_followWithCofactors_7 : decode prog_2_method_7_code 7 = .ok (.getfield 87, 3) := by decide +kernel
theorem md_E_followWithCofactors_10 : decode prog_2_method_7_code 10 = .ok (.if_icmp .gt 43, 3) := by decide +kernel
theorem md_E_followWithCofactors_53 : decode prog_2_method_7_code 53 = .ok (.aload_n 0, 1) := by decide +kernel
theorem md_E_followWithCofactors_54 : decode prog_2_method_7_code 54 = .ok (.getfield 21, 3) := by decide +kernel
theorem md_E_followWithCofactors_57 : decode prog_2_method_7_code 57 = .ok (.invokevirtual 80, 3) := by decide +kernel
theorem md_E_followWithCofactors_60 : decode prog_2_method_7_code 60 = .ok (.aload_n 0, 1) := by decide +kernel
theorem md_E_followWithCofactors_61 : decode prog_2_method_7_code 61 = .ok (.getfield 21, 3) := by decide +kernel
theorem md_E_followWithCofactors_64 : decode prog_2_method_7_code 64 = .ok (.astore_n 1, 1) := by decide +kernel
theorem md_E_followWithCofactors_65 : decode prog_2_method_7_code 65 = .ok (.aload_n 0, 1) := by decide +kernel
theorem md_E_followWithCofactors_66 : decode prog_2_method_7_code 66 = .ok (.aload_n 0, 1) := by decide +kernel
theorem md_E_followWithCofactors_67 : decode prog_2_method_7_code 67 = .ok (.getfield 24, 3) := by decide +kernel
theorem md_E_followWithCofactors_70 : decode prog_2_method_7_code 70 = .ok (.putfield 21, 3) := by decide +kernel
theorem md_E_followWithCofactors_73 : decode prog_2_method_7_code 73 = .ok (.aload_n 0, 1) := by decide +kernel
theorem md_E_followWithCofactors_74 : decode prog_2_method_7_code 74 = .ok (.aload_n 1, 1) := by decide +kernel
theorem md_E_followWithCofactors_75 : decode prog_2_method_7_code 75 = .ok (.putfield 24, 3) := by decide +kernel
theorem md_E_followWithCofactors_78 : decode prog_2_method_7_code 78 = .ok (.return_, 1) := by decide +kernel
theorem md_E_followWithCofactors_13 : decode prog_2_method_7_code 13 = .ok (.aload_n 0, 1) := by decide +kernel
theorem md_E_followWithCofactors_14 : decode prog_2_method_7_code 14 = .ok (.getfield 27, 3) := by decide +kernel
theorem md_E_followWithCofactors_17 : decode prog_2_method_7_code 17 = .ok (.getfield 96, 3) := by decide +kernel
theorem md_E_followWithCofactors_20 : decode prog_2_method_7_code 20 = .ok (.iload_n 1, 1) := by decide +kernel
theorem md_E_followWithCofactors_21 : decode prog_2_method_7_code 21 = .ok (.iaload, 1) := by decide +kernel
theorem md_E_followWithCofactors_22 : decode prog_2_method_7_code 22 = .ok (.aload_n 0, 1) := by decide +kernel
theorem md_E_followWithCofactors_23 : decode prog_2_method_7_code 23 = .ok (.getfield 30, 3) := by decide +kernel
theorem md_E_followWithCofactors_26 : decode prog_2_method_7_code 26 = .ok (.invokestatic 105, 3) := by decide +kernel
theorem md_E_followWithCofactors_29 : decode prog_2_method_7_code 29 = .ok (.istore_n 2, 1) := by decide +kernel
theorem md_E_followWithCofactors_30 : decode prog_2_method_7_code 30 = .ok (.aload_n 0, 1) := by decide +kernel
theorem md_E_followWithCofactors_31 : decode prog_2_method_7_code 31 = .ok (.getfield 21, 3) := by decide +kernel
theorem md_E_followWithCofactors_34 : decode prog_2_method_7_code 34 = .ok (.aload_n 0, 1) := by decide +kernel
theorem md_E_followWithCofactors_35 : decode prog_2_method_7_code 35 = .ok (.getfield 24, 3) := by decide +kernel
theorem md_E_followWithCofactors_38 : decode prog_2_method_7_code 38 = .ok (.iload_n 2, 1) := by decide +kernel
theorem md_E_followWithCofactors_39 : decode prog_2_method_7_code 39 = .ok (.iload_n 1, 1) := by decide +kernel
theorem md_E_followWithCofactors_40 : decode prog_2_method_7_code 40 = .ok (.aload_n 0, 1) := by decide +kernel
theorem md_E_followWithCofactors_41 : decode prog_2_method_7_code 41 = .ok (.getfield 30, 3) := by decide +kernel
theorem md_E_followWithCofactors_44 : decode prog_2_method_7_code 44 = .ok (.invokevirtual 76, 3) := by decide +kernel
theorem md_E_followWithCofactors_47 : decode prog_2_method_7_code 47 = .ok (.iinc 1 1, 3) := by decide +kernel
theorem md_E_followWithCofactors_50 : decode prog_2_method_7_code 50 = .ok (.goto (-48), 3) := by decide +kernel
def mb_E_followWithCofactors_2 (rc : Nat → Int → pw_Sto → Option (Unit × pw_Sto)) : Nat → Int → pw_Sto → Option (Unit × pw_Sto) := fun x0 x1 σ => (pw_gr 0 x0 4 σ).bind (fun v1 => (pw_gi 4 v1 1 σ).bind (fun v2 => pw_ck x1 v2 (if v2 < x1 then (pw_gr 0 x0 2 σ).bind (fun v3 => pw_bd (mf_P_measure v3 σ) (fun _ s4 => (pw_gr 0 x0 2 s4).bind (fun v5 => (pw_gr 0 x0 3 s4).bind (fun v6 => (pw_pr 0 x0 2 v6 s4).bind (fun s7 => (pw_pr 0 x0 3 v5 s7).bind (fun s8 => some ((), s8))))))) else (pw_gr 0 x0 4 σ).bind (fun v9 => (pw_gr 4 v9 0 σ).bind (fun v10 => (pw_ai v10 x1 σ).bind (fun v11 => (pw_gi 0 x0 5 σ).bind (fun v12 => pw_bd (mf_K_negative v11 v12 σ) (fun v14 s13 => (pw_gr 0 x0 2 s13).bind (fun v15 => (pw_gr 0 x0 3 s13).bind (fun v16 => (pw_gi 0 x0 5 s13).bind (fun v17 => pw_bd (mf_P_gather v15 v16 v14 x1 v17 s13) (fun _ s18 => rc x0 (x1 + 1) s18))))))))))))
def ml_E_followWithCofactors_2 : Nat → Nat → Int → pw_Sto → Option (Unit × pw_Sto) := pw_lp (fun _ _ _ => none) (mb_E_followWithCofactors_2)
def mf_E_followWithCofactors (x0 : Nat) (σ : pw_Sto) : Option (Unit × pw_Sto) := pw_gd 0 x0 σ (ml_E_followWithCofactors_2 1000 x0 (0 : Int) σ)
set_option maxHeartbeats 4000000 in
set_option maxRecDepth 20000 in
theorem sl_E_followWithCofactors_2 {X : pw_X Unit} (hX : pw_Ok X prog_2_method_7_code "PadeWorkbench$Euclid" mr_E_followWithCofactors 3) (hR : pw_RV X prog_2_method_7_code) : ∀ (n : Nat) (x0 : Nat) (x1 : Int) (σ : pw_Sto), pw_Sp X 0 0 2 [(0, Value.ref x0), (1, Value.int (iI x1))] [] σ (ml_E_followWithCofactors_2 n x0 x1 σ) := by
  intro n
  induction n with
  | zero => intros; exact pw_none
  | succ n ih =>
    intro x0 x1 σ
    show pw_Sp X 0 0 2 _ _ σ (mb_E_followWithCofactors_2 (ml_E_followWithCofactors_2 n) x0 x1 σ)
    unfold mb_E_followWithCofactors_2
    refine sp_iload_n (pc := 2) (k := 1) (i := 1) hX rfl 1 rfl md_E_followWithCofactors_2 ?_
    refine sp_aload_n (pc := 3) (k := 0) (i := 0) hX rfl 0 rfl md_E_followWithCofactors_3 ?_
    refine sp_getR (pc := 4) (ci := 0) (k := 4) (idx := 27) hX mcl_0 (by decide) mq_206 rfl md_E_followWithCofactors_4 (fun v1 => ?_)
    refine sp_getIN (pc := 7) (ci := 4) (k := 1) (idx := 87) hX mcl_4 (by decide) mn_193 rfl md_E_followWithCofactors_7 (fun v2 => ?_)
    refine sp_icmp_gt (pc := 10) hX 53 (by decide) md_E_followWithCofactors_10 (fun _ => ?_) (fun _ => ?_)
    · refine sp_aload_n (pc := 53) (k := 0) (i := 0) hX rfl 0 rfl md_E_followWithCofactors_53 ?_
      refine sp_getR (pc := 54) (ci := 0) (k := 2) (idx := 21) hX mcl_0 (by decide) mq_203 rfl md_E_followWithCofactors_54 (fun v3 => ?_)
      refine sp_callVV (pc := 57) (y := my_P_measure) (ccy := prog_7_method_6_code) (nLy := 1) (ret := none) (rmy := mr_P_measure) (n := 0) (idx := 80) (As := []) (st := []) (o := v3) (cells' := 0) (slots' := 0) hX (fun _ h => mc_P_measure h) mk_P_measure mv_P_measure mcl_4 (fun _ h => pw_gd_of h) mq_530 ⟨(Nat.le_of_ble_eq_true rfl), (Nat.le_of_ble_eq_true rfl)⟩ rfl rfl (Nat.le_of_ble_eq_true rfl) ⟨(Nat.le_of_ble_eq_true rfl), (Nat.le_of_ble_eq_true rfl)⟩ rfl rfl md_E_followWithCofactors_57 (fun s4 => ?_)
      refine sp_aload_n (pc := 60) (k := 0) (i := 0) hX rfl 0 rfl md_E_followWithCofactors_60 ?_
      refine sp_getR (pc := 61) (ci := 0) (k := 2) (idx := 21) hX mcl_0 (by decide) mq_203 rfl md_E_followWithCofactors_61 (fun v5 => ?_)
      refine sp_astore_n (pc := 64) (k := 1) (i := 1) (L' := [(1, Value.ref v5), (0, Value.ref x0)]) hX rfl (by decide) rfl md_E_followWithCofactors_64 ?_
      refine sp_aload_n (pc := 65) (k := 0) (i := 0) hX rfl 1 rfl md_E_followWithCofactors_65 ?_
      refine sp_aload_n (pc := 66) (k := 0) (i := 0) hX rfl 1 rfl md_E_followWithCofactors_66 ?_
      refine sp_getR (pc := 67) (ci := 0) (k := 3) (idx := 24) hX mcl_0 (by decide) mq_204 rfl md_E_followWithCofactors_67 (fun v6 => ?_)
      refine sp_putR (pc := 70) (ci := 0) (k := 2) (idx := 21) hX mcl_0 (by decide) mq_203 rfl rfl mty_0_2 md_E_followWithCofactors_70 (fun s7 => ?_)
      refine sp_aload_n (pc := 73) (k := 0) (i := 0) hX rfl 1 rfl md_E_followWithCofactors_73 ?_
      refine sp_aload_n (pc := 74) (k := 1) (i := 1) hX rfl 0 rfl md_E_followWithCofactors_74 ?_
      refine sp_putR (pc := 75) (ci := 0) (k := 3) (idx := 24) hX mcl_0 (by decide) mq_204 rfl rfl mty_0_3 md_E_followWithCofactors_75 (fun s8 => ?_)
      exact sp_vret (pc := 78) hX hR rfl (Nat.le_of_ble_eq_true rfl) md_E_followWithCofactors_78
    · refine sp_aload_n (pc := 13) (k := 0) (i := 0) hX rfl 0 rfl md_E_followWithCofactors_13 ?_
      refine sp_getR (pc := 14) (ci := 0) (k := 4) (idx := 27) hX mcl_0 (by decide) mq_206 rfl md_E_followWithCofactors_14 (fun v9 => ?_)
      refine sp_getRN (pc := 17) (ci := 4) (k := 0) (idx := 96) hX mcl_4 (by decide) mn_189 rfl md_E_followWithCofactors_17 (fun v10 => ?_)
      refine sp_iload_n (pc := 20) (k := 1) (i := 1) hX rfl 1 rfl md_E_followWithCofactors_20 ?_
      refine sp_iaload (pc := 21) hX md_E_followWithCofactors_21 (fun v11 => ?_)
      refine sp_aload_n (pc := 22) (k := 0) (i := 0) hX rfl 0 rfl md_E_followWithCofactors_22 ?_
      refine sp_getI (pc := 23) (ci := 0) (k := 5) (idx := 30) hX mcl_0 (by decide) mq_208 rfl md_E_followWithCofactors_23 (fun v12 => ?_)
      refine sp_callSI (pc := 26) (y := my_K_negative) (ccy := prog_3_method_3_code) (nLy := 2) (ret := (some .int)) (rmy := mr_K_negative) (n := 2) (idx := 105) (As := [.int (iI v11), .int (iI v12)]) (st := []) (cells' := 0) (slots' := 0) hX (fun _ h => mc_K_negative h) mk_K_negative mq_405 mq_524 ⟨(Nat.le_of_ble_eq_true rfl), (Nat.le_of_ble_eq_true rfl)⟩ rfl rfl (Nat.le_of_ble_eq_true rfl) ⟨(Nat.le_of_ble_eq_true rfl), (Nat.le_of_ble_eq_true rfl)⟩ rfl rfl md_E_followWithCofactors_26 (fun v14 s13 => ?_)
      refine sp_istore_n (pc := 29) (k := 2) (i := 2) (L' := [(2, Value.int (iI v14)), (0, Value.ref x0), (1, Value.int (iI x1))]) hX rfl (by decide) rfl md_E_followWithCofactors_29 ?_
      refine sp_aload_n (pc := 30) (k := 0) (i := 0) hX rfl 1 rfl md_E_followWithCofactors_30 ?_
      refine sp_getR (pc := 31) (ci := 0) (k := 2) (idx := 21) hX mcl_0 (by decide) mq_203 rfl md_E_followWithCofactors_31 (fun v15 => ?_)
      refine sp_aload_n (pc := 34) (k := 0) (i := 0) hX rfl 1 rfl md_E_followWithCofactors_34 ?_
      refine sp_getR (pc := 35) (ci := 0) (k := 3) (idx := 24) hX mcl_0 (by decide) mq_204 rfl md_E_followWithCofactors_35 (fun v16 => ?_)
      refine sp_iload_n (pc := 38) (k := 2) (i := 2) hX rfl 0 rfl md_E_followWithCofactors_38 ?_
      refine sp_iload_n (pc := 39) (k := 1) (i := 1) hX rfl 2 rfl md_E_followWithCofactors_39 ?_
      refine sp_aload_n (pc := 40) (k := 0) (i := 0) hX rfl 1 rfl md_E_followWithCofactors_40 ?_
      refine sp_getI (pc := 41) (ci := 0) (k := 5) (idx := 30) hX mcl_0 (by decide) mq_208 rfl md_E_followWithCofactors_41 (fun v17 => ?_)
      refine sp_callVV (pc := 44) (y := my_P_gather) (ccy := prog_7_method_8_code) (nLy := 6) (ret := none) (rmy := mr_P_gather) (n := 4) (idx := 76) (As := [.ref v16, .int (iI v14), .int (iI x1), .int (iI v17)]) (st := []) (o := v15) (cells' := 0) (slots' := 0) hX (fun _ h => mc_P_gather h) mk_P_gather mv_P_gather mcl_4 (fun _ h => pw_gd_of h) mq_525 ⟨(Nat.le_of_ble_eq_true rfl), (Nat.le_of_ble_eq_true rfl)⟩ rfl rfl (Nat.le_of_ble_eq_true rfl) ⟨(Nat.le_of_ble_eq_true rfl), (Nat.le_of_ble_eq_true rfl)⟩ rfl rfl md_E_followWithCofactors_44 (fun s18 => ?_)
      refine sp_iinc (pc := 47) (i := 1) (L' := [(1, Value.int (iI (x1 + 1))), (2, Value.int (iI v14)), (0, Value.ref x0)]) hX 2 rfl (by decide) rfl md_E_followWithCofactors_47 ?_
      refine sp_goto (pc := 50) hX 2 (by decide) md_E_followWithCofactors_50 ?_
      refine sp_sub [2, 0] (L' := [(0, Value.ref x0), (1, Value.int (iI (x1 + 1)))]) rfl ?_
      exact ih x0 (x1 + 1) s18
set_option maxHeartbeats 4000000 in
set_option maxRecDepth 20000 in
theorem mc_E_followWithCofactors {l : Launch} {E : pw_E} {σ : pw_Sto} {x0 : Nat} {out : Unit × pw_Sto} (h : mf_E_followWithCofactors x0 σ = some out) : pw_CV l E my_E_followWithCofactors prog_2_method_7_code 3 none mr_E_followWithCofactors [.ref x0] σ out := by
  unfold mf_E_followWithCofactors at h
  refine pw_entryV (by decide) (Nat.le_of_ble_eq_true rfl) (pw_gd_val h) (fun X hX hR hI => ?_)
  change pw_Ok X prog_2_method_7_code "PadeWorkbench$Euclid" mr_E_followWithCofactors 3 at hX
  show pw_Sp X 0 0 0 [(0, Value.ref x0)] [] σ _
  refine sp_iconst (pc := 0) hX md_E_followWithCofactors_0 ?_
  refine sp_istore_n (pc := 1) (k := 1) (i := 1) (L' := [(1, Value.int (iI (0 : Int))), (0, Value.ref x0)]) hX rfl (by decide) rfl md_E_followWithCofactors_1 ?_
  refine sp_sub [1, 0] (L' := [(0, Value.ref x0), (1, Value.int (iI (0 : Int)))]) rfl ?_
  exact sl_E_followWithCofactors_2 hX hR 1000 x0 (0 : Int) σ
/-! PadeWorkbench$Euclid.runDownTo(I)V -/
theorem md_E_runDownTo_0 : decode prog_2_method_5_code 0 = .ok (.iconst 0, 1) := by decide +kernel
theorem md_E_runDownTo_1 : decode prog_2_method_5_code 1 = .ok (.istore_n 2, 1) := by decide +kernel
theorem md_E_runDownTo_2 : decode prog_2_method_5_code 2 = .ok (.iload_n 2, 1) := by decide +kernel
theorem md_E_runDownTo_3 : decode prog_2_method_5_code 3 = .ok (.bipush 17, 2) := by decide +kernel
theorem md_E_runDownTo_5 : decode prog_2_method_5_code 5 = .ok (.if_icmp .ge 28, 3) := by decide +kernel
theorem md_E_runDownTo_33 : decode prog_2_method_5_code 33 = .ok (.return_, 1) := by decide +kernel
theorem md_E_runDownTo_8 : decode prog_2_method_5_code 8 = .ok (.aload_n 0, 1) := by decide +kernel
theorem md_E_runDownTo_9 : decode prog_2_method_5_code 9 = .ok (.getfield 18, 3) := by decide +kernel
theorem md_E_runDownTo_12 : decode prog_2_method_5_code 12 = .ok (.getfield 87, 3) := by decide +kernel
theorem md_E_runDownTo_15 : decode prog_2_method_5_code 15 = .ok (.iload_n 1, 1) := by decide +kernel
theorem md_E_runDownTo_16 : decode prog_2_method_5_code 16 = .ok (.if_icmp .le 17, 3) := by decide +kernel
theorem md_E_runDownTo_19 : decode prog_2_method_5_code 19 = .ok (.aload_n 0, 1) := by decide +kernel
theorem md_E_runDownTo_20 : decode prog_2_method_5_code 20 = .ok (.invokevirtual 90, 3) := by decide +kernel
theorem md_E_runDownTo_23 : decode prog_2_method_5_code 23 = .ok (.aload_n 0, 1) := by decide +kernel
theorem md_E_runDownTo_24 : decode prog_2_method_5_code 24 = .ok (.invokevirtual 93, 3) := by decide +kernel
theorem md_E_runDownTo_27 : decode prog_2_method_5_code 27 = .ok (.iinc 2 1, 3) := by decide +kernel
theorem md_E_runDownTo_30 : decode prog_2_method_5_code 30 = .ok (.goto (-28), 3) := by decide +kernel
def mb_E_runDownTo_2 (rc : Nat → Int → Int → pw_Sto → Option (Unit × pw_Sto)) : Nat → Int → Int → pw_Sto → Option (Unit × pw_Sto) := fun x0 x1 x2 σ => pw_ck x2 (17 : Int) (if (17 : Int) ≤ x2 then some ((), σ) else (pw_gr 0 x0 1 σ).bind (fun v1 => (pw_gi 4 v1 1 σ).bind (fun v2 => pw_ck v2 x1 (if v2 ≤ x1 then some ((), σ) else pw_bd (mf_E_divide x0 σ) (fun _ s3 => pw_bd (mf_E_followWithCofactors x0 s3) (fun _ s4 => rc x0 x1 (x2 + 1) s4))))))
def ml_E_runDownTo_2 : Nat → Nat → Int → Int → pw_Sto → Option (Unit × pw_Sto) := pw_lp (fun _ _ _ _ => none) (mb_E_runDownTo_2)
def mf_E_runDownTo (x0 : Nat) (x1 : Int) (σ : pw_Sto) : Option (Unit × pw_Sto) := pw_gd 0 x0 σ (ml_E_runDownTo_2 1000 x0 x1 (0 : Int) σ)
set_option maxHeartbeats 4000000 in
set_option maxRecDepth 20000 in
theorem sl_E_runDownTo_2 {X : pw_X Unit} (hX : pw_Ok X prog_2_method_5_code "PadeWorkbench$Euclid" mr_E_runDownTo 3) (hR : pw_RV X prog_2_method_5_code) : ∀ (n : Nat) (x0 : Nat) (x1 : Int) (x2 : Int) (σ : pw_Sto), pw_Sp X 0 0 2 [(0, Value.ref x0), (1, Value.int (iI x1)), (2, Value.int (iI x2))] [] σ (ml_E_runDownTo_2 n x0 x1 x2 σ) := by
  intro n
  induction n with
  | zero => intros; exact pw_none
  | succ n ih =>
    intro x0 x1 x2 σ
    show pw_Sp X 0 0 2 _ _ σ (mb_E_runDownTo_2 (ml_E_runDownTo_2 n) x0 x1 x2 σ)
    unfold mb_E_runDownTo_2
    refine sp_iload_n (pc := 2) (k := 2) (i := 2) hX rfl 2 rfl md_E_runDownTo_2 ?_
    refine sp_bipush (pc := 3) hX (by decide) md_E_runDownTo_3 ?_
    refine sp_icmp_ge (pc := 5) hX 33 (by decide) md_E_runDownTo_5 (fun _ => ?_) (fun _ => ?_)
    · exact sp_vret (pc := 33) hX hR rfl (Nat.le_of_ble_eq_true rfl) md_E_runDownTo_33
    · refine sp_aload_n (pc := 8) (k := 0) (i := 0) hX rfl 0 rfl md_E_runDownTo_8 ?_
      refine sp_getR (pc := 9) (ci := 0) (k := 1) (idx := 18) hX mcl_0 (by decide) mq_201 rfl md_E_runDownTo_9 (fun v1 => ?_)
      refine sp_getIN (pc := 12) (ci := 4) (k := 1) (idx := 87) hX mcl_4 (by decide) mn_193 rfl md_E_runDownTo_12 (fun v2 => ?_)
      refine sp_iload_n (pc := 15) (k := 1) (i := 1) hX rfl 1 rfl md_E_runDownTo_15 ?_
      refine sp_icmp_le (pc := 16) hX 33 (by decide) md_E_runDownTo_16 (fun _ => ?_) (fun _ => ?_)
      · exact sp_vret (pc := 33) hX hR rfl (Nat.le_of_ble_eq_true rfl) md_E_runDownTo_33
      · refine sp_aload_n (pc := 19) (k := 0) (i := 0) hX rfl 0 rfl md_E_runDownTo_19 ?_
        refine sp_callVV (pc := 20) (y := my_E_divide) (ccy := prog_2_method_6_code) (nLy := 4) (ret := none) (rmy := mr_E_divide) (n := 0) (idx := 90) (As := []) (st := []) (o := x0) (cells' := 0) (slots' := 0) hX (fun _ h => mc_E_divide h) mk_E_divide mv_E_divide mcl_0 (fun _ h => pw_gd_of h) mq_518 ⟨(Nat.le_of_ble_eq_true rfl), (Nat.le_of_ble_eq_true rfl)⟩ rfl rfl (Nat.le_of_ble_eq_true rfl) ⟨(Nat.le_of_ble_eq_true rfl), (Nat.le_of_ble_eq_true rfl)⟩ rfl rfl md_E_runDownTo_20 (fun s3 => ?_)
        refine sp_aload_n (pc := 23) (k := 0) (i := 0) hX rfl 0 rfl md_E_runDownTo_23 ?_
        refine sp_callVV (pc := 24) (y := my_E_followWithCofactors) (ccy := prog_2_method_7_code) (nLy := 3) (ret := none) (rmy := mr_E_followWithCofactors) (n := 0) (idx := 93) (As := []) (st := []) (o := x0) (cells' := 0) (slots' := 0) hX (fun _ h => mc_E_followWithCofactors h) mk_E_followWithCofactors mv_E_followWithCofactors mcl_0 (fun _ h => pw_gd_of h) mq_531 ⟨(Nat.le_of_ble_eq_true rfl), (Nat.le_of_ble_eq_true rfl)⟩ rfl rfl (Nat.le_of_ble_eq_true rfl) ⟨(Nat.le_of_ble_eq_true rfl), (Nat.le_of_ble_eq_true rfl)⟩ rfl rfl md_E_runDownTo_24 (fun s4 => ?_)
        refine sp_iinc (pc := 27) (i := 2) (L' := [(2, Value.int (iI (x2 + 1))), (0, Value.ref x0), (1, Value.int (iI x1))]) hX 2 rfl (by decide) rfl md_E_runDownTo_27 ?_
        refine sp_goto (pc := 30) hX 2 (by decide) md_E_runDownTo_30 ?_
        refine sp_sub [1, 2, 0] (L' := [(0, Value.ref x0), (1, Value.int (iI x1)), (2, Value.int (iI (x2 + 1)))]) rfl ?_
        exact ih x0 x1 (x2 + 1) s4
set_option maxHeartbeats 4000000 in
set_option maxRecDepth 20000 in
theorem mc_E_runDownTo {l : Launch} {E : pw_E} {σ : pw_Sto} {x0 : Nat} {x1 : Int} {out : Unit × pw_Sto} (h : mf_E_runDownTo x0 x1 σ = some out) : pw_CV l E my_E_runDownTo prog_2_method_5_code 3 none mr_E_runDownTo [.ref x0, .int (iI x1)] σ out := by
  unfold mf_E_runDownTo at h
  refine pw_entryV (by decide) (Nat.le_of_ble_eq_true rfl) (pw_gd_val h) (fun X hX hR hI => ?_)
  change pw_Ok X prog_2_method_5_code "PadeWorkbench$Euclid" mr_E_runDownTo 3 at hX
  show pw_Sp X 0 0 0 [(0, Value.ref x0), (1, Value.int (iI x1))] [] σ _
  refine sp_iconst (pc := 0) hX md_E_runDownTo_0 ?_
  refine sp_istore_n (pc := 1) (k := 2) (i := 2) (L' := [(2, Value.int (iI (0 : Int))), (0, Value.ref x0), (1, Value.int (iI x1))]) hX rfl (by decide) rfl md_E_runDownTo_1 ?_
  refine sp_sub [1, 2, 0] (L' := [(0, Value.ref x0), (1, Value.int (iI x1)), (2, Value.int (iI (0 : Int)))]) rfl ?_
  exact sl_E_runDownTo_2 hX hR 1000 x0 x1 (0 : Int) σ
/-! PadeWorkbench$Fraction.take(LPadeWorkbench$Polynomial;LPadeWorkbench$Polynomial;)V -/
theorem md_R_take_0 : decode prog_4_method_2_code 0 = .ok (.aload_n 0, 1) := by decide +kernel
theorem md_R_take_1 : decode prog_4_method_2_code 1 = .ok (.getfield 12, 3) := by decide +kernel
theorem md_R_take_4 : decode prog_4_method_2_code 4 = .ok (.aload_n 1, 1) := by decide +kernel
theorem md_R_take_5 : decode prog_4_method_2_code 5 = .ok (.invokevirtual 21, 3) := by decide +kernel
theorem md_R_take_8 : decode prog_4_method_2_code 8 = .ok (.aload_n 0, 1) := by decide +kernel
theorem md_R_take_9 : decode prog_4_method_2_code 9 = .ok (.getfield 12, 3) := by decide +kernel
theorem md_R_take_12 : decode prog_4_method_2_code 12 = .ok (.getfield 25, 3) := by decide +kernel
theorem md_R_take_15 : decode prog_4_method_2_code 15 = .ok (.ifCond .ge 14, 3) := by decide +kernel
theorem md_R_take_29 : decode prog_4_method_2_code 29 = .ok (.aload_n 0, 1) := by decide +kernel
theorem md_R_take_30 : decode prog_4_method_2_code 30 = .ok (.getfield 18, 3) := by decide +kernel
theorem md_R_take_33 : decode prog_4_method_2_code 33 = .ok (.aload_n 2, 1) := by decide +kernel
theorem md_R_take_34 : decode prog_4_method_2_code 34 = .ok (.invokevirtual 21, 3) := by decide +kernel
theorem md_R_take_37 : decode prog_4_method_2_code 37 = .ok (.return_, 1) := by decide +kernel
theorem md_R_take_18 : decode prog_4_method_2_code 18 = .ok (.aload_n 0, 1) := by decide +kernel
theorem md_R_take_19 : decode prog_4_method_2_code 19 = .ok (.getfield 18, 3) := by decide +kernel
theorem md_R_take_22 : decode prog_4_method_2_code 22 = .ok (.iconst 0, 1) := by decide +kernel
theorem md_R_take_23 : decode prog_4_method_2_code 23 = .ok (.invokevirtual 29, 3) := by decide +kernel
theorem md_R_take_26 : decode prog_4_method_2_code 26 = .ok (.goto 11, 3) := by decide +kernel
def mf_R_take (x0 : Nat) (x1 : Nat) (x2 : Nat) (σ : pw_Sto) : Option (Unit × pw_Sto) := pw_gd 1 x0 σ ((pw_gr 1 x0 0 σ).bind (fun v1 => pw_bd (mf_P_copyFrom v1 x1 σ) (fun _ s2 => (pw_gr 1 x0 0 s2).bind (fun v3 => (pw_gi 4 v3 1 s2).bind (fun v4 => pw_ck v4 0 (if 0 ≤ v4 then (pw_gr 1 x0 1 s2).bind (fun v5 => pw_bd (mf_P_copyFrom v5 x2 s2) (fun _ s6 => some ((), s6))) else (pw_gr 1 x0 1 s2).bind (fun v7 => pw_bd (mf_P_becomePower v7 (0 : Int) s2) (fun _ s8 => some ((), s8)))))))))
set_option maxHeartbeats 4000000 in
set_option maxRecDepth 20000 in
theorem mc_R_take {l : Launch} {E : pw_E} {σ : pw_Sto} {x0 : Nat} {x1 : Nat} {x2 : Nat} {out : Unit × pw_Sto} (h : mf_R_take x0 x1 x2 σ = some out) : pw_CV l E my_R_take prog_4_method_2_code 3 none mr_R_take [.ref x0, .ref x1, .ref x2] σ out := by
  unfold mf_R_take at h
  refine pw_entryV (by decide) (Nat.le_of_ble_eq_true rfl) (pw_gd_val h) (fun X hX hR hI => ?_)
  change pw_Ok X prog_4_method_2_code "PadeWorkbench$Fraction" mr_R_take 3 at hX
  show pw_Sp X 0 0 0 [(0, Value.ref x0), (1, Value.ref x1), (2, Value.ref x2)] [] σ _
  refine sp_aload_n (pc := 0) (k := 0) (i := 0) hX rfl 0 rfl md_R_take_0 ?_
  refine sp_getR (pc := 1) (ci := 1) (k := 0) (idx := 12) hX mcl_1 (by decide) mq_230 rfl md_R_take_1 (fun v1 => ?_)
  refine sp_aload_n (pc := 4) (k := 1) (i := 1) hX rfl 1 rfl md_R_take_4 ?_
  refine sp_callVV (pc := 5) (y := my_P_copyFrom) (ccy := prog_7_method_5_code) (nLy := 2) (ret := none) (rmy := mr_P_copyFrom) (n := 1) (idx := 21) (As := [.ref x1]) (st := []) (o := v1) (cells' := 0) (slots' := 0) hX (fun _ h => mc_P_copyFrom h) mk_P_copyFrom mv_P_copyFrom mcl_4 (fun _ h => pw_gd_of h) mq_539 ⟨(Nat.le_of_ble_eq_true rfl), (Nat.le_of_ble_eq_true rfl)⟩ rfl rfl (Nat.le_of_ble_eq_true rfl) ⟨(Nat.le_of_ble_eq_true rfl), (Nat.le_of_ble_eq_true rfl)⟩ rfl rfl md_R_take_5 (fun s2 => ?_)
  refine sp_aload_n (pc := 8) (k := 0) (i := 0) hX rfl 0 rfl md_R_take_8 ?_
  refine sp_getR (pc := 9) (ci := 1) (k := 0) (idx := 12) hX mcl_1 (by decide) mq_230 rfl md_R_take_9 (fun v3 => ?_)
  refine sp_getIN (pc := 12) (ci := 4) (k := 1) (idx := 25) hX mcl_4 (by decide) mn_192 rfl md_R_take_12 (fun v4 => ?_)
  refine sp_if_ge (pc := 15) hX 29 (by decide) md_R_take_15 (fun _ => ?_) (fun _ => ?_)
  · refine sp_aload_n (pc := 29) (k := 0) (i := 0) hX rfl 0 rfl md_R_take_29 ?_
    refine sp_getR (pc := 30) (ci := 1) (k := 1) (idx := 18) hX mcl_1 (by decide) mq_232 rfl md_R_take_30 (fun v5 => ?_)
    refine sp_aload_n (pc := 33) (k := 2) (i := 2) hX rfl 2 rfl md_R_take_33 ?_
    refine sp_callVV (pc := 34) (y := my_P_copyFrom) (ccy := prog_7_method_5_code) (nLy := 2) (ret := none) (rmy := mr_P_copyFrom) (n := 1) (idx := 21) (As := [.ref x2]) (st := []) (o := v5) (cells' := 0) (slots' := 0) hX (fun _ h => mc_P_copyFrom h) mk_P_copyFrom mv_P_copyFrom mcl_4 (fun _ h => pw_gd_of h) mq_539 ⟨(Nat.le_of_ble_eq_true rfl), (Nat.le_of_ble_eq_true rfl)⟩ rfl rfl (Nat.le_of_ble_eq_true rfl) ⟨(Nat.le_of_ble_eq_true rfl), (Nat.le_of_ble_eq_true rfl)⟩ rfl rfl md_R_take_34 (fun s6 => ?_)
    exact sp_vret (pc := 37) hX hR rfl (Nat.le_of_ble_eq_true rfl) md_R_take_37
  · refine sp_aload_n (pc := 18) (k := 0) (i := 0) hX rfl 0 rfl md_R_take_18 ?_
    refine sp_getR (pc := 19) (ci := 1) (k := 1) (idx := 18) hX mcl_1 (by decide) mq_232 rfl md_R_take_19 (fun v7 => ?_)
    refine sp_iconst (pc := 22) hX md_R_take_22 ?_
    refine sp_callVV (pc := 23) (y := my_P_becomePower) (ccy := prog_7_method_3_code) (nLy := 2) (ret := none) (rmy := mr_P_becomePower) (n := 1) (idx := 29) (As := [.int (iI (0 : Int))]) (st := []) (o := v7) (cells' := 0) (slots' := 0) hX (fun _ h => mc_P_becomePower h) mk_P_becomePower mv_P_becomePower mcl_4 (fun _ h => pw_gd_of h) mq_544 ⟨(Nat.le_of_ble_eq_true rfl), (Nat.le_of_ble_eq_true rfl)⟩ rfl rfl (Nat.le_of_ble_eq_true rfl) ⟨(Nat.le_of_ble_eq_true rfl), (Nat.le_of_ble_eq_true rfl)⟩ rfl rfl md_R_take_23 (fun s8 => ?_)
    refine sp_goto (pc := 26) hX 37 (by decide) md_R_take_26 ?_
    exact sp_vret (pc := 37) hX hR rfl (Nat.le_of_ble_eq_true rfl) md_R_take_37
/-! PadeWorkbench$Fraction.cancelRoot(II)V -/
theorem md_R_cancelRoot_0 : decode prog_4_method_3_code 0 = .ok (.iconst 0, 1) := by decide +kernel
theorem md_R_cancelRoot_1 : decode prog_4_method_3_code 1 = .ok (.istore_n 3, 1) := by decide +kernel
theorem md_R_cancelRoot_2 : decode prog_4_method_3_code 2 = .ok (.iload_n 3, 1) := by decide +kernel
theorem md_R_cancelRoot_3 : decode prog_4_method_3_code 3 = .ok (.bipush 17, 2) := by decide +kernel
theorem md_R_cancelRoot_5 : decode prog_4_method_3_code 5 = .ok (.if_icmp .ge 52, 3) := by decide +kernel
theorem md_R_cancelRoot_57 : decode prog_4_method_3_code 57 = .ok (.return_, 1) := by decide +kernel
theorem md_R_cancelRoot_8 : decode prog_4_method_3_code 8 = .ok (.aload_n 0, 1) := by decide +kernel
theorem md_R_cancelRoot_9 : decode prog_4_method_3_code 9 = .ok (.getfield 12, 3) := by decide +kernel
theorem md_R_cancelRoot_12 : decode prog_4_method_3_code 12 = .ok (.iload_n 1, 1) := by decide +kernel
theorem md_R_cancelRoot_13 : decode prog_4_method_3_code 13 = .ok (.iload_n 2, 1) := by decide +kernel
theorem md_R_cancelRoot_14 : decode prog_4_method_3_code 14 = .ok (.invokevirtual 33, 3) := by decide +kernel
theorem md_R_cancelRoot_17 : decode prog_4_method_3_code 17 = .ok (.ifCond .ne 15, 3) := by decide +kernel
theorem md_R_cancelRoot_32 : decode prog_4_method_3_code 32 = .ok (.return_, 1) := by decide +kernel
theorem md_R_cancelRoot_20 : decode prog_4_method_3_code 20 = .ok (.aload_n 0, 1) := by decide +kernel
theorem md_R_cancelRoot_21 : decode prog_4_method_3_code 21 = .ok (.getfield 18, 3) := by decide +kernel
theorem md_R_cancelRoot_24 : decode prog_4_method_3_code 24 = .ok (.iload_n 1, 1) := by decide +kernel
theorem md_R_cancelRoot_25 : decode prog_4_method_3_code 25 = .ok (.iload_n 2, 1) := by decide +kernel
theorem md_R_cancelRoot_26 : decode prog_4_method_3_code 26 = .ok (.invokevirtual 33, 3) := by decide +kernel
theorem md_R_cancelRoot_29 : decode prog_4_method_3_code 29 = .ok (.ifCond .eq 4, 3) := by decide +kernel
theorem md_R_cancelRoot_33 : decode prog_4_method_3_code 33 = .ok (.aload_n 0, 1) := by decide +kernel
theorem md_R_cancelRoot_34 : decode prog_4_method_3_code 34 = .ok (.getfield 12, 3) := by decide +kernel
theorem md_R_cancelRoot_37 : decode prog_4_method_3_code 37 = .ok (.iload_n 1, 1) := by decide +kernel
theorem md_R_cancelRoot_38 : decode prog_4_method_3_code 38 = .ok (.iload_n 2, 1) := by decide +kernel
theorem md_R_cancelRoot_39 : decode prog_4_method_3_code 39 = .ok (.invokevirtual 37, 3) := by decide +kernel
theorem md_R_cancelRoot_42 : decode prog_4_method_3_code 42 = .ok (.aload_n 0, 1) := by decide +kernel
theorem md_R_cancelRoot_43 : decode prog_4_method_3_code 43 = .ok (.getfield 18, 3) := by decide +kernel
theorem md_R_cancelRoot_46 : decode prog_4_method_3_code 46 = .ok (.iload_n 1, 1) := by decide +kernel
theorem md_R_cancelRoot_47 : decode prog_4_method_3_code 47 = .ok (.iload_n 2, 1) := by decide +kernel
theorem md_R_cancelRoot_48 : decode prog_4_method_3_code 48 = .ok (.invokevirtual 37, 3) := by decide +kernel
theorem md_R_cancelRoot_51 : decode prog_4_method_3_code 51 = .ok (.iinc 3 1, 3) := by decide +kernel
theorem md_R_cancelRoot_54 : decode prog_4_method_3_code 54 = .ok (.goto (-52), 3) := by decide +kernel
def mb_R_cancelRoot_2 (rc : Nat → Int → Int → Int → pw_Sto → Option (Unit × pw_Sto)) : Nat → Int → Int → Int → pw_Sto → Option (Unit × pw_Sto) := fun x0 x1 x2 x3 σ => pw_ck x3 (17 : Int) (if (17 : Int) ≤ x3 then some ((), σ) else (pw_gr 1 x0 0 σ).bind (fun v1 => pw_bd (mf_P_valueAt v1 x1 x2 σ) (fun v3 s2 => pw_ck v3 0 (if v3 = 0 then (pw_gr 1 x0 1 s2).bind (fun v4 => pw_bd (mf_P_valueAt v4 x1 x2 s2) (fun v6 s5 => pw_ck v6 0 (if v6 = 0 then (pw_gr 1 x0 0 s5).bind (fun v7 => pw_bd (mf_P_divideByRoot v7 x1 x2 s5) (fun _ s8 => (pw_gr 1 x0 1 s8).bind (fun v9 => pw_bd (mf_P_divideByRoot v9 x1 x2 s8) (fun _ s10 => rc x0 x1 x2 (x3 + 1) s10)))) else some ((), s5)))) else some ((), s2)))))
def ml_R_cancelRoot_2 : Nat → Nat → Int → Int → Int → pw_Sto → Option (Unit × pw_Sto) := pw_lp (fun _ _ _ _ _ => none) (mb_R_cancelRoot_2)
def mf_R_cancelRoot (x0 : Nat) (x1 : Int) (x2 : Int) (σ : pw_Sto) : Option (Unit × pw_Sto) := pw_gd 1 x0 σ (ml_R_cancelRoot_2 1000 x0 x1 x2 (0 : Int) σ)
set_option maxHeartbeats 4000000 in
set_option maxRecDepth 20000 in
theorem sl_R_cancelRoot_2 {X : pw_X Unit} (hX : pw_Ok X prog_4_method_3_code "PadeWorkbench$Fraction" mr_R_cancelRoot 4) (hR : pw_RV X prog_4_method_3_code) : ∀ (n : Nat) (x0 : Nat) (x1 : Int) (x2 : Int) (x3 : Int) (σ : pw_Sto), pw_Sp X 0 0 2 [(0, Value.ref x0), (1, Value.int (iI x1)), (2, Value.int (iI x2)), (3, Value.int (iI x3))] [] σ (ml_R_cancelRoot_2 n x0 x1 x2 x3 σ) := by
  intro n
  induction n with
  | zero => intros; exact pw_none
  | succ n ih =>
    intro x0 x1 x2 x3 σ
    show pw_Sp X 0 0 2 _ _ σ (mb_R_cancelRoot_2 (ml_R_cancelRoot_2 n) x0 x1 x2 x3 σ)
    unfold mb_R_cancelRoot_2
    refine sp_iload_n (pc := 2) (k := 3) (i := 3) hX rfl 3 rfl md_R_cancelRoot_2 ?_
    refine sp_bipush (pc := 3) hX (by decide) md_R_cancelRoot_3 ?_
    refine sp_icmp_ge (pc := 5) hX 57 (by decide) md_R_cancelRoot_5 (fun _ => ?_) (fun _ => ?_)
    · exact sp_vret (pc := 57) hX hR rfl (Nat.le_of_ble_eq_true rfl) md_R_cancelRoot_57
    · refine sp_aload_n (pc := 8) (k := 0) (i := 0) hX rfl 0 rfl md_R_cancelRoot_8 ?_
      refine sp_getR (pc := 9) (ci := 1) (k := 0) (idx := 12) hX mcl_1 (by decide) mq_230 rfl md_R_cancelRoot_9 (fun v1 => ?_)
      refine sp_iload_n (pc := 12) (k := 1) (i := 1) hX rfl 1 rfl md_R_cancelRoot_12 ?_
      refine sp_iload_n (pc := 13) (k := 2) (i := 2) hX rfl 2 rfl md_R_cancelRoot_13 ?_
      refine sp_callVI (pc := 14) (y := my_P_valueAt) (ccy := prog_7_method_7_code) (nLy := 5) (ret := (some .int)) (rmy := mr_P_valueAt) (n := 2) (idx := 33) (As := [.int (iI x1), .int (iI x2)]) (st := []) (o := v1) (cells' := 0) (slots' := 0) hX (fun _ h => mc_P_valueAt h) mk_P_valueAt mv_P_valueAt mcl_4 (fun _ h => pw_gd_of h) mq_549 ⟨(Nat.le_of_ble_eq_true rfl), (Nat.le_of_ble_eq_true rfl)⟩ rfl rfl (Nat.le_of_ble_eq_true rfl) ⟨(Nat.le_of_ble_eq_true rfl), (Nat.le_of_ble_eq_true rfl)⟩ rfl rfl md_R_cancelRoot_14 (fun v3 s2 => ?_)
      refine sp_if_ne (pc := 17) hX 32 (by decide) md_R_cancelRoot_17 (fun _ => ?_) (fun _ => ?_)
      · refine sp_aload_n (pc := 20) (k := 0) (i := 0) hX rfl 0 rfl md_R_cancelRoot_20 ?_
        refine sp_getR (pc := 21) (ci := 1) (k := 1) (idx := 18) hX mcl_1 (by decide) mq_232 rfl md_R_cancelRoot_21 (fun v4 => ?_)
        refine sp_iload_n (pc := 24) (k := 1) (i := 1) hX rfl 1 rfl md_R_cancelRoot_24 ?_
        refine sp_iload_n (pc := 25) (k := 2) (i := 2) hX rfl 2 rfl md_R_cancelRoot_25 ?_
        refine sp_callVI (pc := 26) (y := my_P_valueAt) (ccy := prog_7_method_7_code) (nLy := 5) (ret := (some .int)) (rmy := mr_P_valueAt) (n := 2) (idx := 33) (As := [.int (iI x1), .int (iI x2)]) (st := []) (o := v4) (cells' := 0) (slots' := 0) hX (fun _ h => mc_P_valueAt h) mk_P_valueAt mv_P_valueAt mcl_4 (fun _ h => pw_gd_of h) mq_549 ⟨(Nat.le_of_ble_eq_true rfl), (Nat.le_of_ble_eq_true rfl)⟩ rfl rfl (Nat.le_of_ble_eq_true rfl) ⟨(Nat.le_of_ble_eq_true rfl), (Nat.le_of_ble_eq_true rfl)⟩ rfl rfl md_R_cancelRoot_26 (fun v6 s5 => ?_)
        refine sp_if_eq (pc := 29) hX 33 (by decide) md_R_cancelRoot_29 (fun _ => ?_) (fun _ => ?_)
        · refine sp_aload_n (pc := 33) (k := 0) (i := 0) hX rfl 0 rfl md_R_cancelRoot_33 ?_
          refine sp_getR (pc := 34) (ci := 1) (k := 0) (idx := 12) hX mcl_1 (by decide) mq_230 rfl md_R_cancelRoot_34 (fun v7 => ?_)
          refine sp_iload_n (pc := 37) (k := 1) (i := 1) hX rfl 1 rfl md_R_cancelRoot_37 ?_
          refine sp_iload_n (pc := 38) (k := 2) (i := 2) hX rfl 2 rfl md_R_cancelRoot_38 ?_
          refine sp_callVV (pc := 39) (y := my_P_divideByRoot) (ccy := prog_7_method_11_code) (nLy := 6) (ret := none) (rmy := mr_P_divideByRoot) (n := 2) (idx := 37) (As := [.int (iI x1), .int (iI x2)]) (st := []) (o := v7) (cells' := 0) (slots' := 0) hX (fun _ h => mc_P_divideByRoot h) mk_P_divideByRoot mv_P_divideByRoot mcl_4 (fun _ h => pw_gd_of h) mq_553 ⟨(Nat.le_of_ble_eq_true rfl), (Nat.le_of_ble_eq_true rfl)⟩ rfl rfl (Nat.le_of_ble_eq_true rfl) ⟨(Nat.le_of_ble_eq_true rfl), (Nat.le_of_ble_eq_true rfl)⟩ rfl rfl md_R_cancelRoot_39 (fun s8 => ?_)
          refine sp_aload_n (pc := 42) (k := 0) (i := 0) hX rfl 0 rfl md_R_cancelRoot_42 ?_
          refine sp_getR (pc := 43) (ci := 1) (k := 1) (idx := 18) hX mcl_1 (by decide) mq_232 rfl md_R_cancelRoot_43 (fun v9 => ?_)
          refine sp_iload_n (pc := 46) (k := 1) (i := 1) hX rfl 1 rfl md_R_cancelRoot_46 ?_
          refine sp_iload_n (pc := 47) (k := 2) (i := 2) hX rfl 2 rfl md_R_cancelRoot_47 ?_
          refine sp_callVV (pc := 48) (y := my_P_divideByRoot) (ccy := prog_7_method_11_code) (nLy := 6) (ret := none) (rmy := mr_P_divideByRoot) (n := 2) (idx := 37) (As := [.int (iI x1), .int (iI x2)]) (st := []) (o := v9) (cells' := 0) (slots' := 0) hX (fun _ h => mc_P_divideByRoot h) mk_P_divideByRoot mv_P_divideByRoot mcl_4 (fun _ h => pw_gd_of h) mq_553 ⟨(Nat.le_of_ble_eq_true rfl), (Nat.le_of_ble_eq_true rfl)⟩ rfl rfl (Nat.le_of_ble_eq_true rfl) ⟨(Nat.le_of_ble_eq_true rfl), (Nat.le_of_ble_eq_true rfl)⟩ rfl rfl md_R_cancelRoot_48 (fun s10 => ?_)
          refine sp_iinc (pc := 51) (i := 3) (L' := [(3, Value.int (iI (x3 + 1))), (0, Value.ref x0), (1, Value.int (iI x1)), (2, Value.int (iI x2))]) hX 3 rfl (by decide) rfl md_R_cancelRoot_51 ?_
          refine sp_goto (pc := 54) hX 2 (by decide) md_R_cancelRoot_54 ?_
          refine sp_sub [1, 2, 3, 0] (L' := [(0, Value.ref x0), (1, Value.int (iI x1)), (2, Value.int (iI x2)), (3, Value.int (iI (x3 + 1)))]) rfl ?_
          exact ih x0 x1 x2 (x3 + 1) s10
        · exact sp_vret (pc := 32) hX hR rfl (Nat.le_of_ble_eq_true rfl) md_R_cancelRoot_32
      · exact sp_vret (pc := 32) hX hR rfl (Nat.le_of_ble_eq_true rfl) md_R_cancelRoot_32
set_option maxHeartbeats 4000000 in
set_option maxRecDepth 20000 in
theorem mc_R_cancelRoot {l : Launch} {E : pw_E} {σ : pw_Sto} {x0 : Nat} {x1 : Int} {x2 : Int} {out : Unit × pw_Sto} (h : mf_R_cancelRoot x0 x1 x2 σ = some out) : pw_CV l E my_R_cancelRoot prog_4_method_3_code 4 none mr_R_cancelRoot [.ref x0, .int (iI x1), .int (iI x2)] σ out := by
  unfold mf_R_cancelRoot at h
  refine pw_entryV (by decide) (Nat.le_of_ble_eq_true rfl) (pw_gd_val h) (fun X hX hR hI => ?_)
  change pw_Ok X prog_4_method_3_code "PadeWorkbench$Fraction" mr_R_cancelRoot 4 at hX
  show pw_Sp X 0 0 0 [(0, Value.ref x0), (1, Value.int (iI x1)), (2, Value.int (iI x2))] [] σ _
  refine sp_iconst (pc := 0) hX md_R_cancelRoot_0 ?_
  refine sp_istore_n (pc := 1) (k := 3) (i := 3) (L' := [(3, Value.int (iI (0 : Int))), (0, Value.ref x0), (1, Value.int (iI x1)), (2, Value.int (iI x2))]) hX rfl (by decide) rfl md_R_cancelRoot_1 ?_
  refine sp_sub [1, 2, 3, 0] (L' := [(0, Value.ref x0), (1, Value.int (iI x1)), (2, Value.int (iI x2)), (3, Value.int (iI (0 : Int)))]) rfl ?_
  exact sl_R_cancelRoot_2 hX hR 1000 x0 x1 x2 (0 : Int) σ
/-! PadeWorkbench$Fraction.scale(I)V -/
theorem md_R_scale_0 : decode prog_4_method_4_code 0 = .ok (.aload_n 0, 1) := by decide +kernel
theorem md_R_scale_1 : decode prog_4_method_4_code 1 = .ok (.getfield 18, 3) := by decide +kernel
theorem md_R_scale_4 : decode prog_4_method_4_code 4 = .ok (.invokevirtual 41, 3) := by decide +kernel
theorem md_R_scale_7 : decode prog_4_method_4_code 7 = .ok (.iload_n 1, 1) := by decide +kernel
theorem md_R_scale_8 : decode prog_4_method_4_code 8 = .ok (.invokestatic 45, 3) := by decide +kernel
theorem md_R_scale_11 : decode prog_4_method_4_code 11 = .ok (.istore_n 2, 1) := by decide +kernel
theorem md_R_scale_12 : decode prog_4_method_4_code 12 = .ok (.aload_n 0, 1) := by decide +kernel
theorem md_R_scale_13 : decode prog_4_method_4_code 13 = .ok (.getfield 12, 3) := by decide +kernel
theorem md_R_scale_16 : decode prog_4_method_4_code 16 = .ok (.iload_n 2, 1) := by decide +kernel
theorem md_R_scale_17 : decode prog_4_method_4_code 17 = .ok (.iload_n 1, 1) := by decide +kernel
theorem md_R_scale_18 : decode prog_4_method_4_code 18 = .ok (.invokevirtual 50, 3) := by decide +kernel
theorem md_R_scale_21 : decode prog_4_method_4_code 21 = .ok (.aload_n 0, 1) := by decide +kernel
theorem md_R_scale_22 : decode prog_4_method_4_code 22 = .ok (.getfield 18, 3) := by decide +kernel
theorem md_R_scale_25 : decode prog_4_method_4_code 25 = .ok (.iload_n 2, 1) := by decide +kernel
theorem md_R_scale_26 : decode prog_4_method_4_code 26 = .ok (.iload_n 1, 1) := by decide +kernel
theorem md_R_scale_27 : decode prog_4_method_4_code 27 = .ok (.invokevirtual 50, 3) := by decide +kernel
theorem md_R_scale_30 : decode prog_4_method_4_code 30 = .ok (.return_, 1) := by decide +kernel
def mf_R_scale (x0 : Nat) (x1 : Int) (σ : pw_Sto) : Option (Unit × pw_Sto) := pw_gd 1 x0 σ ((pw_gr 1 x0 1 σ).bind (fun v1 => pw_bd (mf_P_lowest v1 σ) (fun v3 s2 => pw_bd (mf_K_inverse v3 x1 s2) (fun v5 s4 => (pw_gr 1 x0 0 s4).bind (fun v6 => pw_bd (mf_P_scaleBy v6 v5 x1 s4) (fun _ s7 => (pw_gr 1 x0 1 s7).bind (fun v8 => pw_bd (mf_P_scaleBy v8 v5 x1 s7) (fun _ s9 => some ((), s9)))))))))
set_option maxHeartbeats 4000000 in
set_option maxRecDepth 20000 in
theorem mc_R_scale {l : Launch} {E : pw_E} {σ : pw_Sto} {x0 : Nat} {x1 : Int} {out : Unit × pw_Sto} (h : mf_R_scale x0 x1 σ = some out) : pw_CV l E my_R_scale prog_4_method_4_code 3 none mr_R_scale [.ref x0, .int (iI x1)] σ out := by
  unfold mf_R_scale at h
  refine pw_entryV (by decide) (Nat.le_of_ble_eq_true rfl) (pw_gd_val h) (fun X hX hR hI => ?_)
  change pw_Ok X prog_4_method_4_code "PadeWorkbench$Fraction" mr_R_scale 3 at hX
  show pw_Sp X 0 0 0 [(0, Value.ref x0), (1, Value.int (iI x1))] [] σ _
  refine sp_aload_n (pc := 0) (k := 0) (i := 0) hX rfl 0 rfl md_R_scale_0 ?_
  refine sp_getR (pc := 1) (ci := 1) (k := 1) (idx := 18) hX mcl_1 (by decide) mq_232 rfl md_R_scale_1 (fun v1 => ?_)
  refine sp_callVI (pc := 4) (y := my_P_lowest) (ccy := prog_7_method_12_code) (nLy := 2) (ret := (some .int)) (rmy := mr_P_lowest) (n := 0) (idx := 41) (As := []) (st := []) (o := v1) (cells' := 0) (slots' := 0) hX (fun _ h => mc_P_lowest h) mk_P_lowest mv_P_lowest mcl_4 (fun _ h => pw_gd_of h) mq_561 ⟨(Nat.le_of_ble_eq_true rfl), (Nat.le_of_ble_eq_true rfl)⟩ rfl rfl (Nat.le_of_ble_eq_true rfl) ⟨(Nat.le_of_ble_eq_true rfl), (Nat.le_of_ble_eq_true rfl)⟩ rfl rfl md_R_scale_4 (fun v3 s2 => ?_)
  refine sp_iload_n (pc := 7) (k := 1) (i := 1) hX rfl 1 rfl md_R_scale_7 ?_
  refine sp_callSI (pc := 8) (y := my_K_inverse) (ccy := prog_3_method_5_code) (nLy := 5) (ret := (some .int)) (rmy := mr_K_inverse) (n := 2) (idx := 45) (As := [.int (iI v3), .int (iI x1)]) (st := []) (cells' := 0) (slots' := 0) hX (fun _ h => mc_K_inverse h) mk_K_inverse mq_398 mq_565 ⟨(Nat.le_of_ble_eq_true rfl), (Nat.le_of_ble_eq_true rfl)⟩ rfl rfl (Nat.le_of_ble_eq_true rfl) ⟨(Nat.le_of_ble_eq_true rfl), (Nat.le_of_ble_eq_true rfl)⟩ rfl rfl md_R_scale_8 (fun v5 s4 => ?_)
  refine sp_istore_n (pc := 11) (k := 2) (i := 2) (L' := [(2, Value.int (iI v5)), (0, Value.ref x0), (1, Value.int (iI x1))]) hX rfl (by decide) rfl md_R_scale_11 ?_
  refine sp_aload_n (pc := 12) (k := 0) (i := 0) hX rfl 1 rfl md_R_scale_12 ?_
  refine sp_getR (pc := 13) (ci := 1) (k := 0) (idx := 12) hX mcl_1 (by decide) mq_230 rfl md_R_scale_13 (fun v6 => ?_)
  refine sp_iload_n (pc := 16) (k := 2) (i := 2) hX rfl 0 rfl md_R_scale_16 ?_
  refine sp_iload_n (pc := 17) (k := 1) (i := 1) hX rfl 2 rfl md_R_scale_17 ?_
  refine sp_callVV (pc := 18) (y := my_P_scaleBy) (ccy := prog_7_method_9_code) (nLy := 4) (ret := none) (rmy := mr_P_scaleBy) (n := 2) (idx := 50) (As := [.int (iI v5), .int (iI x1)]) (st := []) (o := v6) (cells' := 0) (slots' := 0) hX (fun _ h => mc_P_scaleBy h) mk_P_scaleBy mv_P_scaleBy mcl_4 (fun _ h => pw_gd_of h) mq_566 ⟨(Nat.le_of_ble_eq_true rfl), (Nat.le_of_ble_eq_true rfl)⟩ rfl rfl (Nat.le_of_ble_eq_true rfl) ⟨(Nat.le_of_ble_eq_true rfl), (Nat.le_of_ble_eq_true rfl)⟩ rfl rfl md_R_scale_18 (fun s7 => ?_)
  refine sp_aload_n (pc := 21) (k := 0) (i := 0) hX rfl 1 rfl md_R_scale_21 ?_
  refine sp_getR (pc := 22) (ci := 1) (k := 1) (idx := 18) hX mcl_1 (by decide) mq_232 rfl md_R_scale_22 (fun v8 => ?_)
  refine sp_iload_n (pc := 25) (k := 2) (i := 2) hX rfl 0 rfl md_R_scale_25 ?_
  refine sp_iload_n (pc := 26) (k := 1) (i := 1) hX rfl 2 rfl md_R_scale_26 ?_
  refine sp_callVV (pc := 27) (y := my_P_scaleBy) (ccy := prog_7_method_9_code) (nLy := 4) (ret := none) (rmy := mr_P_scaleBy) (n := 2) (idx := 50) (As := [.int (iI v5), .int (iI x1)]) (st := []) (o := v8) (cells' := 0) (slots' := 0) hX (fun _ h => mc_P_scaleBy h) mk_P_scaleBy mv_P_scaleBy mcl_4 (fun _ h => pw_gd_of h) mq_566 ⟨(Nat.le_of_ble_eq_true rfl), (Nat.le_of_ble_eq_true rfl)⟩ rfl rfl (Nat.le_of_ble_eq_true rfl) ⟨(Nat.le_of_ble_eq_true rfl), (Nat.le_of_ble_eq_true rfl)⟩ rfl rfl md_R_scale_27 (fun s9 => ?_)
  exact sp_vret (pc := 30) hX hR rfl (Nat.le_of_ble_eq_true rfl) md_R_scale_30
/-! PadeWorkbench$Fraction.agreement([II)I -/
theorem md_R_agreement_0 : decode prog_4_method_5_code 0 = .ok (.iconst 0, 1) := by decide +kernel
theorem md_R_agreement_1 : decode prog_4_method_5_code 1 = .ok (.istore_n 3, 1) := by decide +kernel
theorem md_R_agreement_2 : decode prog_4_method_5_code 2 = .ok (.iload_n 3, 1) := by decide +kernel
theorem md_R_agreement_3 : decode prog_4_method_5_code 3 = .ok (.bipush 16, 2) := by decide +kernel
theorem md_R_agreement_5 : decode prog_4_method_5_code 5 = .ok (.if_icmp .ge 81, 3) := by decide +kernel
theorem md_R_agreement_86 : decode prog_4_method_5_code 86 = .ok (.bipush 16, 2) := by decide +kernel
theorem md_R_agreement_88 : decode prog_4_method_5_code 88 = .ok (.ireturn, 1) := by decide +kernel
theorem md_R_agreement_8 : decode prog_4_method_5_code 8 = .ok (.iconst 0, 1) := by decide +kernel
theorem md_R_agreement_9 : decode prog_4_method_5_code 9 = .ok (.istore 4, 2) := by decide +kernel
theorem md_R_agreement_11 : decode prog_4_method_5_code 11 = .ok (.iconst 0, 1) := by decide +kernel
theorem md_R_agreement_12 : decode prog_4_method_5_code 12 = .ok (.istore 5, 2) := by decide +kernel
theorem md_R_agreement_14 : decode prog_4_method_5_code 14 = .ok (.iload 5, 2) := by decide +kernel
theorem md_R_agreement_16 : decode prog_4_method_5_code 16 = .ok (.iload_n 3, 1) := by decide +kernel
theorem md_R_agreement_17 : decode prog_4_method_5_code 17 = .ok (.if_icmp .gt 43, 3) := by decide +kernel
theorem md_R_agreement_60 : decode prog_4_method_5_code 60 = .ok (.iload 4, 2) := by decide +kernel
theorem md_R_agreement_62 : decode prog_4_method_5_code 62 = .ok (.iload_n 2, 1) := by decide +kernel
theorem md_R_agreement_63 : decode prog_4_method_5_code 63 = .ok (.invokestatic 57, 3) := by decide +kernel
theorem md_R_agreement_66 : decode prog_4_method_5_code 66 = .ok (.aload_n 0, 1) := by decide +kernel
theorem md_R_agreement_67 : decode prog_4_method_5_code 67 = .ok (.getfield 12, 3) := by decide +kernel
theorem md_R_agreement_70 : decode prog_4_method_5_code 70 = .ok (.getfield 53, 3) := by decide +kernel
theorem md_R_agreement_73 : decode prog_4_method_5_code 73 = .ok (.iload_n 3, 1) := by decide +kernel
theorem md_R_agreement_74 : decode prog_4_method_5_code 74 = .ok (.iaload, 1) := by decide +kernel
theorem md_R_agreement_75 : decode prog_4_method_5_code 75 = .ok (.if_icmp .eq 5, 3) := by decide +kernel
theorem md_R_agreement_80 : decode prog_4_method_5_code 80 = .ok (.iinc 3 1, 3) := by decide +kernel
theorem md_R_agreement_83 : decode prog_4_method_5_code 83 = .ok (.goto (-81), 3) := by decide +kernel
theorem md_R_agreement_78 : decode prog_4_method_5_code 78 = .ok (.iload_n 3, 1) := by decide +kernel
theorem md_R_agreement_79 : decode prog_4_method_5_code 79 = .ok (.ireturn, 1) := by decide +kernel
theorem md_R_agreement_20 : decode prog_4_method_5_code 20 = .ok (.iload 5, 2) := by decide +kernel
theorem md_R_agreement_22 : decode prog_4_method_5_code 22 = .ok (.aload_n 0, 1) := by decide +kernel
theorem md_R_agreement_23 : decode prog_4_method_5_code 23 = .ok (.getfield 18, 3) := by decide +kernel
theorem md_R_agreement_26 : decode prog_4_method_5_code 26 = .ok (.getfield 25, 3) := by decide +kernel
theorem md_R_agreement_29 : decode prog_4_method_5_code 29 = .ok (.if_icmp .gt 31, 3) := by decide +kernel
theorem md_R_agreement_32 : decode prog_4_method_5_code 32 = .ok (.iload 4, 2) := by decide +kernel
theorem md_R_agreement_34 : decode prog_4_method_5_code 34 = .ok (.aload_n 0, 1) := by decide +kernel
theorem md_R_agreement_35 : decode prog_4_method_5_code 35 = .ok (.getfield 18, 3) := by decide +kernel
theorem md_R_agreement_38 : decode prog_4_method_5_code 38 = .ok (.getfield 53, 3) := by decide +kernel
theorem md_R_agreement_41 : decode prog_4_method_5_code 41 = .ok (.iload 5, 2) := by decide +kernel
theorem md_R_agreement_43 : decode prog_4_method_5_code 43 = .ok (.iaload, 1) := by decide +kernel
theorem md_R_agreement_44 : decode prog_4_method_5_code 44 = .ok (.aload_n 1, 1) := by decide +kernel
theorem md_R_agreement_45 : decode prog_4_method_5_code 45 = .ok (.iload_n 3, 1) := by decide +kernel
theorem md_R_agreement_46 : decode prog_4_method_5_code 46 = .ok (.iload 5, 2) := by decide +kernel
theorem md_R_agreement_48 : decode prog_4_method_5_code 48 = .ok (.isub, 1) := by decide +kernel
theorem md_R_agreement_49 : decode prog_4_method_5_code 49 = .ok (.iaload, 1) := by decide +kernel
theorem md_R_agreement_50 : decode prog_4_method_5_code 50 = .ok (.imul, 1) := by decide +kernel
theorem md_R_agreement_51 : decode prog_4_method_5_code 51 = .ok (.iadd, 1) := by decide +kernel
theorem md_R_agreement_52 : decode prog_4_method_5_code 52 = .ok (.istore 4, 2) := by decide +kernel
theorem md_R_agreement_54 : decode prog_4_method_5_code 54 = .ok (.iinc 5 1, 3) := by decide +kernel
theorem md_R_agreement_57 : decode prog_4_method_5_code 57 = .ok (.goto (-43), 3) := by decide +kernel
def mj_R_agreement_60 (r2 : Nat → Nat → Int → Int → pw_Sto → Option (Int × pw_Sto)) (x0 : Nat) (x1 : Nat) (x2 : Int) (x3 : Int) (x4 : Int) (σ : pw_Sto) : Option (Int × pw_Sto) := pw_bd (mf_K_reduce x4 x2 σ) (fun v2 s1 => (pw_gr 1 x0 0 s1).bind (fun v3 => (pw_gr 4 v3 0 s1).bind (fun v4 => (pw_ai v4 x3 s1).bind (fun v5 => pw_ck v2 v5 (if v2 = v5 then r2 x0 x1 x2 (x3 + 1) s1 else some (x3, s1))))))
def mb_R_agreement_14 (r2 : Nat → Nat → Int → Int → pw_Sto → Option (Int × pw_Sto)) (rc : Nat → Nat → Int → Int → Int → Int → pw_Sto → Option (Int × pw_Sto)) : Nat → Nat → Int → Int → Int → Int → pw_Sto → Option (Int × pw_Sto) := fun x0 x1 x2 x3 x4 x5 σ => pw_ck x5 x3 (if x3 < x5 then mj_R_agreement_60 r2 x0 x1 x2 x3 x4 σ else (pw_gr 1 x0 1 σ).bind (fun v6 => (pw_gi 4 v6 1 σ).bind (fun v7 => pw_ck x5 v7 (if v7 < x5 then mj_R_agreement_60 r2 x0 x1 x2 x3 x4 σ else (pw_gr 1 x0 1 σ).bind (fun v8 => (pw_gr 4 v8 0 σ).bind (fun v9 => (pw_ai v9 x5 σ).bind (fun v10 => (pw_ai x1 (x3 - x5) σ).bind (fun v11 => rc x0 x1 x2 x3 (x4 + (v10 * v11)) (x5 + 1) σ))))))))
def ml_R_agreement_14 (r2 : Nat → Nat → Int → Int → pw_Sto → Option (Int × pw_Sto)) : Nat → Nat → Nat → Int → Int → Int → Int → pw_Sto → Option (Int × pw_Sto) := pw_lp (fun _ _ _ _ _ _ _ => none) (mb_R_agreement_14 r2)
def mb_R_agreement_2 (rc : Nat → Nat → Int → Int → pw_Sto → Option (Int × pw_Sto)) : Nat → Nat → Int → Int → pw_Sto → Option (Int × pw_Sto) := fun x0 x1 x2 x3 σ => pw_ck x3 (16 : Int) (if (16 : Int) ≤ x3 then some ((16 : Int), σ) else ml_R_agreement_14 rc 1000 x0 x1 x2 x3 (0 : Int) (0 : Int) σ)
def ml_R_agreement_2 : Nat → Nat → Nat → Int → Int → pw_Sto → Option (Int × pw_Sto) := pw_lp (fun _ _ _ _ _ => none) (mb_R_agreement_2)
def mf_R_agreement (x0 : Nat) (x1 : Nat) (x2 : Int) (σ : pw_Sto) : Option (Int × pw_Sto) := pw_gd 1 x0 σ (ml_R_agreement_2 1000 x0 x1 x2 (0 : Int) σ)
set_option maxHeartbeats 4000000 in
set_option maxRecDepth 20000 in
theorem sj_R_agreement_60 {X : pw_X Int} (hX : pw_Ok X prog_4_method_5_code "PadeWorkbench$Fraction" mr_R_agreement 6) (hR : pw_RI X prog_4_method_5_code) {r2 : Nat → Nat → Int → Int → pw_Sto → Option (Int × pw_Sto)} (h2 : ∀ (z0 : Nat) (z1 : Nat) (z2 : Int) (z3 : Int) (σ : pw_Sto), pw_Sp X 0 0 2 [(0, Value.ref z0), (1, Value.ref z1), (2, Value.int (iI z2)), (3, Value.int (iI z3))] [] σ (r2 z0 z1 z2 z3 σ)) (x0 : Nat) (x1 : Nat) (x2 : Int) (x3 : Int) (x4 : Int) (σ : pw_Sto) : pw_Sp X 0 0 60 [(0, Value.ref x0), (1, Value.ref x1), (2, Value.int (iI x2)), (3, Value.int (iI x3)), (4, Value.int (iI x4))] [] σ (mj_R_agreement_60 r2 x0 x1 x2 x3 x4 σ) := by
  unfold mj_R_agreement_60
  refine sp_iload (pc := 60) (i := 4) hX 4 rfl md_R_agreement_60 ?_
  refine sp_iload_n (pc := 62) (k := 2) (i := 2) hX rfl 2 rfl md_R_agreement_62 ?_
  refine sp_callSI (pc := 63) (y := my_K_reduce) (ccy := prog_3_method_2_code) (nLy := 2) (ret := (some .int)) (rmy := mr_K_reduce) (n := 2) (idx := 57) (As := [.int (iI x4), .int (iI x2)]) (st := []) (cells' := 0) (slots' := 0) hX (fun _ h => mc_K_reduce h) mk_K_reduce mq_373 mq_591 ⟨(Nat.le_of_ble_eq_true rfl), (Nat.le_of_ble_eq_true rfl)⟩ rfl rfl (Nat.le_of_ble_eq_true rfl) ⟨(Nat.le_of_ble_eq_true rfl), (Nat.le_of_ble_eq_true rfl)⟩ rfl rfl md_R_agreement_63 (fun v2 s1 => ?_)
  refine sp_aload_n (pc := 66) (k := 0) (i := 0) hX rfl 0 rfl md_R_agreement_66 ?_
  refine sp_getR (pc := 67) (ci := 1) (k := 0) (idx := 12) hX mcl_1 (by decide) mq_230 rfl md_R_agreement_67 (fun v3 => ?_)
  refine sp_getRN (pc := 70) (ci := 4) (k := 0) (idx := 53) hX mcl_4 (by decide) mn_188 rfl md_R_agreement_70 (fun v4 => ?_)
  refine sp_iload_n (pc := 73) (k := 3) (i := 3) hX rfl 3 rfl md_R_agreement_73 ?_
  refine sp_iaload (pc := 74) hX md_R_agreement_74 (fun v5 => ?_)
  refine sp_icmp_eq (pc := 75) hX 80 (by decide) md_R_agreement_75 (fun _ => ?_) (fun _ => ?_)
  · refine sp_iinc (pc := 80) (i := 3) (L' := [(3, Value.int (iI (x3 + 1))), (0, Value.ref x0), (1, Value.ref x1), (2, Value.int (iI x2)), (4, Value.int (iI x4))]) hX 3 rfl (by decide) rfl md_R_agreement_80 ?_
    refine sp_goto (pc := 83) hX 2 (by decide) md_R_agreement_83 ?_
    refine sp_sub [1, 2, 3, 0] (L' := [(0, Value.ref x0), (1, Value.ref x1), (2, Value.int (iI x2)), (3, Value.int (iI (x3 + 1)))]) rfl ?_
    exact h2 x0 x1 x2 (x3 + 1) s1
  · refine sp_iload_n (pc := 78) (k := 3) (i := 3) hX rfl 3 rfl md_R_agreement_78 ?_
    exact sp_iret (pc := 79) hX hR rfl (Nat.le_of_ble_eq_true rfl) md_R_agreement_79
set_option maxHeartbeats 4000000 in
set_option maxRecDepth 20000 in
theorem sl_R_agreement_14 {X : pw_X Int} (hX : pw_Ok X prog_4_method_5_code "PadeWorkbench$Fraction" mr_R_agreement 6) (hR : pw_RI X prog_4_method_5_code) {r2 : Nat → Nat → Int → Int → pw_Sto → Option (Int × pw_Sto)} (h2 : ∀ (z0 : Nat) (z1 : Nat) (z2 : Int) (z3 : Int) (σ : pw_Sto), pw_Sp X 0 0 2 [(0, Value.ref z0), (1, Value.ref z1), (2, Value.int (iI z2)), (3, Value.int (iI z3))] [] σ (r2 z0 z1 z2 z3 σ)) : ∀ (n : Nat) (x0 : Nat) (x1 : Nat) (x2 : Int) (x3 : Int) (x4 : Int) (x5 : Int) (σ : pw_Sto), pw_Sp X 0 0 14 [(0, Value.ref x0), (1, Value.ref x1), (2, Value.int (iI x2)), (3, Value.int (iI x3)), (4, Value.int (iI x4)), (5, Value.int (iI x5))] [] σ (ml_R_agreement_14 r2 n x0 x1 x2 x3 x4 x5 σ) := by
  intro n
  induction n with
  | zero => intros; exact pw_none
  | succ n ih =>
    intro x0 x1 x2 x3 x4 x5 σ
    show pw_Sp X 0 0 14 _ _ σ (mb_R_agreement_14 r2 (ml_R_agreement_14 r2 n) x0 x1 x2 x3 x4 x5 σ)
    unfold mb_R_agreement_14
    refine sp_iload (pc := 14) (i := 5) hX 5 rfl md_R_agreement_14 ?_
    refine sp_iload_n (pc := 16) (k := 3) (i := 3) hX rfl 3 rfl md_R_agreement_16 ?_
    refine sp_icmp_gt (pc := 17) hX 60 (by decide) md_R_agreement_17 (fun _ => ?_) (fun _ => ?_)
    · refine sp_sub [0, 1, 2, 3, 4] (L' := [(0, Value.ref x0), (1, Value.ref x1), (2, Value.int (iI x2)), (3, Value.int (iI x3)), (4, Value.int (iI x4))]) rfl ?_
      exact sj_R_agreement_60 hX hR h2 x0 x1 x2 x3 x4 σ
    · refine sp_iload (pc := 20) (i := 5) hX 5 rfl md_R_agreement_20 ?_
      refine sp_aload_n (pc := 22) (k := 0) (i := 0) hX rfl 0 rfl md_R_agreement_22 ?_
      refine sp_getR (pc := 23) (ci := 1) (k := 1) (idx := 18) hX mcl_1 (by decide) mq_232 rfl md_R_agreement_23 (fun v6 => ?_)
      refine sp_getIN (pc := 26) (ci := 4) (k := 1) (idx := 25) hX mcl_4 (by decide) mn_192 rfl md_R_agreement_26 (fun v7 => ?_)
      refine sp_icmp_gt (pc := 29) hX 60 (by decide) md_R_agreement_29 (fun _ => ?_) (fun _ => ?_)
      · refine sp_sub [0, 1, 2, 3, 4] (L' := [(0, Value.ref x0), (1, Value.ref x1), (2, Value.int (iI x2)), (3, Value.int (iI x3)), (4, Value.int (iI x4))]) rfl ?_
        exact sj_R_agreement_60 hX hR h2 x0 x1 x2 x3 x4 σ
      · refine sp_iload (pc := 32) (i := 4) hX 4 rfl md_R_agreement_32 ?_
        refine sp_aload_n (pc := 34) (k := 0) (i := 0) hX rfl 0 rfl md_R_agreement_34 ?_
        refine sp_getR (pc := 35) (ci := 1) (k := 1) (idx := 18) hX mcl_1 (by decide) mq_232 rfl md_R_agreement_35 (fun v8 => ?_)
        refine sp_getRN (pc := 38) (ci := 4) (k := 0) (idx := 53) hX mcl_4 (by decide) mn_188 rfl md_R_agreement_38 (fun v9 => ?_)
        refine sp_iload (pc := 41) (i := 5) hX 5 rfl md_R_agreement_41 ?_
        refine sp_iaload (pc := 43) hX md_R_agreement_43 (fun v10 => ?_)
        refine sp_aload_n (pc := 44) (k := 1) (i := 1) hX rfl 1 rfl md_R_agreement_44 ?_
        refine sp_iload_n (pc := 45) (k := 3) (i := 3) hX rfl 3 rfl md_R_agreement_45 ?_
        refine sp_iload (pc := 46) (i := 5) hX 5 rfl md_R_agreement_46 ?_
        refine sp_isub (pc := 48) hX md_R_agreement_48 ?_
        refine sp_iaload (pc := 49) hX md_R_agreement_49 (fun v11 => ?_)
        refine sp_imul (pc := 50) hX md_R_agreement_50 ?_
        refine sp_iadd (pc := 51) hX md_R_agreement_51 ?_
        refine sp_istore (pc := 52) (i := 4) (L' := [(4, Value.int (iI (x4 + (v10 * v11)))), (0, Value.ref x0), (1, Value.ref x1), (2, Value.int (iI x2)), (3, Value.int (iI x3)), (5, Value.int (iI x5))]) hX (by decide) rfl md_R_agreement_52 ?_
        refine sp_iinc (pc := 54) (i := 5) (L' := [(5, Value.int (iI (x5 + 1))), (4, Value.int (iI (x4 + (v10 * v11)))), (0, Value.ref x0), (1, Value.ref x1), (2, Value.int (iI x2)), (3, Value.int (iI x3))]) hX 5 rfl (by decide) rfl md_R_agreement_54 ?_
        refine sp_goto (pc := 57) hX 14 (by decide) md_R_agreement_57 ?_
        refine sp_sub [2, 3, 4, 5, 1, 0] (L' := [(0, Value.ref x0), (1, Value.ref x1), (2, Value.int (iI x2)), (3, Value.int (iI x3)), (4, Value.int (iI (x4 + (v10 * v11)))), (5, Value.int (iI (x5 + 1)))]) rfl ?_
        exact ih x0 x1 x2 x3 (x4 + (v10 * v11)) (x5 + 1) σ
set_option maxHeartbeats 4000000 in
set_option maxRecDepth 20000 in
theorem sl_R_agreement_2 {X : pw_X Int} (hX : pw_Ok X prog_4_method_5_code "PadeWorkbench$Fraction" mr_R_agreement 6) (hR : pw_RI X prog_4_method_5_code) : ∀ (n : Nat) (x0 : Nat) (x1 : Nat) (x2 : Int) (x3 : Int) (σ : pw_Sto), pw_Sp X 0 0 2 [(0, Value.ref x0), (1, Value.ref x1), (2, Value.int (iI x2)), (3, Value.int (iI x3))] [] σ (ml_R_agreement_2 n x0 x1 x2 x3 σ) := by
  intro n
  induction n with
  | zero => intros; exact pw_none
  | succ n ih =>
    intro x0 x1 x2 x3 σ
    show pw_Sp X 0 0 2 _ _ σ (mb_R_agreement_2 (ml_R_agreement_2 n) x0 x1 x2 x3 σ)
    unfold mb_R_agreement_2
    refine sp_iload_n (pc := 2) (k := 3) (i := 3) hX rfl 3 rfl md_R_agreement_2 ?_
    refine sp_bipush (pc := 3) hX (by decide) md_R_agreement_3 ?_
    refine sp_icmp_ge (pc := 5) hX 86 (by decide) md_R_agreement_5 (fun _ => ?_) (fun _ => ?_)
    · refine sp_bipush (pc := 86) hX (by decide) md_R_agreement_86 ?_
      exact sp_iret (pc := 88) hX hR rfl (Nat.le_of_ble_eq_true rfl) md_R_agreement_88
    · refine sp_iconst (pc := 8) hX md_R_agreement_8 ?_
      refine sp_istore (pc := 9) (i := 4) (L' := [(4, Value.int (iI (0 : Int))), (0, Value.ref x0), (1, Value.ref x1), (2, Value.int (iI x2)), (3, Value.int (iI x3))]) hX (by decide) rfl md_R_agreement_9 ?_
      refine sp_iconst (pc := 11) hX md_R_agreement_11 ?_
      refine sp_istore (pc := 12) (i := 5) (L' := [(5, Value.int (iI (0 : Int))), (4, Value.int (iI (0 : Int))), (0, Value.ref x0), (1, Value.ref x1), (2, Value.int (iI x2)), (3, Value.int (iI x3))]) hX (by decide) rfl md_R_agreement_12 ?_
      refine sp_sub [2, 3, 4, 5, 1, 0] (L' := [(0, Value.ref x0), (1, Value.ref x1), (2, Value.int (iI x2)), (3, Value.int (iI x3)), (4, Value.int (iI (0 : Int))), (5, Value.int (iI (0 : Int)))]) rfl ?_
      exact sl_R_agreement_14 hX hR ih 1000 x0 x1 x2 x3 (0 : Int) (0 : Int) σ
set_option maxHeartbeats 4000000 in
set_option maxRecDepth 20000 in
theorem mc_R_agreement {l : Launch} {E : pw_E} {σ : pw_Sto} {x0 : Nat} {x1 : Nat} {x2 : Int} {out : Int × pw_Sto} (h : mf_R_agreement x0 x1 x2 σ = some out) : pw_CI l E my_R_agreement prog_4_method_5_code 6 (some .int) mr_R_agreement [.ref x0, .ref x1, .int (iI x2)] σ out := by
  unfold mf_R_agreement at h
  refine pw_entryI (by decide) (Nat.le_of_ble_eq_true rfl) (pw_gd_val h) (fun X hX hR hI => ?_)
  change pw_Ok X prog_4_method_5_code "PadeWorkbench$Fraction" mr_R_agreement 6 at hX
  show pw_Sp X 0 0 0 [(0, Value.ref x0), (1, Value.ref x1), (2, Value.int (iI x2))] [] σ _
  refine sp_iconst (pc := 0) hX md_R_agreement_0 ?_
  refine sp_istore_n (pc := 1) (k := 3) (i := 3) (L' := [(3, Value.int (iI (0 : Int))), (0, Value.ref x0), (1, Value.ref x1), (2, Value.int (iI x2))]) hX rfl (by decide) rfl md_R_agreement_1 ?_
  refine sp_sub [1, 2, 3, 0] (L' := [(0, Value.ref x0), (1, Value.ref x1), (2, Value.int (iI x2)), (3, Value.int (iI (0 : Int)))]) rfl ?_
  exact sl_R_agreement_2 hX hR 1000 x0 x1 x2 (0 : Int) σ
/-! PadeWorkbench$Fraction.block(I)I -/
theorem md_R_block_0 : decode prog_4_method_6_code 0 = .ok (.aload_n 0, 1) := by decide +kernel
theorem md_R_block_1 : decode prog_4_method_6_code 1 = .ok (.getfield 12, 3) := by decide +kernel
theorem md_R_block_4 : decode prog_4_method_6_code 4 = .ok (.getfield 25, 3) := by decide +kernel
theorem md_R_block_7 : decode prog_4_method_6_code 7 = .ok (.ifCond .ge 7, 3) := by decide +kernel
theorem md_R_block_14 : decode prog_4_method_6_code 14 = .ok (.iload_n 1, 1) := by decide +kernel
theorem md_R_block_15 : decode prog_4_method_6_code 15 = .ok (.aload_n 0, 1) := by decide +kernel
theorem md_R_block_16 : decode prog_4_method_6_code 16 = .ok (.getfield 12, 3) := by decide +kernel
theorem md_R_block_19 : decode prog_4_method_6_code 19 = .ok (.getfield 25, 3) := by decide +kernel
theorem md_R_block_22 : decode prog_4_method_6_code 22 = .ok (.isub, 1) := by decide +kernel
theorem md_R_block_23 : decode prog_4_method_6_code 23 = .ok (.aload_n 0, 1) := by decide +kernel
theorem md_R_block_24 : decode prog_4_method_6_code 24 = .ok (.getfield 18, 3) := by decide +kernel
theorem md_R_block_27 : decode prog_4_method_6_code 27 = .ok (.getfield 25, 3) := by decide +kernel
theorem md_R_block_30 : decode prog_4_method_6_code 30 = .ok (.isub, 1) := by decide +kernel
theorem md_R_block_31 : decode prog_4_method_6_code 31 = .ok (.iconst 1, 1) := by decide +kernel
theorem md_R_block_32 : decode prog_4_method_6_code 32 = .ok (.isub, 1) := by decide +kernel
theorem md_R_block_33 : decode prog_4_method_6_code 33 = .ok (.ireturn, 1) := by decide +kernel
theorem md_R_block_10 : decode prog_4_method_6_code 10 = .ok (.iconst (-1), 1) := by decide +kernel
theorem md_R_block_11 : decode prog_4_method_6_code 11 = .ok (.goto 22, 3) := by decide +kernel
def mf_R_block (x0 : Nat) (x1 : Int) (σ : pw_Sto) : Option (Int × pw_Sto) := pw_gd 1 x0 σ ((pw_gr 1 x0 0 σ).bind (fun v1 => (pw_gi 4 v1 1 σ).bind (fun v2 => pw_ck v2 0 (if 0 ≤ v2 then (pw_gr 1 x0 0 σ).bind (fun v3 => (pw_gi 4 v3 1 σ).bind (fun v4 => (pw_gr 1 x0 1 σ).bind (fun v5 => (pw_gi 4 v5 1 σ).bind (fun v6 => some ((((x1 - v4) - v6) - (1 : Int)), σ))))) else some ((-1 : Int), σ)))))
set_option maxHeartbeats 4000000 in
set_option maxRecDepth 20000 in
theorem mc_R_block {l : Launch} {E : pw_E} {σ : pw_Sto} {x0 : Nat} {x1 : Int} {out : Int × pw_Sto} (h : mf_R_block x0 x1 σ = some out) : pw_CI l E my_R_block prog_4_method_6_code 2 (some .int) mr_R_block [.ref x0, .int (iI x1)] σ out := by
  unfold mf_R_block at h
  refine pw_entryI (by decide) (Nat.le_of_ble_eq_true rfl) (pw_gd_val h) (fun X hX hR hI => ?_)
  change pw_Ok X prog_4_method_6_code "PadeWorkbench$Fraction" mr_R_block 2 at hX
  show pw_Sp X 0 0 0 [(0, Value.ref x0), (1, Value.int (iI x1))] [] σ _
  refine sp_aload_n (pc := 0) (k := 0) (i := 0) hX rfl 0 rfl md_R_block_0 ?_
  refine sp_getR (pc := 1) (ci := 1) (k := 0) (idx := 12) hX mcl_1 (by decide) mq_230 rfl md_R_block_1 (fun v1 => ?_)
  refine sp_getIN (pc := 4) (ci := 4) (k := 1) (idx := 25) hX mcl_4 (by decide) mn_192 rfl md_R_block_4 (fun v2 => ?_)
  refine sp_if_ge (pc := 7) hX 14 (by decide) md_R_block_7 (fun _ => ?_) (fun _ => ?_)
  · refine sp_iload_n (pc := 14) (k := 1) (i := 1) hX rfl 1 rfl md_R_block_14 ?_
    refine sp_aload_n (pc := 15) (k := 0) (i := 0) hX rfl 0 rfl md_R_block_15 ?_
    refine sp_getR (pc := 16) (ci := 1) (k := 0) (idx := 12) hX mcl_1 (by decide) mq_230 rfl md_R_block_16 (fun v3 => ?_)
    refine sp_getIN (pc := 19) (ci := 4) (k := 1) (idx := 25) hX mcl_4 (by decide) mn_192 rfl md_R_block_19 (fun v4 => ?_)
    refine sp_isub (pc := 22) hX md_R_block_22 ?_
    refine sp_aload_n (pc := 23) (k := 0) (i := 0) hX rfl 0 rfl md_R_block_23 ?_
    refine sp_getR (pc := 24) (ci := 1) (k := 1) (idx := 18) hX mcl_1 (by decide) mq_232 rfl md_R_block_24 (fun v5 => ?_)
    refine sp_getIN (pc := 27) (ci := 4) (k := 1) (idx := 25) hX mcl_4 (by decide) mn_192 rfl md_R_block_27 (fun v6 => ?_)
    refine sp_isub (pc := 30) hX md_R_block_30 ?_
    refine sp_iconst (pc := 31) hX md_R_block_31 ?_
    refine sp_isub (pc := 32) hX md_R_block_32 ?_
    exact sp_iret (pc := 33) hX hR rfl (Nat.le_of_ble_eq_true rfl) md_R_block_33
  · refine sp_iconst (pc := 10) hX md_R_block_10 ?_
    refine sp_goto (pc := 11) hX 33 (by decide) md_R_block_11 ?_
    exact sp_iret (pc := 33) hX hR rfl (Nat.le_of_ble_eq_true rfl) md_R_block_33
/-! PadeWorkbench$Euclid.startWithPoints(LPadeWorkbench$State;)V -/
theorem md_E_startWithPoints_0 : decode prog_2_method_3_code 0 = .ok (.aload_n 0, 1) := by decide +kernel
theorem md_E_startWithPoints_1 : decode prog_2_method_3_code 1 = .ok (.aload_n 1, 1) := by decide +kernel
theorem md_E_startWithPoints_2 : decode prog_2_method_3_code 2 = .ok (.getfield 45, 3) := by decide +kernel
theorem md_E_startWithPoints_5 : decode prog_2_method_3_code 5 = .ok (.putfield 30, 3) := by decide +kernel
theorem md_E_startWithPoints_8 : decode prog_2_method_3_code 8 = .ok (.aload_n 0, 1) := by decide +kernel
theorem md_E_startWithPoints_9 : decode prog_2_method_3_code 9 = .ok (.getfield 12, 3) := by decide +kernel
theorem md_E_startWithPoints_12 : decode prog_2_method_3_code 12 = .ok (.iconst 0, 1) := by decide +kernel
theorem md_E_startWithPoints_13 : decode prog_2_method_3_code 13 = .ok (.invokevirtual 34, 3) := by decide +kernel
theorem md_E_startWithPoints_16 : decode prog_2_method_3_code 16 = .ok (.aload_n 0, 1) := by decide +kernel
theorem md_E_startWithPoints_17 : decode prog_2_method_3_code 17 = .ok (.getfield 18, 3) := by decide +kernel
theorem md_E_startWithPoints_20 : decode prog_2_method_3_code 20 = .ok (.invokevirtual 50, 3) := by decide +kernel
theorem md_E_startWithPoints_23 : decode prog_2_method_3_code 23 = .ok (.iconst 0, 1) := by decide +kernel
theorem md_E_startWithPoints_24 : decode prog_2_method_3_code 24 = .ok (.istore_n 2, 1) := by decide +kernel
theorem md_E_startWithPoints_25 : decode prog_2_method_3_code 25 = .ok (.iload_n 2, 1) := by decide +kernel
theorem md_E_startWithPoints_26 : decode prog_2_method_3_code 26 = .ok (.aload_n 1, 1) := by decide +kernel
theorem md_E_startWithPoints_27 : decode prog_2_method_3_code 27 = .ok (.getfield 53, 3) := by decide +kernel
theorem md_E_startWithPoints_30 : decode prog_2_method_3_code 30 = .ok (.if_icmp .ge 115, 3) := by decide +kernel
theorem md_E_startWithPoints_145 : decode prog_2_method_3_code 145 = .ok (.aload_n 0, 1) := by decide +kernel
theorem md_E_startWithPoints_146 : decode prog_2_method_3_code 146 = .ok (.invokevirtual 42, 3) := by decide +kernel
theorem md_E_startWithPoints_149 : decode prog_2_method_3_code 149 = .ok (.return_, 1) := by decide +kernel
theorem md_E_startWithPoints_33 : decode prog_2_method_3_code 33 = .ok (.iload_n 2, 1) := by decide +kernel
theorem md_E_startWithPoints_34 : decode prog_2_method_3_code 34 = .ok (.bipush 10, 2) := by decide +kernel
theorem md_E_startWithPoints_36 : decode prog_2_method_3_code 36 = .ok (.if_icmp .ge 109, 3) := by decide +kernel
theorem md_E_startWithPoints_39 : decode prog_2_method_3_code 39 = .ok (.aload_n 1, 1) := by decide +kernel
theorem md_E_startWithPoints_40 : decode prog_2_method_3_code 40 = .ok (.getfield 56, 3) := by decide +kernel
theorem md_E_startWithPoints_43 : decode prog_2_method_3_code 43 = .ok (.iload_n 2, 1) := by decide +kernel
theorem md_E_startWithPoints_44 : decode prog_2_method_3_code 44 = .ok (.iaload, 1) := by decide +kernel
theorem md_E_startWithPoints_45 : decode prog_2_method_3_code 45 = .ok (.istore_n 3, 1) := by decide +kernel
theorem md_E_startWithPoints_46 : decode prog_2_method_3_code 46 = .ok (.aload_n 1, 1) := by decide +kernel
theorem md_E_startWithPoints_47 : decode prog_2_method_3_code 47 = .ok (.getfield 60, 3) := by decide +kernel
theorem md_E_startWithPoints_50 : decode prog_2_method_3_code 50 = .ok (.iload_n 2, 1) := by decide +kernel
theorem md_E_startWithPoints_51 : decode prog_2_method_3_code 51 = .ok (.iaload, 1) := by decide +kernel
theorem md_E_startWithPoints_52 : decode prog_2_method_3_code 52 = .ok (.aload_n 0, 1) := by decide +kernel
theorem md_E_startWithPoints_53 : decode prog_2_method_3_code 53 = .ok (.getfield 30, 3) := by decide +kernel
theorem md_E_startWithPoints_56 : decode prog_2_method_3_code 56 = .ok (.iadd, 1) := by decide +kernel
theorem md_E_startWithPoints_57 : decode prog_2_method_3_code 57 = .ok (.aload_n 0, 1) := by decide +kernel
theorem md_E_startWithPoints_58 : decode prog_2_method_3_code 58 = .ok (.getfield 18, 3) := by decide +kernel
theorem md_E_startWithPoints_61 : decode prog_2_method_3_code 61 = .ok (.iload_n 3, 1) := by decide +kernel
theorem md_E_startWithPoints_62 : decode prog_2_method_3_code 62 = .ok (.aload_n 0, 1) := by decide +kernel
theorem md_E_startWithPoints_63 : decode prog_2_method_3_code 63 = .ok (.getfield 30, 3) := by decide +kernel
theorem md_E_startWithPoints_66 : decode prog_2_method_3_code 66 = .ok (.invokevirtual 63, 3) := by decide +kernel
theorem md_E_startWithPoints_69 : decode prog_2_method_3_code 69 = .ok (.isub, 1) := by decide +kernel
theorem md_E_startWithPoints_70 : decode prog_2_method_3_code 70 = .ok (.aload_n 0, 1) := by decide +kernel
theorem md_E_startWithPoints_71 : decode prog_2_method_3_code 71 = .ok (.getfield 30, 3) := by decide +kernel
theorem md_E_startWithPoints_74 : decode prog_2_method_3_code 74 = .ok (.invokestatic 67, 3) := by decide +kernel
theorem md_E_startWithPoints_77 : decode prog_2_method_3_code 77 = .ok (.istore 4, 2) := by decide +kernel
theorem md_E_startWithPoints_79 : decode prog_2_method_3_code 79 = .ok (.iload 4, 2) := by decide +kernel
theorem md_E_startWithPoints_81 : decode prog_2_method_3_code 81 = .ok (.aload_n 0, 1) := by decide +kernel
theorem md_E_startWithPoints_82 : decode prog_2_method_3_code 82 = .ok (.getfield 12, 3) := by decide +kernel
theorem md_E_startWithPoints_85 : decode prog_2_method_3_code 85 = .ok (.iload_n 3, 1) := by decide +kernel
theorem md_E_startWithPoints_86 : decode prog_2_method_3_code 86 = .ok (.aload_n 0, 1) := by decide +kernel
theorem md_E_startWithPoints_87 : decode prog_2_method_3_code 87 = .ok (.getfield 30, 3) := by decide +kernel
theorem md_E_startWithPoints_90 : decode prog_2_method_3_code 90 = .ok (.invokevirtual 63, 3) := by decide +kernel
theorem md_E_startWithPoints_93 : decode prog_2_method_3_code 93 = .ok (.aload_n 0, 1) := by decide +kernel
theorem md_E_startWithPoints_94 : decode prog_2_method_3_code 94 = .ok (.getfield 30, 3) := by decide +kernel
theorem md_E_startWithPoints_97 : decode prog_2_method_3_code 97 = .ok (.invokestatic 72, 3) := by decide +kernel
theorem md_E_startWithPoints_100 : decode prog_2_method_3_code 100 = .ok (.istore 5, 2) := by decide +kernel
theorem md_E_startWithPoints_102 : decode prog_2_method_3_code 102 = .ok (.aload_n 0, 1) := by decide +kernel
theorem md_E_startWithPoints_103 : decode prog_2_method_3_code 103 = .ok (.getfield 18, 3) := by decide +kernel
theorem md_E_startWithPoints_106 : decode prog_2_method_3_code 106 = .ok (.aload_n 0, 1) := by decide +kernel
theorem md_E_startWithPoints_107 : decode prog_2_method_3_code 107 = .ok (.getfield 12, 3) := by decide +kernel
theorem md_E_startWithPoints_110 : decode prog_2_method_3_code 110 = .ok (.iload 5, 2) := by decide +kernel
theorem md_E_startWithPoints_112 : decode prog_2_method_3_code 112 = .ok (.iconst 0, 1) := by decide +kernel
theorem md_E_startWithPoints_113 : decode prog_2_method_3_code 113 = .ok (.aload_n 0, 1) := by decide +kernel
theorem md_E_startWithPoints_114 : decode prog_2_method_3_code 114 = .ok (.getfield 30, 3) := by decide +kernel
theorem md_E_startWithPoints_117 : decode prog_2_method_3_code 117 = .ok (.invokevirtual 76, 3) := by decide +kernel
theorem md_E_startWithPoints_120 : decode prog_2_method_3_code 120 = .ok (.aload_n 0, 1) := by decide +kernel
theorem md_E_startWithPoints_121 : decode prog_2_method_3_code 121 = .ok (.getfield 18, 3) := by decide +kernel
theorem md_E_startWithPoints_124 : decode prog_2_method_3_code 124 = .ok (.invokevirtual 80, 3) := by decide +kernel
theorem md_E_startWithPoints_127 : decode prog_2_method_3_code 127 = .ok (.aload_n 0, 1) := by decide +kernel
theorem md_E_startWithPoints_128 : decode prog_2_method_3_code 128 = .ok (.getfield 12, 3) := by decide +kernel
theorem md_E_startWithPoints_131 : decode prog_2_method_3_code 131 = .ok (.iload_n 3, 1) := by decide +kernel
theorem md_E_startWithPoints_132 : decode prog_2_method_3_code 132 = .ok (.aload_n 0, 1) := by decide +kernel
theorem md_E_startWithPoints_133 : decode prog_2_method_3_code 133 = .ok (.getfield 30, 3) := by decide +kernel
theorem md_E_startWithPoints_136 : decode prog_2_method_3_code 136 = .ok (.invokevirtual 83, 3) := by decide +kernel
theorem md_E_startWithPoints_139 : decode prog_2_method_3_code 139 = .ok (.iinc 2 1, 3) := by decide +kernel
theorem md_E_startWithPoints_142 : decode prog_2_method_3_code 142 = .ok (.goto (-117), 3) := by decide +kernel
def mj_E_startWithPoints_145 (x0 : Nat) (σ : pw_Sto) : Option (Unit × pw_Sto) := pw_bd (mf_E_startCofactors x0 σ) (fun _ s8 => some ((), s8))
def mb_E_startWithPoints_25 (rc : Nat → Nat → Int → pw_Sto → Option (Unit × pw_Sto)) : Nat → Nat → Int → pw_Sto → Option (Unit × pw_Sto) := fun x0 x1 x2 σ => (pw_gi 7 x1 2 σ).bind (fun v7 => pw_ck x2 v7 (if v7 ≤ x2 then mj_E_startWithPoints_145 x0 σ else pw_ck x2 (10 : Int) (if (10 : Int) ≤ x2 then mj_E_startWithPoints_145 x0 σ else (pw_gr 7 x1 3 σ).bind (fun v9 => (pw_ai v9 x2 σ).bind (fun v10 => (pw_gr 7 x1 4 σ).bind (fun v11 => (pw_ai v11 x2 σ).bind (fun v12 => (pw_gi 0 x0 5 σ).bind (fun v13 => (pw_gr 0 x0 1 σ).bind (fun v14 => (pw_gi 0 x0 5 σ).bind (fun v15 => pw_bd (mf_P_valueAt v14 v10 v15 σ) (fun v17 s16 => (pw_gi 0 x0 5 s16).bind (fun v18 => pw_bd (mf_K_reduce ((v12 + v13) - v17) v18 s16) (fun v20 s19 => (pw_gr 0 x0 0 s19).bind (fun v21 => (pw_gi 0 x0 5 s19).bind (fun v22 => pw_bd (mf_P_valueAt v21 v10 v22 s19) (fun v24 s23 => (pw_gi 0 x0 5 s23).bind (fun v25 => pw_bd (mf_K_over v20 v24 v25 s23) (fun v27 s26 => (pw_gr 0 x0 1 s26).bind (fun v28 => (pw_gr 0 x0 0 s26).bind (fun v29 => (pw_gi 0 x0 5 s26).bind (fun v30 => pw_bd (mf_P_gather v28 v29 v27 (0 : Int) v30 s26) (fun _ s31 => (pw_gr 0 x0 1 s31).bind (fun v32 => pw_bd (mf_P_measure v32 s31) (fun _ s33 => (pw_gr 0 x0 0 s33).bind (fun v34 => (pw_gi 0 x0 5 s33).bind (fun v35 => pw_bd (mf_P_multiplyByRoot v34 v10 v35 s33) (fun _ s36 => rc x0 x1 (x2 + 1) s36)))))))))))))))))))))))))))
def ml_E_startWithPoints_25 : Nat → Nat → Nat → Int → pw_Sto → Option (Unit × pw_Sto) := pw_lp (fun _ _ _ _ => none) (mb_E_startWithPoints_25)
def mf_E_startWithPoints (x0 : Nat) (x1 : Nat) (σ : pw_Sto) : Option (Unit × pw_Sto) := pw_gd 0 x0 σ ((pw_gi 7 x1 0 σ).bind (fun v1 => (pw_pi 0 x0 5 v1 σ).bind (fun s2 => (pw_gr 0 x0 0 s2).bind (fun v3 => pw_bd (mf_P_becomePower v3 (0 : Int) s2) (fun _ s4 => (pw_gr 0 x0 1 s4).bind (fun v5 => pw_bd (mf_P_becomeZero v5 s4) (fun _ s6 => ml_E_startWithPoints_25 1000 x0 x1 (0 : Int) s6)))))))
set_option maxHeartbeats 4000000 in
set_option maxRecDepth 20000 in
theorem sj_E_startWithPoints_145 {X : pw_X Unit} (hX : pw_Ok X prog_2_method_3_code "PadeWorkbench$Euclid" mr_E_startWithPoints 6) (hR : pw_RV X prog_2_method_3_code) (x0 : Nat) (σ : pw_Sto) : pw_Sp X 0 0 145 [(0, Value.ref x0)] [] σ (mj_E_startWithPoints_145 x0 σ) := by
  unfold mj_E_startWithPoints_145
  refine sp_aload_n (pc := 145) (k := 0) (i := 0) hX rfl 0 rfl md_E_startWithPoints_145 ?_
  refine sp_callVV (pc := 146) (y := my_E_startCofactors) (ccy := prog_2_method_4_code) (nLy := 1) (ret := none) (rmy := mr_E_startCofactors) (n := 0) (idx := 42) (As := []) (st := []) (o := x0) (cells' := 0) (slots' := 0) hX (fun _ h => mc_E_startCofactors h) mk_E_startCofactors mv_E_startCofactors mcl_0 (fun _ h => pw_gd_of h) mq_509 ⟨(Nat.le_of_ble_eq_true rfl), (Nat.le_of_ble_eq_true rfl)⟩ rfl rfl (Nat.le_of_ble_eq_true rfl) ⟨(Nat.le_of_ble_eq_true rfl), (Nat.le_of_ble_eq_true rfl)⟩ rfl rfl md_E_startWithPoints_146 (fun s8 => ?_)
  exact sp_vret (pc := 149) hX hR rfl (Nat.le_of_ble_eq_true rfl) md_E_startWithPoints_149
set_option maxHeartbeats 4000000 in
set_option maxRecDepth 20000 in
theorem sl_E_startWithPoints_25 {X : pw_X Unit} (hX : pw_Ok X prog_2_method_3_code "PadeWorkbench$Euclid" mr_E_startWithPoints 6) (hR : pw_RV X prog_2_method_3_code) : ∀ (n : Nat) (x0 : Nat) (x1 : Nat) (x2 : Int) (σ : pw_Sto), pw_Sp X 0 0 25 [(0, Value.ref x0), (1, Value.ref x1), (2, Value.int (iI x2))] [] σ (ml_E_startWithPoints_25 n x0 x1 x2 σ) := by
  intro n
  induction n with
  | zero => intros; exact pw_none
  | succ n ih =>
    intro x0 x1 x2 σ
    show pw_Sp X 0 0 25 _ _ σ (mb_E_startWithPoints_25 (ml_E_startWithPoints_25 n) x0 x1 x2 σ)
    unfold mb_E_startWithPoints_25
    refine sp_iload_n (pc := 25) (k := 2) (i := 2) hX rfl 2 rfl md_E_startWithPoints_25 ?_
    refine sp_aload_n (pc := 26) (k := 1) (i := 1) hX rfl 1 rfl md_E_startWithPoints_26 ?_
    refine sp_getIN (pc := 27) (ci := 7) (k := 2) (idx := 53) hX mcl_7 (by decide) mn_106 rfl md_E_startWithPoints_27 (fun v7 => ?_)
    refine sp_icmp_ge (pc := 30) hX 145 (by decide) md_E_startWithPoints_30 (fun _ => ?_) (fun _ => ?_)
    · refine sp_sub [0] (L' := [(0, Value.ref x0)]) rfl ?_
      exact sj_E_startWithPoints_145 hX hR x0 σ
    · refine sp_iload_n (pc := 33) (k := 2) (i := 2) hX rfl 2 rfl md_E_startWithPoints_33 ?_
      refine sp_bipush (pc := 34) hX (by decide) md_E_startWithPoints_34 ?_
      refine sp_icmp_ge (pc := 36) hX 145 (by decide) md_E_startWithPoints_36 (fun _ => ?_) (fun _ => ?_)
      · refine sp_sub [0] (L' := [(0, Value.ref x0)]) rfl ?_
        exact sj_E_startWithPoints_145 hX hR x0 σ
      · refine sp_aload_n (pc := 39) (k := 1) (i := 1) hX rfl 1 rfl md_E_startWithPoints_39 ?_
        refine sp_getRN (pc := 40) (ci := 7) (k := 3) (idx := 56) hX mcl_7 (by decide) mn_109 rfl md_E_startWithPoints_40 (fun v9 => ?_)
        refine sp_iload_n (pc := 43) (k := 2) (i := 2) hX rfl 2 rfl md_E_startWithPoints_43 ?_
        refine sp_iaload (pc := 44) hX md_E_startWithPoints_44 (fun v10 => ?_)
        refine sp_istore_n (pc := 45) (k := 3) (i := 3) (L' := [(3, Value.int (iI v10)), (0, Value.ref x0), (1, Value.ref x1), (2, Value.int (iI x2))]) hX rfl (by decide) rfl md_E_startWithPoints_45 ?_
        refine sp_aload_n (pc := 46) (k := 1) (i := 1) hX rfl 2 rfl md_E_startWithPoints_46 ?_
        refine sp_getRN (pc := 47) (ci := 7) (k := 4) (idx := 60) hX mcl_7 (by decide) mn_112 rfl md_E_startWithPoints_47 (fun v11 => ?_)
        refine sp_iload_n (pc := 50) (k := 2) (i := 2) hX rfl 3 rfl md_E_startWithPoints_50 ?_
        refine sp_iaload (pc := 51) hX md_E_startWithPoints_51 (fun v12 => ?_)
        refine sp_aload_n (pc := 52) (k := 0) (i := 0) hX rfl 1 rfl md_E_startWithPoints_52 ?_
        refine sp_getI (pc := 53) (ci := 0) (k := 5) (idx := 30) hX mcl_0 (by decide) mq_208 rfl md_E_startWithPoints_53 (fun v13 => ?_)
        refine sp_iadd (pc := 56) hX md_E_startWithPoints_56 ?_
        refine sp_aload_n (pc := 57) (k := 0) (i := 0) hX rfl 1 rfl md_E_startWithPoints_57 ?_
        refine sp_getR (pc := 58) (ci := 0) (k := 1) (idx := 18) hX mcl_0 (by decide) mq_201 rfl md_E_startWithPoints_58 (fun v14 => ?_)
        refine sp_iload_n (pc := 61) (k := 3) (i := 3) hX rfl 0 rfl md_E_startWithPoints_61 ?_
        refine sp_aload_n (pc := 62) (k := 0) (i := 0) hX rfl 1 rfl md_E_startWithPoints_62 ?_
        refine sp_getI (pc := 63) (ci := 0) (k := 5) (idx := 30) hX mcl_0 (by decide) mq_208 rfl md_E_startWithPoints_63 (fun v15 => ?_)
        refine sp_callVI (pc := 66) (y := my_P_valueAt) (ccy := prog_7_method_7_code) (nLy := 5) (ret := (some .int)) (rmy := mr_P_valueAt) (n := 2) (idx := 63) (As := [.int (iI v10), .int (iI v15)]) (st := [.int (iI (v12 + v13))]) (o := v14) (cells' := 0) (slots' := 0) hX (fun _ h => mc_P_valueAt h) mk_P_valueAt mv_P_valueAt mcl_4 (fun _ h => pw_gd_of h) mq_743 ⟨(Nat.le_of_ble_eq_true rfl), (Nat.le_of_ble_eq_true rfl)⟩ rfl rfl (Nat.le_of_ble_eq_true rfl) ⟨(Nat.le_of_ble_eq_true rfl), (Nat.le_of_ble_eq_true rfl)⟩ rfl rfl md_E_startWithPoints_66 (fun v17 s16 => ?_)
        refine sp_isub (pc := 69) hX md_E_startWithPoints_69 ?_
        refine sp_aload_n (pc := 70) (k := 0) (i := 0) hX rfl 1 rfl md_E_startWithPoints_70 ?_
        refine sp_getI (pc := 71) (ci := 0) (k := 5) (idx := 30) hX mcl_0 (by decide) mq_208 rfl md_E_startWithPoints_71 (fun v18 => ?_)
        refine sp_callSI (pc := 74) (y := my_K_reduce) (ccy := prog_3_method_2_code) (nLy := 2) (ret := (some .int)) (rmy := mr_K_reduce) (n := 2) (idx := 67) (As := [.int (iI ((v12 + v13) - v17)), .int (iI v18)]) (st := []) (cells' := 0) (slots' := 0) hX (fun _ h => mc_K_reduce h) mk_K_reduce mq_373 mq_744 ⟨(Nat.le_of_ble_eq_true rfl), (Nat.le_of_ble_eq_true rfl)⟩ rfl rfl (Nat.le_of_ble_eq_true rfl) ⟨(Nat.le_of_ble_eq_true rfl), (Nat.le_of_ble_eq_true rfl)⟩ rfl rfl md_E_startWithPoints_74 (fun v20 s19 => ?_)
        refine sp_istore (pc := 77) (i := 4) (L' := [(4, Value.int (iI v20)), (3, Value.int (iI v10)), (0, Value.ref x0), (1, Value.ref x1), (2, Value.int (iI x2))]) hX (by decide) rfl md_E_startWithPoints_77 ?_
        refine sp_iload (pc := 79) (i := 4) hX 0 rfl md_E_startWithPoints_79 ?_
        refine sp_aload_n (pc := 81) (k := 0) (i := 0) hX rfl 2 rfl md_E_startWithPoints_81 ?_
        refine sp_getR (pc := 82) (ci := 0) (k := 0) (idx := 12) hX mcl_0 (by decide) mq_200 rfl md_E_startWithPoints_82 (fun v21 => ?_)
        refine sp_iload_n (pc := 85) (k := 3) (i := 3) hX rfl 1 rfl md_E_startWithPoints_85 ?_
        refine sp_aload_n (pc := 86) (k := 0) (i := 0) hX rfl 2 rfl md_E_startWithPoints_86 ?_
        refine sp_getI (pc := 87) (ci := 0) (k := 5) (idx := 30) hX mcl_0 (by decide) mq_208 rfl md_E_startWithPoints_87 (fun v22 => ?_)
        refine sp_callVI (pc := 90) (y := my_P_valueAt) (ccy := prog_7_method_7_code) (nLy := 5) (ret := (some .int)) (rmy := mr_P_valueAt) (n := 2) (idx := 63) (As := [.int (iI v10), .int (iI v22)]) (st := [.int (iI v20)]) (o := v21) (cells' := 0) (slots' := 0) hX (fun _ h => mc_P_valueAt h) mk_P_valueAt mv_P_valueAt mcl_4 (fun _ h => pw_gd_of h) mq_743 ⟨(Nat.le_of_ble_eq_true rfl), (Nat.le_of_ble_eq_true rfl)⟩ rfl rfl (Nat.le_of_ble_eq_true rfl) ⟨(Nat.le_of_ble_eq_true rfl), (Nat.le_of_ble_eq_true rfl)⟩ rfl rfl md_E_startWithPoints_90 (fun v24 s23 => ?_)
        refine sp_aload_n (pc := 93) (k := 0) (i := 0) hX rfl 2 rfl md_E_startWithPoints_93 ?_
        refine sp_getI (pc := 94) (ci := 0) (k := 5) (idx := 30) hX mcl_0 (by decide) mq_208 rfl md_E_startWithPoints_94 (fun v25 => ?_)
        refine sp_callSI (pc := 97) (y := my_K_over) (ccy := prog_3_method_6_code) (nLy := 3) (ret := (some .int)) (rmy := mr_K_over) (n := 3) (idx := 72) (As := [.int (iI v20), .int (iI v24), .int (iI v25)]) (st := []) (cells' := 0) (slots' := 0) hX (fun _ h => mc_K_over h) mk_K_over mq_606 mq_745 ⟨(Nat.le_of_ble_eq_true rfl), (Nat.le_of_ble_eq_true rfl)⟩ rfl rfl (Nat.le_of_ble_eq_true rfl) ⟨(Nat.le_of_ble_eq_true rfl), (Nat.le_of_ble_eq_true rfl)⟩ rfl rfl md_E_startWithPoints_97 (fun v27 s26 => ?_)
        refine sp_istore (pc := 100) (i := 5) (L' := [(5, Value.int (iI v27)), (4, Value.int (iI v20)), (3, Value.int (iI v10)), (0, Value.ref x0), (1, Value.ref x1), (2, Value.int (iI x2))]) hX (by decide) rfl md_E_startWithPoints_100 ?_
        refine sp_aload_n (pc := 102) (k := 0) (i := 0) hX rfl 3 rfl md_E_startWithPoints_102 ?_
        refine sp_getR (pc := 103) (ci := 0) (k := 1) (idx := 18) hX mcl_0 (by decide) mq_201 rfl md_E_startWithPoints_103 (fun v28 => ?_)
        refine sp_aload_n (pc := 106) (k := 0) (i := 0) hX rfl 3 rfl md_E_startWithPoints_106 ?_
        refine sp_getR (pc := 107) (ci := 0) (k := 0) (idx := 12) hX mcl_0 (by decide) mq_200 rfl md_E_startWithPoints_107 (fun v29 => ?_)
        refine sp_iload (pc := 110) (i := 5) hX 0 rfl md_E_startWithPoints_110 ?_
        refine sp_iconst (pc := 112) hX md_E_startWithPoints_112 ?_
        refine sp_aload_n (pc := 113) (k := 0) (i := 0) hX rfl 3 rfl md_E_startWithPoints_113 ?_
        refine sp_getI (pc := 114) (ci := 0) (k := 5) (idx := 30) hX mcl_0 (by decide) mq_208 rfl md_E_startWithPoints_114 (fun v30 => ?_)
        refine sp_callVV (pc := 117) (y := my_P_gather) (ccy := prog_7_method_8_code) (nLy := 6) (ret := none) (rmy := mr_P_gather) (n := 4) (idx := 76) (As := [.ref v29, .int (iI v27), .int (iI (0 : Int)), .int (iI v30)]) (st := []) (o := v28) (cells' := 0) (slots' := 0) hX (fun _ h => mc_P_gather h) mk_P_gather mv_P_gather mcl_4 (fun _ h => pw_gd_of h) mq_525 ⟨(Nat.le_of_ble_eq_true rfl), (Nat.le_of_ble_eq_true rfl)⟩ rfl rfl (Nat.le_of_ble_eq_true rfl) ⟨(Nat.le_of_ble_eq_true rfl), (Nat.le_of_ble_eq_true rfl)⟩ rfl rfl md_E_startWithPoints_117 (fun s31 => ?_)
        refine sp_aload_n (pc := 120) (k := 0) (i := 0) hX rfl 3 rfl md_E_startWithPoints_120 ?_
        refine sp_getR (pc := 121) (ci := 0) (k := 1) (idx := 18) hX mcl_0 (by decide) mq_201 rfl md_E_startWithPoints_121 (fun v32 => ?_)
        refine sp_callVV (pc := 124) (y := my_P_measure) (ccy := prog_7_method_6_code) (nLy := 1) (ret := none) (rmy := mr_P_measure) (n := 0) (idx := 80) (As := []) (st := []) (o := v32) (cells' := 0) (slots' := 0) hX (fun _ h => mc_P_measure h) mk_P_measure mv_P_measure mcl_4 (fun _ h => pw_gd_of h) mq_530 ⟨(Nat.le_of_ble_eq_true rfl), (Nat.le_of_ble_eq_true rfl)⟩ rfl rfl (Nat.le_of_ble_eq_true rfl) ⟨(Nat.le_of_ble_eq_true rfl), (Nat.le_of_ble_eq_true rfl)⟩ rfl rfl md_E_startWithPoints_124 (fun s33 => ?_)
        refine sp_aload_n (pc := 127) (k := 0) (i := 0) hX rfl 3 rfl md_E_startWithPoints_127 ?_
        refine sp_getR (pc := 128) (ci := 0) (k := 0) (idx := 12) hX mcl_0 (by decide) mq_200 rfl md_E_startWithPoints_128 (fun v34 => ?_)
        refine sp_iload_n (pc := 131) (k := 3) (i := 3) hX rfl 2 rfl md_E_startWithPoints_131 ?_
        refine sp_aload_n (pc := 132) (k := 0) (i := 0) hX rfl 3 rfl md_E_startWithPoints_132 ?_
        refine sp_getI (pc := 133) (ci := 0) (k := 5) (idx := 30) hX mcl_0 (by decide) mq_208 rfl md_E_startWithPoints_133 (fun v35 => ?_)
        refine sp_callVV (pc := 136) (y := my_P_multiplyByRoot) (ccy := prog_7_method_10_code) (nLy := 6) (ret := none) (rmy := mr_P_multiplyByRoot) (n := 2) (idx := 83) (As := [.int (iI v10), .int (iI v35)]) (st := []) (o := v34) (cells' := 0) (slots' := 0) hX (fun _ h => mc_P_multiplyByRoot h) mk_P_multiplyByRoot mv_P_multiplyByRoot mcl_4 (fun _ h => pw_gd_of h) mq_746 ⟨(Nat.le_of_ble_eq_true rfl), (Nat.le_of_ble_eq_true rfl)⟩ rfl rfl (Nat.le_of_ble_eq_true rfl) ⟨(Nat.le_of_ble_eq_true rfl), (Nat.le_of_ble_eq_true rfl)⟩ rfl rfl md_E_startWithPoints_136 (fun s36 => ?_)
        refine sp_iinc (pc := 139) (i := 2) (L' := [(2, Value.int (iI (x2 + 1))), (5, Value.int (iI v27)), (4, Value.int (iI v20)), (3, Value.int (iI v10)), (0, Value.ref x0), (1, Value.ref x1)]) hX 5 rfl (by decide) rfl md_E_startWithPoints_139 ?_
        refine sp_goto (pc := 142) hX 25 (by decide) md_E_startWithPoints_142 ?_
        refine sp_sub [4, 5, 0] (L' := [(0, Value.ref x0), (1, Value.ref x1), (2, Value.int (iI (x2 + 1)))]) rfl ?_
        exact ih x0 x1 (x2 + 1) s36
set_option maxHeartbeats 4000000 in
set_option maxRecDepth 20000 in
theorem mc_E_startWithPoints {l : Launch} {E : pw_E} {σ : pw_Sto} {x0 : Nat} {x1 : Nat} {out : Unit × pw_Sto} (h : mf_E_startWithPoints x0 x1 σ = some out) : pw_CV l E my_E_startWithPoints prog_2_method_3_code 6 none mr_E_startWithPoints [.ref x0, .ref x1] σ out := by
  unfold mf_E_startWithPoints at h
  refine pw_entryV (by decide) (Nat.le_of_ble_eq_true rfl) (pw_gd_val h) (fun X hX hR hI => ?_)
  change pw_Ok X prog_2_method_3_code "PadeWorkbench$Euclid" mr_E_startWithPoints 6 at hX
  show pw_Sp X 0 0 0 [(0, Value.ref x0), (1, Value.ref x1)] [] σ _
  refine sp_aload_n (pc := 0) (k := 0) (i := 0) hX rfl 0 rfl md_E_startWithPoints_0 ?_
  refine sp_aload_n (pc := 1) (k := 1) (i := 1) hX rfl 1 rfl md_E_startWithPoints_1 ?_
  refine sp_getIN (pc := 2) (ci := 7) (k := 0) (idx := 45) hX mcl_7 (by decide) mn_102 rfl md_E_startWithPoints_2 (fun v1 => ?_)
  refine sp_putI (pc := 5) (ci := 0) (k := 5) (idx := 30) hX mcl_0 (by decide) mq_208 rfl rfl rfl md_E_startWithPoints_5 (fun s2 => ?_)
  refine sp_aload_n (pc := 8) (k := 0) (i := 0) hX rfl 0 rfl md_E_startWithPoints_8 ?_
  refine sp_getR (pc := 9) (ci := 0) (k := 0) (idx := 12) hX mcl_0 (by decide) mq_200 rfl md_E_startWithPoints_9 (fun v3 => ?_)
  refine sp_iconst (pc := 12) hX md_E_startWithPoints_12 ?_
  refine sp_callVV (pc := 13) (y := my_P_becomePower) (ccy := prog_7_method_3_code) (nLy := 2) (ret := none) (rmy := mr_P_becomePower) (n := 1) (idx := 34) (As := [.int (iI (0 : Int))]) (st := []) (o := v3) (cells' := 0) (slots' := 0) hX (fun _ h => mc_P_becomePower h) mk_P_becomePower mv_P_becomePower mcl_4 (fun _ h => pw_gd_of h) mq_492 ⟨(Nat.le_of_ble_eq_true rfl), (Nat.le_of_ble_eq_true rfl)⟩ rfl rfl (Nat.le_of_ble_eq_true rfl) ⟨(Nat.le_of_ble_eq_true rfl), (Nat.le_of_ble_eq_true rfl)⟩ rfl rfl md_E_startWithPoints_13 (fun s4 => ?_)
  refine sp_aload_n (pc := 16) (k := 0) (i := 0) hX rfl 0 rfl md_E_startWithPoints_16 ?_
  refine sp_getR (pc := 17) (ci := 0) (k := 1) (idx := 18) hX mcl_0 (by decide) mq_201 rfl md_E_startWithPoints_17 (fun v5 => ?_)
  refine sp_callVV (pc := 20) (y := my_P_becomeZero) (ccy := prog_7_method_2_code) (nLy := 1) (ret := none) (rmy := mr_P_becomeZero) (n := 0) (idx := 50) (As := []) (st := []) (o := v5) (cells' := 0) (slots' := 0) hX (fun _ h => mc_P_becomeZero h) mk_P_becomeZero mv_P_becomeZero mcl_4 (fun _ h => pw_gd_of h) mq_513 ⟨(Nat.le_of_ble_eq_true rfl), (Nat.le_of_ble_eq_true rfl)⟩ rfl rfl (Nat.le_of_ble_eq_true rfl) ⟨(Nat.le_of_ble_eq_true rfl), (Nat.le_of_ble_eq_true rfl)⟩ rfl rfl md_E_startWithPoints_20 (fun s6 => ?_)
  refine sp_iconst (pc := 23) hX md_E_startWithPoints_23 ?_
  refine sp_istore_n (pc := 24) (k := 2) (i := 2) (L' := [(2, Value.int (iI (0 : Int))), (0, Value.ref x0), (1, Value.ref x1)]) hX rfl (by decide) rfl md_E_startWithPoints_24 ?_
  refine sp_sub [1, 2, 0] (L' := [(0, Value.ref x0), (1, Value.ref x1), (2, Value.int (iI (0 : Int)))]) rfl ?_
  exact sl_E_startWithPoints_25 hX hR 1000 x0 x1 (0 : Int) s6
/-! PadeWorkbench$Fraction.passes(III)Z -/
theorem md_R_passes_0 : decode prog_4_method_7_code 0 = .ok (.aload_n 0, 1) := by decide +kernel
theorem md_R_passes_1 : decode prog_4_method_7_code 1 = .ok (.getfield 18, 3) := by decide +kernel
theorem md_R_passes_4 : decode prog_4_method_7_code 4 = .ok (.iload_n 1, 1) := by decide +kernel
theorem md_R_passes_5 : decode prog_4_method_7_code 5 = .ok (.iload_n 3, 1) := by decide +kernel
theorem md_R_passes_6 : decode prog_4_method_7_code 6 = .ok (.invokevirtual 33, 3) := by decide +kernel
theorem md_R_passes_9 : decode prog_4_method_7_code 9 = .ok (.istore 4, 2) := by decide +kernel
theorem md_R_passes_11 : decode prog_4_method_7_code 11 = .ok (.iload 4, 2) := by decide +kernel
theorem md_R_passes_13 : decode prog_4_method_7_code 13 = .ok (.ifCond .eq 26, 3) := by decide +kernel
theorem md_R_passes_39 : decode prog_4_method_7_code 39 = .ok (.iconst 0, 1) := by decide +kernel
theorem md_R_passes_40 : decode prog_4_method_7_code 40 = .ok (.ireturn, 1) := by decide +kernel
theorem md_R_passes_16 : decode prog_4_method_7_code 16 = .ok (.iload 4, 2) := by decide +kernel
theorem md_R_passes_18 : decode prog_4_method_7_code 18 = .ok (.iload_n 2, 1) := by decide +kernel
theorem md_R_passes_19 : decode prog_4_method_7_code 19 = .ok (.iload_n 3, 1) := by decide +kernel
theorem md_R_passes_20 : decode prog_4_method_7_code 20 = .ok (.invokestatic 60, 3) := by decide +kernel
theorem md_R_passes_23 : decode prog_4_method_7_code 23 = .ok (.aload_n 0, 1) := by decide +kernel
theorem md_R_passes_24 : decode prog_4_method_7_code 24 = .ok (.getfield 12, 3) := by decide +kernel
theorem md_R_passes_27 : decode prog_4_method_7_code 27 = .ok (.iload_n 1, 1) := by decide +kernel
theorem md_R_passes_28 : decode prog_4_method_7_code 28 = .ok (.iload_n 3, 1) := by decide +kernel
theorem md_R_passes_29 : decode prog_4_method_7_code 29 = .ok (.invokevirtual 33, 3) := by decide +kernel
theorem md_R_passes_32 : decode prog_4_method_7_code 32 = .ok (.if_icmp .ne 7, 3) := by decide +kernel
theorem md_R_passes_35 : decode prog_4_method_7_code 35 = .ok (.iconst 1, 1) := by decide +kernel
theorem md_R_passes_36 : decode prog_4_method_7_code 36 = .ok (.goto 4, 3) := by decide +kernel
def mf_R_passes (x0 : Nat) (x1 : Int) (x2 : Int) (x3 : Int) (σ : pw_Sto) : Option (Int × pw_Sto) := pw_gd 1 x0 σ ((pw_gr 1 x0 1 σ).bind (fun v1 => pw_bd (mf_P_valueAt v1 x1 x3 σ) (fun v3 s2 => pw_ck v3 0 (if v3 = 0 then some ((0 : Int), s2) else pw_bd (mf_K_times v3 x2 x3 s2) (fun v5 s4 => (pw_gr 1 x0 0 s4).bind (fun v6 => pw_bd (mf_P_valueAt v6 x1 x3 s4) (fun v8 s7 => pw_ck v5 v8 (if v5 = v8 then some ((1 : Int), s7) else some ((0 : Int), s7)))))))))
set_option maxHeartbeats 4000000 in
set_option maxRecDepth 20000 in
theorem mc_R_passes {l : Launch} {E : pw_E} {σ : pw_Sto} {x0 : Nat} {x1 : Int} {x2 : Int} {x3 : Int} {out : Int × pw_Sto} (h : mf_R_passes x0 x1 x2 x3 σ = some out) : pw_CI l E my_R_passes prog_4_method_7_code 5 (some .boolean) mr_R_passes [.ref x0, .int (iI x1), .int (iI x2), .int (iI x3)] σ out := by
  unfold mf_R_passes at h
  refine pw_entryZ (by decide) (Nat.le_of_ble_eq_true rfl) (pw_gd_val h) (fun X hX hR hI => ?_)
  change pw_Ok X prog_4_method_7_code "PadeWorkbench$Fraction" mr_R_passes 5 at hX
  show pw_Sp X 0 0 0 [(0, Value.ref x0), (1, Value.int (iI x1)), (2, Value.int (iI x2)), (3, Value.int (iI x3))] [] σ _
  refine sp_aload_n (pc := 0) (k := 0) (i := 0) hX rfl 0 rfl md_R_passes_0 ?_
  refine sp_getR (pc := 1) (ci := 1) (k := 1) (idx := 18) hX mcl_1 (by decide) mq_232 rfl md_R_passes_1 (fun v1 => ?_)
  refine sp_iload_n (pc := 4) (k := 1) (i := 1) hX rfl 1 rfl md_R_passes_4 ?_
  refine sp_iload_n (pc := 5) (k := 3) (i := 3) hX rfl 3 rfl md_R_passes_5 ?_
  refine sp_callVI (pc := 6) (y := my_P_valueAt) (ccy := prog_7_method_7_code) (nLy := 5) (ret := (some .int)) (rmy := mr_P_valueAt) (n := 2) (idx := 33) (As := [.int (iI x1), .int (iI x3)]) (st := []) (o := v1) (cells' := 0) (slots' := 0) hX (fun _ h => mc_P_valueAt h) mk_P_valueAt mv_P_valueAt mcl_4 (fun _ h => pw_gd_of h) mq_549 ⟨(Nat.le_of_ble_eq_true rfl), (Nat.le_of_ble_eq_true rfl)⟩ rfl rfl (Nat.le_of_ble_eq_true rfl) ⟨(Nat.le_of_ble_eq_true rfl), (Nat.le_of_ble_eq_true rfl)⟩ rfl rfl md_R_passes_6 (fun v3 s2 => ?_)
  refine sp_istore (pc := 9) (i := 4) (L' := [(4, Value.int (iI v3)), (0, Value.ref x0), (1, Value.int (iI x1)), (2, Value.int (iI x2)), (3, Value.int (iI x3))]) hX (by decide) rfl md_R_passes_9 ?_
  refine sp_iload (pc := 11) (i := 4) hX 0 rfl md_R_passes_11 ?_
  refine sp_if_eq (pc := 13) hX 39 (by decide) md_R_passes_13 (fun _ => ?_) (fun _ => ?_)
  · refine sp_iconst (pc := 39) hX md_R_passes_39 ?_
    exact sp_zret (pc := 40) hX hR (by decide) rfl (Nat.le_of_ble_eq_true rfl) md_R_passes_40
  · refine sp_iload (pc := 16) (i := 4) hX 0 rfl md_R_passes_16 ?_
    refine sp_iload_n (pc := 18) (k := 2) (i := 2) hX rfl 3 rfl md_R_passes_18 ?_
    refine sp_iload_n (pc := 19) (k := 3) (i := 3) hX rfl 4 rfl md_R_passes_19 ?_
    refine sp_callSI (pc := 20) (y := my_K_times) (ccy := prog_3_method_4_code) (nLy := 3) (ret := (some .int)) (rmy := mr_K_times) (n := 3) (idx := 60) (As := [.int (iI v3), .int (iI x2), .int (iI x3)]) (st := []) (cells' := 0) (slots' := 0) hX (fun _ h => mc_K_times h) mk_K_times mq_402 mq_763 ⟨(Nat.le_of_ble_eq_true rfl), (Nat.le_of_ble_eq_true rfl)⟩ rfl rfl (Nat.le_of_ble_eq_true rfl) ⟨(Nat.le_of_ble_eq_true rfl), (Nat.le_of_ble_eq_true rfl)⟩ rfl rfl md_R_passes_20 (fun v5 s4 => ?_)
    refine sp_aload_n (pc := 23) (k := 0) (i := 0) hX rfl 1 rfl md_R_passes_23 ?_
    refine sp_getR (pc := 24) (ci := 1) (k := 0) (idx := 12) hX mcl_1 (by decide) mq_230 rfl md_R_passes_24 (fun v6 => ?_)
    refine sp_iload_n (pc := 27) (k := 1) (i := 1) hX rfl 2 rfl md_R_passes_27 ?_
    refine sp_iload_n (pc := 28) (k := 3) (i := 3) hX rfl 4 rfl md_R_passes_28 ?_
    refine sp_callVI (pc := 29) (y := my_P_valueAt) (ccy := prog_7_method_7_code) (nLy := 5) (ret := (some .int)) (rmy := mr_P_valueAt) (n := 2) (idx := 33) (As := [.int (iI x1), .int (iI x3)]) (st := [.int (iI v5)]) (o := v6) (cells' := 0) (slots' := 0) hX (fun _ h => mc_P_valueAt h) mk_P_valueAt mv_P_valueAt mcl_4 (fun _ h => pw_gd_of h) mq_549 ⟨(Nat.le_of_ble_eq_true rfl), (Nat.le_of_ble_eq_true rfl)⟩ rfl rfl (Nat.le_of_ble_eq_true rfl) ⟨(Nat.le_of_ble_eq_true rfl), (Nat.le_of_ble_eq_true rfl)⟩ rfl rfl md_R_passes_29 (fun v8 s7 => ?_)
    refine sp_icmp_ne (pc := 32) hX 39 (by decide) md_R_passes_32 (fun _ => ?_) (fun _ => ?_)
    · refine sp_iconst (pc := 35) hX md_R_passes_35 ?_
      refine sp_goto (pc := 36) hX 40 (by decide) md_R_passes_36 ?_
      exact sp_zret (pc := 40) hX hR (by decide) rfl (Nat.le_of_ble_eq_true rfl) md_R_passes_40
    · refine sp_iconst (pc := 39) hX md_R_passes_39 ?_
      exact sp_zret (pc := 40) hX hR (by decide) rfl (Nat.le_of_ble_eq_true rfl) md_R_passes_40
