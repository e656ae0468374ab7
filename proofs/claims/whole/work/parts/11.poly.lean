/-! PadeWorkbench$Polynomial.<init>()V -/
theorem md_P_init_0 : decode prog_7_method_1_code 0 = .ok (.aload_n 0, 1) := by decide +kernel
theorem md_P_init_1 : decode prog_7_method_1_code 1 = .ok (.invokespecial 3, 3) := by decide +kernel
theorem md_P_init_4 : decode prog_7_method_1_code 4 = .ok (.aload_n 0, 1) := by decide +kernel
theorem md_P_init_5 : decode prog_7_method_1_code 5 = .ok (.bipush 17, 2) := by decide +kernel
theorem md_P_init_7 : decode prog_7_method_1_code 7 = .ok (.newarray .int, 2) := by decide +kernel
theorem md_P_init_9 : decode prog_7_method_1_code 9 = .ok (.putfield 9, 3) := by decide +kernel
theorem md_P_init_12 : decode prog_7_method_1_code 12 = .ok (.aload_n 0, 1) := by decide +kernel
theorem md_P_init_13 : decode prog_7_method_1_code 13 = .ok (.iconst (-1), 1) := by decide +kernel
theorem md_P_init_14 : decode prog_7_method_1_code 14 = .ok (.putfield 15, 3) := by decide +kernel
theorem md_P_init_17 : decode prog_7_method_1_code 17 = .ok (.return_, 1) := by decide +kernel
def mf_P_init (x0 : Nat) (σ : pw_Sto) : Option (Unit × pw_Sto) := pw_bd (pw_na 17 σ) (fun v1 s2 => (pw_pr 4 x0 0 v1 s2).bind (fun s3 => (pw_pi 4 x0 1 (-1 : Int) s3).bind (fun s4 => some ((), s4))))
set_option maxHeartbeats 4000000 in
set_option maxRecDepth 20000 in
theorem mc_P_init {l : Launch} {E : pw_E} {σ : pw_Sto} {x0 : Nat} {out : Unit × pw_Sto} (h : mf_P_init x0 σ = some out) : pw_CV l E my_P_init prog_7_method_1_code 1 none mr_P_init [.ref x0] σ out := by
  unfold mf_P_init at h
  refine pw_entryV (by decide) (Nat.le_of_ble_eq_true rfl) h (fun X hX hR hI => ?_)
  change pw_Ok X prog_7_method_1_code "PadeWorkbench$Polynomial" mr_P_init 1 at hX
  show pw_Sp X 0 0 0 [(0, Value.ref x0)] [] σ _
  refine sp_aload_n (pc := 0) (k := 0) (i := 0) hX rfl 0 rfl md_P_init_0 ?_
  refine sp_objInit (pc := 1) (idx := 3) hX mq_186 mq_90 mq_91 (Nat.le_of_ble_eq_true rfl) (Nat.le_of_ble_eq_true rfl) md_P_init_1 ?_
  refine sp_aload_n (pc := 4) (k := 0) (i := 0) hX rfl 0 rfl md_P_init_4 ?_
  refine sp_bipush (pc := 5) hX (by decide) md_P_init_5 ?_
  refine sp_newa (pc := 7) (n := 17) (slots' := 17) hX mq_125 (Nat.le_of_ble_eq_true rfl) (Nat.le_of_ble_eq_true rfl) rfl md_P_init_7 (fun v1 s2 => ?_)
  refine sp_putRF (pc := 9) (ci := 4) (k := 0) (idx := 9) hX mcl_4 (by decide) mq_187 rfl rfl hI rfl mty_4_0 md_P_init_9 (fun s3 => ?_)
  refine sp_aload_n (pc := 12) (k := 0) (i := 0) hX rfl 0 rfl md_P_init_12 ?_
  refine sp_iconst (pc := 13) hX md_P_init_13 ?_
  refine sp_putI (pc := 14) (ci := 4) (k := 1) (idx := 15) hX mcl_4 (by decide) mq_191 rfl rfl rfl md_P_init_14 (fun s4 => ?_)
  exact sp_vret (pc := 17) hX hR rfl (Nat.le_of_ble_eq_true rfl) md_P_init_17
/-! PadeWorkbench$Polynomial.becomeZero()V -/
theorem md_P_becomeZero_0 : decode prog_7_method_2_code 0 = .ok (.aload_n 0, 1) := by decide +kernel
theorem md_P_becomeZero_1 : decode prog_7_method_2_code 1 = .ok (.getfield 9, 3) := by decide +kernel
theorem md_P_becomeZero_4 : decode prog_7_method_2_code 4 = .ok (.iconst 0, 1) := by decide +kernel
theorem md_P_becomeZero_5 : decode prog_7_method_2_code 5 = .ok (.invokestatic 19, 3) := by decide +kernel
theorem md_P_becomeZero_8 : decode prog_7_method_2_code 8 = .ok (.aload_n 0, 1) := by decide +kernel
theorem md_P_becomeZero_9 : decode prog_7_method_2_code 9 = .ok (.iconst (-1), 1) := by decide +kernel
theorem md_P_becomeZero_10 : decode prog_7_method_2_code 10 = .ok (.putfield 15, 3) := by decide +kernel
theorem md_P_becomeZero_13 : decode prog_7_method_2_code 13 = .ok (.return_, 1) := by decide +kernel
def mf_P_becomeZero (x0 : Nat) (σ : pw_Sto) : Option (Unit × pw_Sto) := pw_gd 4 x0 σ ((pw_gr 4 x0 0 σ).bind (fun v1 => pw_bd (mf_A_fill v1 (0 : Int) σ) (fun _ s2 => (pw_pi 4 x0 1 (-1 : Int) s2).bind (fun s3 => some ((), s3)))))
set_option maxHeartbeats 4000000 in
set_option maxRecDepth 20000 in
theorem mc_P_becomeZero {l : Launch} {E : pw_E} {σ : pw_Sto} {x0 : Nat} {out : Unit × pw_Sto} (h : mf_P_becomeZero x0 σ = some out) : pw_CV l E my_P_becomeZero prog_7_method_2_code 1 none mr_P_becomeZero [.ref x0] σ out := by
  unfold mf_P_becomeZero at h
  refine pw_entryV (by decide) (Nat.le_of_ble_eq_true rfl) (pw_gd_val h) (fun X hX hR hI => ?_)
  change pw_Ok X prog_7_method_2_code "PadeWorkbench$Polynomial" mr_P_becomeZero 1 at hX
  show pw_Sp X 0 0 0 [(0, Value.ref x0)] [] σ _
  refine sp_aload_n (pc := 0) (k := 0) (i := 0) hX rfl 0 rfl md_P_becomeZero_0 ?_
  refine sp_getR (pc := 1) (ci := 4) (k := 0) (idx := 9) hX mcl_4 (by decide) mq_187 rfl md_P_becomeZero_1 (fun v1 => ?_)
  refine sp_iconst (pc := 4) hX md_P_becomeZero_4 ?_
  refine sp_callSV (pc := 5) (y := my_A_fill) (ccy := prog_16_method_103_code) (nLy := 4) (ret := none) (rmy := mr_A_fill) (n := 2) (idx := 19) (As := [.ref v1, .int (iI (0 : Int))]) (st := []) (cells' := 0) (slots' := 0) hX (fun _ h => mc_A_fill h) mk_A_fill mq_345 mq_500 ⟨(Nat.le_of_ble_eq_true rfl), (Nat.le_of_ble_eq_true rfl)⟩ rfl rfl (Nat.le_of_ble_eq_true rfl) ⟨(Nat.le_of_ble_eq_true rfl), (Nat.le_of_ble_eq_true rfl)⟩ rfl rfl md_P_becomeZero_5 (fun s2 => ?_)
  refine sp_aload_n (pc := 8) (k := 0) (i := 0) hX rfl 0 rfl md_P_becomeZero_8 ?_
  refine sp_iconst (pc := 9) hX md_P_becomeZero_9 ?_
  refine sp_putI (pc := 10) (ci := 4) (k := 1) (idx := 15) hX mcl_4 (by decide) mq_191 rfl rfl rfl md_P_becomeZero_10 (fun s3 => ?_)
  exact sp_vret (pc := 13) hX hR rfl (Nat.le_of_ble_eq_true rfl) md_P_becomeZero_13
/-! PadeWorkbench$Polynomial.becomePower(I)V -/
theorem md_P_becomePower_0 : decode prog_7_method_3_code 0 = .ok (.aload_n 0, 1) := by decide +kernel
theorem md_P_becomePower_1 : decode prog_7_method_3_code 1 = .ok (.invokevirtual 25, 3) := by decide +kernel
theorem md_P_becomePower_4 : decode prog_7_method_3_code 4 = .ok (.iload_n 1, 1) := by decide +kernel
theorem md_P_becomePower_5 : decode prog_7_method_3_code 5 = .ok (.ifCond .lt 21, 3) := by decide +kernel
theorem md_P_becomePower_26 : decode prog_7_method_3_code 26 = .ok (.return_, 1) := by decide +kernel
theorem md_P_becomePower_8 : decode prog_7_method_3_code 8 = .ok (.iload_n 1, 1) := by decide +kernel
theorem md_P_becomePower_9 : decode prog_7_method_3_code 9 = .ok (.bipush 17, 2) := by decide +kernel
theorem md_P_becomePower_11 : decode prog_7_method_3_code 11 = .ok (.if_icmp .ge 15, 3) := by decide +kernel
theorem md_P_becomePower_14 : decode prog_7_method_3_code 14 = .ok (.aload_n 0, 1) := by decide +kernel
theorem md_P_becomePower_15 : decode prog_7_method_3_code 15 = .ok (.getfield 9, 3) := by decide +kernel
theorem md_P_becomePower_18 : decode prog_7_method_3_code 18 = .ok (.iload_n 1, 1) := by decide +kernel
theorem md_P_becomePower_19 : decode prog_7_method_3_code 19 = .ok (.iconst 1, 1) := by decide +kernel
theorem md_P_becomePower_20 : decode prog_7_method_3_code 20 = .ok (.iastore, 1) := by decide +kernel
theorem md_P_becomePower_21 : decode prog_7_method_3_code 21 = .ok (.aload_n 0, 1) := by decide +kernel
theorem md_P_becomePower_22 : decode prog_7_method_3_code 22 = .ok (.iload_n 1, 1) := by decide +kernel
theorem md_P_becomePower_23 : decode prog_7_method_3_code 23 = .ok (.putfield 15, 3) := by decide +kernel
def mf_P_becomePower (x0 : Nat) (x1 : Int) (σ : pw_Sto) : Option (Unit × pw_Sto) := pw_gd 4 x0 σ (pw_bd (mf_P_becomeZero x0 σ) (fun _ s1 => pw_ck x1 0 (if x1 < 0 then some ((), s1) else pw_ck x1 (17 : Int) (if (17 : Int) ≤ x1 then some ((), s1) else (pw_gr 4 x0 0 s1).bind (fun v2 => (pw_si v2 x1 (1 : Int) s1).bind (fun s3 => (pw_pi 4 x0 1 x1 s3).bind (fun s4 => some ((), s4))))))))
set_option maxHeartbeats 4000000 in
set_option maxRecDepth 20000 in
theorem mc_P_becomePower {l : Launch} {E : pw_E} {σ : pw_Sto} {x0 : Nat} {x1 : Int} {out : Unit × pw_Sto} (h : mf_P_becomePower x0 x1 σ = some out) : pw_CV l E my_P_becomePower prog_7_method_3_code 2 none mr_P_becomePower [.ref x0, .int (iI x1)] σ out := by
  unfold mf_P_becomePower at h
  refine pw_entryV (by decide) (Nat.le_of_ble_eq_true rfl) (pw_gd_val h) (fun X hX hR hI => ?_)
  change pw_Ok X prog_7_method_3_code "PadeWorkbench$Polynomial" mr_P_becomePower 2 at hX
  show pw_Sp X 0 0 0 [(0, Value.ref x0), (1, Value.int (iI x1))] [] σ _
  refine sp_aload_n (pc := 0) (k := 0) (i := 0) hX rfl 0 rfl md_P_becomePower_0 ?_
  refine sp_callVV (pc := 1) (y := my_P_becomeZero) (ccy := prog_7_method_2_code) (nLy := 1) (ret := none) (rmy := mr_P_becomeZero) (n := 0) (idx := 25) (As := []) (st := []) (o := x0) (cells' := 0) (slots' := 0) hX (fun _ h => mc_P_becomeZero h) mk_P_becomeZero mv_P_becomeZero mcl_4 (fun _ h => pw_gd_of h) mq_496 ⟨(Nat.le_of_ble_eq_true rfl), (Nat.le_of_ble_eq_true rfl)⟩ rfl rfl (Nat.le_of_ble_eq_true rfl) ⟨(Nat.le_of_ble_eq_true rfl), (Nat.le_of_ble_eq_true rfl)⟩ rfl rfl md_P_becomePower_1 (fun s1 => ?_)
  refine sp_iload_n (pc := 4) (k := 1) (i := 1) hX rfl 1 rfl md_P_becomePower_4 ?_
  refine sp_if_lt (pc := 5) hX 26 (by decide) md_P_becomePower_5 (fun _ => ?_) (fun _ => ?_)
  · exact sp_vret (pc := 26) hX hR rfl (Nat.le_of_ble_eq_true rfl) md_P_becomePower_26
  · refine sp_iload_n (pc := 8) (k := 1) (i := 1) hX rfl 1 rfl md_P_becomePower_8 ?_
    refine sp_bipush (pc := 9) hX (by decide) md_P_becomePower_9 ?_
    refine sp_icmp_ge (pc := 11) hX 26 (by decide) md_P_becomePower_11 (fun _ => ?_) (fun _ => ?_)
    · exact sp_vret (pc := 26) hX hR rfl (Nat.le_of_ble_eq_true rfl) md_P_becomePower_26
    · refine sp_aload_n (pc := 14) (k := 0) (i := 0) hX rfl 0 rfl md_P_becomePower_14 ?_
      refine sp_getR (pc := 15) (ci := 4) (k := 0) (idx := 9) hX mcl_4 (by decide) mq_187 rfl md_P_becomePower_15 (fun v2 => ?_)
      refine sp_iload_n (pc := 18) (k := 1) (i := 1) hX rfl 1 rfl md_P_becomePower_18 ?_
      refine sp_iconst (pc := 19) hX md_P_becomePower_19 ?_
      refine sp_iastore (pc := 20) hX md_P_becomePower_20 (fun s3 => ?_)
      refine sp_aload_n (pc := 21) (k := 0) (i := 0) hX rfl 0 rfl md_P_becomePower_21 ?_
      refine sp_iload_n (pc := 22) (k := 1) (i := 1) hX rfl 1 rfl md_P_becomePower_22 ?_
      refine sp_putI (pc := 23) (ci := 4) (k := 1) (idx := 15) hX mcl_4 (by decide) mq_191 rfl rfl rfl md_P_becomePower_23 (fun s4 => ?_)
      exact sp_vret (pc := 26) hX hR rfl (Nat.le_of_ble_eq_true rfl) md_P_becomePower_26
/-! PadeWorkbench$Polynomial.measure()V -/
theorem md_P_measure_0 : decode prog_7_method_6_code 0 = .ok (.aload_n 0, 1) := by decide +kernel
theorem md_P_measure_1 : decode prog_7_method_6_code 1 = .ok (.bipush 16, 2) := by decide +kernel
theorem md_P_measure_3 : decode prog_7_method_6_code 3 = .ok (.putfield 15, 3) := by decide +kernel
theorem md_P_measure_6 : decode prog_7_method_6_code 6 = .ok (.aload_n 0, 1) := by decide +kernel
theorem md_P_measure_7 : decode prog_7_method_6_code 7 = .ok (.getfield 15, 3) := by decide +kernel
theorem md_P_measure_10 : decode prog_7_method_6_code 10 = .ok (.ifCond .lt 28, 3) := by decide +kernel
theorem md_P_measure_38 : decode prog_7_method_6_code 38 = .ok (.return_, 1) := by decide +kernel
theorem md_P_measure_13 : decode prog_7_method_6_code 13 = .ok (.aload_n 0, 1) := by decide +kernel
theorem md_P_measure_14 : decode prog_7_method_6_code 14 = .ok (.getfield 9, 3) := by decide +kernel
theorem md_P_measure_17 : decode prog_7_method_6_code 17 = .ok (.aload_n 0, 1) := by decide +kernel
theorem md_P_measure_18 : decode prog_7_method_6_code 18 = .ok (.getfield 15, 3) := by decide +kernel
theorem md_P_measure_21 : decode prog_7_method_6_code 21 = .ok (.iaload, 1) := by decide +kernel
theorem md_P_measure_22 : decode prog_7_method_6_code 22 = .ok (.ifCond .ne 16, 3) := by decide +kernel
theorem md_P_measure_25 : decode prog_7_method_6_code 25 = .ok (.aload_n 0, 1) := by decide +kernel
theorem md_P_measure_26 : decode prog_7_method_6_code 26 = .ok (.dup, 1) := by decide +kernel
theorem md_P_measure_27 : decode prog_7_method_6_code 27 = .ok (.getfield 15, 3) := by decide +kernel
theorem md_P_measure_30 : decode prog_7_method_6_code 30 = .ok (.iconst 1, 1) := by decide +kernel
theorem md_P_measure_31 : decode prog_7_method_6_code 31 = .ok (.isub, 1) := by decide +kernel
theorem md_P_measure_32 : decode prog_7_method_6_code 32 = .ok (.putfield 15, 3) := by decide +kernel
theorem md_P_measure_35 : decode prog_7_method_6_code 35 = .ok (.goto (-29), 3) := by decide +kernel
def mb_P_measure_6 (rc : Nat → pw_Sto → Option (Unit × pw_Sto)) : Nat → pw_Sto → Option (Unit × pw_Sto) := fun x0 σ => (pw_gi 4 x0 1 σ).bind (fun v2 => pw_ck v2 0 (if v2 < 0 then some ((), σ) else (pw_gr 4 x0 0 σ).bind (fun v3 => (pw_gi 4 x0 1 σ).bind (fun v4 => (pw_ai v3 v4 σ).bind (fun v5 => pw_ck v5 0 (if v5 = 0 then (pw_gi 4 x0 1 σ).bind (fun v6 => (pw_pi 4 x0 1 (v6 - (1 : Int)) σ).bind (fun s7 => rc x0 s7)) else some ((), σ)))))))
def ml_P_measure_6 : Nat → Nat → pw_Sto → Option (Unit × pw_Sto) := pw_lp (fun _ _ => none) (mb_P_measure_6)
def mf_P_measure (x0 : Nat) (σ : pw_Sto) : Option (Unit × pw_Sto) := pw_gd 4 x0 σ ((pw_pi 4 x0 1 (16 : Int) σ).bind (fun s1 => ml_P_measure_6 1000 x0 s1))
set_option maxHeartbeats 4000000 in
set_option maxRecDepth 20000 in
theorem sl_P_measure_6 {X : pw_X Unit} (hX : pw_Ok X prog_7_method_6_code "PadeWorkbench$Polynomial" mr_P_measure 1) (hR : pw_RV X prog_7_method_6_code) : ∀ (n : Nat) (x0 : Nat) (σ : pw_Sto), pw_Sp X 0 0 6 [(0, Value.ref x0)] [] σ (ml_P_measure_6 n x0 σ) := by
  intro n
  induction n with
  | zero => intros; exact pw_none
  | succ n ih =>
    intro x0 σ
    show pw_Sp X 0 0 6 _ _ σ (mb_P_measure_6 (ml_P_measure_6 n) x0 σ)
    unfold mb_P_measure_6
    refine sp_aload_n (pc := 6) (k := 0) (i := 0) hX rfl 0 rfl md_P_measure_6 ?_
    refine sp_getI (pc := 7) (ci := 4) (k := 1) (idx := 15) hX mcl_4 (by decide) mq_191 rfl md_P_measure_7 (fun v2 => ?_)
    refine sp_if_lt (pc := 10) hX 38 (by decide) md_P_measure_10 (fun _ => ?_) (fun _ => ?_)
    · exact sp_vret (pc := 38) hX hR rfl (Nat.le_of_ble_eq_true rfl) md_P_measure_38
    · refine sp_aload_n (pc := 13) (k := 0) (i := 0) hX rfl 0 rfl md_P_measure_13 ?_
      refine sp_getR (pc := 14) (ci := 4) (k := 0) (idx := 9) hX mcl_4 (by decide) mq_187 rfl md_P_measure_14 (fun v3 => ?_)
      refine sp_aload_n (pc := 17) (k := 0) (i := 0) hX rfl 0 rfl md_P_measure_17 ?_
      refine sp_getI (pc := 18) (ci := 4) (k := 1) (idx := 15) hX mcl_4 (by decide) mq_191 rfl md_P_measure_18 (fun v4 => ?_)
      refine sp_iaload (pc := 21) hX md_P_measure_21 (fun v5 => ?_)
      refine sp_if_ne (pc := 22) hX 38 (by decide) md_P_measure_22 (fun _ => ?_) (fun _ => ?_)
      · refine sp_aload_n (pc := 25) (k := 0) (i := 0) hX rfl 0 rfl md_P_measure_25 ?_
        refine sp_dup (pc := 26) hX rfl md_P_measure_26 ?_
        refine sp_getI (pc := 27) (ci := 4) (k := 1) (idx := 15) hX mcl_4 (by decide) mq_191 rfl md_P_measure_27 (fun v6 => ?_)
        refine sp_iconst (pc := 30) hX md_P_measure_30 ?_
        refine sp_isub (pc := 31) hX md_P_measure_31 ?_
        refine sp_putI (pc := 32) (ci := 4) (k := 1) (idx := 15) hX mcl_4 (by decide) mq_191 rfl rfl rfl md_P_measure_32 (fun s7 => ?_)
        refine sp_goto (pc := 35) hX 6 (by decide) md_P_measure_35 ?_
        exact ih x0 s7
      · exact sp_vret (pc := 38) hX hR rfl (Nat.le_of_ble_eq_true rfl) md_P_measure_38
set_option maxHeartbeats 4000000 in
set_option maxRecDepth 20000 in
theorem mc_P_measure {l : Launch} {E : pw_E} {σ : pw_Sto} {x0 : Nat} {out : Unit × pw_Sto} (h : mf_P_measure x0 σ = some out) : pw_CV l E my_P_measure prog_7_method_6_code 1 none mr_P_measure [.ref x0] σ out := by
  unfold mf_P_measure at h
  refine pw_entryV (by decide) (Nat.le_of_ble_eq_true rfl) (pw_gd_val h) (fun X hX hR hI => ?_)
  change pw_Ok X prog_7_method_6_code "PadeWorkbench$Polynomial" mr_P_measure 1 at hX
  show pw_Sp X 0 0 0 [(0, Value.ref x0)] [] σ _
  refine sp_aload_n (pc := 0) (k := 0) (i := 0) hX rfl 0 rfl md_P_measure_0 ?_
  refine sp_bipush (pc := 1) hX (by decide) md_P_measure_1 ?_
  refine sp_putI (pc := 3) (ci := 4) (k := 1) (idx := 15) hX mcl_4 (by decide) mq_191 rfl rfl rfl md_P_measure_3 (fun s1 => ?_)
  exact sl_P_measure_6 hX hR 1000 x0 s1
/-! PadeWorkbench$Polynomial.becomeStart([II)V -/
theorem md_P_becomeStart_0 : decode prog_7_method_4_code 0 = .ok (.aload_n 0, 1) := by decide +kernel
theorem md_P_becomeStart_1 : decode prog_7_method_4_code 1 = .ok (.invokevirtual 25, 3) := by decide +kernel
theorem md_P_becomeStart_4 : decode prog_7_method_4_code 4 = .ok (.iconst 0, 1) := by decide +kernel
theorem md_P_becomeStart_5 : decode prog_7_method_4_code 5 = .ok (.istore_n 3, 1) := by decide +kernel
theorem md_P_becomeStart_6 : decode prog_7_method_4_code 6 = .ok (.iload_n 3, 1) := by decide +kernel
theorem md_P_becomeStart_7 : decode prog_7_method_4_code 7 = .ok (.iload_n 2, 1) := by decide +kernel
theorem md_P_becomeStart_8 : decode prog_7_method_4_code 8 = .ok (.if_icmp .gt 24, 3) := by decide +kernel
theorem md_P_becomeStart_32 : decode prog_7_method_4_code 32 = .ok (.aload_n 0, 1) := by decide +kernel
theorem md_P_becomeStart_33 : decode prog_7_method_4_code 33 = .ok (.invokevirtual 28, 3) := by decide +kernel
theorem md_P_becomeStart_36 : decode prog_7_method_4_code 36 = .ok (.return_, 1) := by decide +kernel
theorem md_P_becomeStart_11 : decode prog_7_method_4_code 11 = .ok (.iload_n 3, 1) := by decide +kernel
theorem md_P_becomeStart_12 : decode prog_7_method_4_code 12 = .ok (.bipush 16, 2) := by decide +kernel
theorem md_P_becomeStart_14 : decode prog_7_method_4_code 14 = .ok (.if_icmp .ge 18, 3) := by decide +kernel
theorem md_P_becomeStart_17 : decode prog_7_method_4_code 17 = .ok (.aload_n 0, 1) := by decide +kernel
theorem md_P_becomeStart_18 : decode prog_7_method_4_code 18 = .ok (.getfield 9, 3) := by decide +kernel
theorem md_P_becomeStart_21 : decode prog_7_method_4_code 21 = .ok (.iload_n 3, 1) := by decide +kernel
theorem md_P_becomeStart_22 : decode prog_7_method_4_code 22 = .ok (.aload_n 1, 1) := by decide +kernel
theorem md_P_becomeStart_23 : decode prog_7_method_4_code 23 = .ok (.iload_n 3, 1) := by decide +kernel
theorem md_P_becomeStart_24 : decode prog_7_method_4_code 24 = .ok (.iaload, 1) := by decide +kernel
theorem md_P_becomeStart_25 : decode prog_7_method_4_code 25 = .ok (.iastore, 1) := by decide +kernel
theorem md_P_becomeStart_26 : decode prog_7_method_4_code 26 = .ok (.iinc 3 1, 3) := by decide +kernel
theorem md_P_becomeStart_29 : decode prog_7_method_4_code 29 = .ok (.goto (-23), 3) := by decide +kernel
def mj_P_becomeStart_32 (x0 : Nat) (σ : pw_Sto) : Option (Unit × pw_Sto) := pw_bd (mf_P_measure x0 σ) (fun _ s2 => some ((), s2))
def mb_P_becomeStart_6 (rc : Nat → Nat → Int → Int → pw_Sto → Option (Unit × pw_Sto)) : Nat → Nat → Int → Int → pw_Sto → Option (Unit × pw_Sto) := fun x0 x1 x2 x3 σ => pw_ck x3 x2 (if x2 < x3 then mj_P_becomeStart_32 x0 σ else pw_ck x3 (16 : Int) (if (16 : Int) ≤ x3 then mj_P_becomeStart_32 x0 σ else (pw_gr 4 x0 0 σ).bind (fun v3 => (pw_ai x1 x3 σ).bind (fun v4 => (pw_si v3 x3 v4 σ).bind (fun s5 => rc x0 x1 x2 (x3 + 1) s5)))))
def ml_P_becomeStart_6 : Nat → Nat → Nat → Int → Int → pw_Sto → Option (Unit × pw_Sto) := pw_lp (fun _ _ _ _ _ => none) (mb_P_becomeStart_6)
def mf_P_becomeStart (x0 : Nat) (x1 : Nat) (x2 : Int) (σ : pw_Sto) : Option (Unit × pw_Sto) := pw_gd 4 x0 σ (pw_bd (mf_P_becomeZero x0 σ) (fun _ s1 => ml_P_becomeStart_6 1000 x0 x1 x2 (0 : Int) s1))
set_option maxHeartbeats 4000000 in
set_option maxRecDepth 20000 in
theorem sj_P_becomeStart_32 {X : pw_X Unit} (hX : pw_Ok X prog_7_method_4_code "PadeWorkbench$Polynomial" mr_P_becomeStart 4) (hR : pw_RV X prog_7_method_4_code) (x0 : Nat) (σ : pw_Sto) : pw_Sp X 0 0 32 [(0, Value.ref x0)] [] σ (mj_P_becomeStart_32 x0 σ) := by
  unfold mj_P_becomeStart_32
  refine sp_aload_n (pc := 32) (k := 0) (i := 0) hX rfl 0 rfl md_P_becomeStart_32 ?_
  refine sp_callVV (pc := 33) (y := my_P_measure) (ccy := prog_7_method_6_code) (nLy := 1) (ret := none) (rmy := mr_P_measure) (n := 0) (idx := 28) (As := []) (st := []) (o := x0) (cells' := 0) (slots' := 0) hX (fun _ h => mc_P_measure h) mk_P_measure mv_P_measure mcl_4 (fun _ h => pw_gd_of h) mq_505 ⟨(Nat.le_of_ble_eq_true rfl), (Nat.le_of_ble_eq_true rfl)⟩ rfl rfl (Nat.le_of_ble_eq_true rfl) ⟨(Nat.le_of_ble_eq_true rfl), (Nat.le_of_ble_eq_true rfl)⟩ rfl rfl md_P_becomeStart_33 (fun s2 => ?_)
  exact sp_vret (pc := 36) hX hR rfl (Nat.le_of_ble_eq_true rfl) md_P_becomeStart_36
set_option maxHeartbeats 4000000 in
set_option maxRecDepth 20000 in
theorem sl_P_becomeStart_6 {X : pw_X Unit} (hX : pw_Ok X prog_7_method_4_code "PadeWorkbench$Polynomial" mr_P_becomeStart 4) (hR : pw_RV X prog_7_method_4_code) : ∀ (n : Nat) (x0 : Nat) (x1 : Nat) (x2 : Int) (x3 : Int) (σ : pw_Sto), pw_Sp X 0 0 6 [(0, Value.ref x0), (1, Value.ref x1), (2, Value.int (iI x2)), (3, Value.int (iI x3))] [] σ (ml_P_becomeStart_6 n x0 x1 x2 x3 σ) := by
  intro n
  induction n with
  | zero => intros; exact pw_none
  | succ n ih =>
    intro x0 x1 x2 x3 σ
    show pw_Sp X 0 0 6 _ _ σ (mb_P_becomeStart_6 (ml_P_becomeStart_6 n) x0 x1 x2 x3 σ)
    unfold mb_P_becomeStart_6
    refine sp_iload_n (pc := 6) (k := 3) (i := 3) hX rfl 3 rfl md_P_becomeStart_6 ?_
    refine sp_iload_n (pc := 7) (k := 2) (i := 2) hX rfl 2 rfl md_P_becomeStart_7 ?_
    refine sp_icmp_gt (pc := 8) hX 32 (by decide) md_P_becomeStart_8 (fun _ => ?_) (fun _ => ?_)
    · refine sp_sub [0] (L' := [(0, Value.ref x0)]) rfl ?_
      exact sj_P_becomeStart_32 hX hR x0 σ
    · refine sp_iload_n (pc := 11) (k := 3) (i := 3) hX rfl 3 rfl md_P_becomeStart_11 ?_
      refine sp_bipush (pc := 12) hX (by decide) md_P_becomeStart_12 ?_
      refine sp_icmp_ge (pc := 14) hX 32 (by decide) md_P_becomeStart_14 (fun _ => ?_) (fun _ => ?_)
      · refine sp_sub [0] (L' := [(0, Value.ref x0)]) rfl ?_
        exact sj_P_becomeStart_32 hX hR x0 σ
      · refine sp_aload_n (pc := 17) (k := 0) (i := 0) hX rfl 0 rfl md_P_becomeStart_17 ?_
        refine sp_getR (pc := 18) (ci := 4) (k := 0) (idx := 9) hX mcl_4 (by decide) mq_187 rfl md_P_becomeStart_18 (fun v3 => ?_)
        refine sp_iload_n (pc := 21) (k := 3) (i := 3) hX rfl 3 rfl md_P_becomeStart_21 ?_
        refine sp_aload_n (pc := 22) (k := 1) (i := 1) hX rfl 1 rfl md_P_becomeStart_22 ?_
        refine sp_iload_n (pc := 23) (k := 3) (i := 3) hX rfl 3 rfl md_P_becomeStart_23 ?_
        refine sp_iaload (pc := 24) hX md_P_becomeStart_24 (fun v4 => ?_)
        refine sp_iastore (pc := 25) hX md_P_becomeStart_25 (fun s5 => ?_)
        refine sp_iinc (pc := 26) (i := 3) (L' := [(3, Value.int (iI (x3 + 1))), (0, Value.ref x0), (1, Value.ref x1), (2, Value.int (iI x2))]) hX 3 rfl (by decide) rfl md_P_becomeStart_26 ?_
        refine sp_goto (pc := 29) hX 6 (by decide) md_P_becomeStart_29 ?_
        refine sp_sub [1, 2, 3, 0] (L' := [(0, Value.ref x0), (1, Value.ref x1), (2, Value.int (iI x2)), (3, Value.int (iI (x3 + 1)))]) rfl ?_
        exact ih x0 x1 x2 (x3 + 1) s5
set_option maxHeartbeats 4000000 in
set_option maxRecDepth 20000 in
theorem mc_P_becomeStart {l : Launch} {E : pw_E} {σ : pw_Sto} {x0 : Nat} {x1 : Nat} {x2 : Int} {out : Unit × pw_Sto} (h : mf_P_becomeStart x0 x1 x2 σ = some out) : pw_CV l E my_P_becomeStart prog_7_method_4_code 4 none mr_P_becomeStart [.ref x0, .ref x1, .int (iI x2)] σ out := by
  unfold mf_P_becomeStart at h
  refine pw_entryV (by decide) (Nat.le_of_ble_eq_true rfl) (pw_gd_val h) (fun X hX hR hI => ?_)
  change pw_Ok X prog_7_method_4_code "PadeWorkbench$Polynomial" mr_P_becomeStart 4 at hX
  show pw_Sp X 0 0 0 [(0, Value.ref x0), (1, Value.ref x1), (2, Value.int (iI x2))] [] σ _
  refine sp_aload_n (pc := 0) (k := 0) (i := 0) hX rfl 0 rfl md_P_becomeStart_0 ?_
  refine sp_callVV (pc := 1) (y := my_P_becomeZero) (ccy := prog_7_method_2_code) (nLy := 1) (ret := none) (rmy := mr_P_becomeZero) (n := 0) (idx := 25) (As := []) (st := []) (o := x0) (cells' := 0) (slots' := 0) hX (fun _ h => mc_P_becomeZero h) mk_P_becomeZero mv_P_becomeZero mcl_4 (fun _ h => pw_gd_of h) mq_496 ⟨(Nat.le_of_ble_eq_true rfl), (Nat.le_of_ble_eq_true rfl)⟩ rfl rfl (Nat.le_of_ble_eq_true rfl) ⟨(Nat.le_of_ble_eq_true rfl), (Nat.le_of_ble_eq_true rfl)⟩ rfl rfl md_P_becomeStart_1 (fun s1 => ?_)
  refine sp_iconst (pc := 4) hX md_P_becomeStart_4 ?_
  refine sp_istore_n (pc := 5) (k := 3) (i := 3) (L' := [(3, Value.int (iI (0 : Int))), (0, Value.ref x0), (1, Value.ref x1), (2, Value.int (iI x2))]) hX rfl (by decide) rfl md_P_becomeStart_5 ?_
  refine sp_sub [1, 2, 3, 0] (L' := [(0, Value.ref x0), (1, Value.ref x1), (2, Value.int (iI x2)), (3, Value.int (iI (0 : Int)))]) rfl ?_
  exact sl_P_becomeStart_6 hX hR 1000 x0 x1 x2 (0 : Int) s1
/-! PadeWorkbench$Polynomial.gather(LPadeWorkbench$Polynomial;III)V -/
theorem md_P_gather_0 : decode prog_7_method_8_code 0 = .ok (.iload_n 2, 1) := by decide +kernel
theorem md_P_gather_1 : decode prog_7_method_8_code 1 = .ok (.ifCond .ne 4, 3) := by decide +kernel
theorem md_P_gather_5 : decode prog_7_method_8_code 5 = .ok (.iconst 0, 1) := by decide +kernel
theorem md_P_gather_6 : decode prog_7_method_8_code 6 = .ok (.istore 5, 2) := by decide +kernel
theorem md_P_gather_8 : decode prog_7_method_8_code 8 = .ok (.iload 5, 2) := by decide +kernel
theorem md_P_gather_10 : decode prog_7_method_8_code 10 = .ok (.aload_n 1, 1) := by decide +kernel
theorem md_P_gather_11 : decode prog_7_method_8_code 11 = .ok (.getfield 15, 3) := by decide +kernel
theorem md_P_gather_14 : decode prog_7_method_8_code 14 = .ok (.if_icmp .gt 51, 3) := by decide +kernel
theorem md_P_gather_65 : decode prog_7_method_8_code 65 = .ok (.return_, 1) := by decide +kernel
theorem md_P_gather_17 : decode prog_7_method_8_code 17 = .ok (.iload 5, 2) := by decide +kernel
theorem md_P_gather_19 : decode prog_7_method_8_code 19 = .ok (.iload_n 3, 1) := by decide +kernel
theorem md_P_gather_20 : decode prog_7_method_8_code 20 = .ok (.iadd, 1) := by decide +kernel
theorem md_P_gather_21 : decode prog_7_method_8_code 21 = .ok (.bipush 17, 2) := by decide +kernel
theorem md_P_gather_23 : decode prog_7_method_8_code 23 = .ok (.if_icmp .ge 42, 3) := by decide +kernel
theorem md_P_gather_26 : decode prog_7_method_8_code 26 = .ok (.aload_n 0, 1) := by decide +kernel
theorem md_P_gather_27 : decode prog_7_method_8_code 27 = .ok (.getfield 9, 3) := by decide +kernel
theorem md_P_gather_30 : decode prog_7_method_8_code 30 = .ok (.iload 5, 2) := by decide +kernel
theorem md_P_gather_32 : decode prog_7_method_8_code 32 = .ok (.iload_n 3, 1) := by decide +kernel
theorem md_P_gather_33 : decode prog_7_method_8_code 33 = .ok (.iadd, 1) := by decide +kernel
theorem md_P_gather_34 : decode prog_7_method_8_code 34 = .ok (.aload_n 0, 1) := by decide +kernel
theorem md_P_gather_35 : decode prog_7_method_8_code 35 = .ok (.getfield 9, 3) := by decide +kernel
theorem md_P_gather_38 : decode prog_7_method_8_code 38 = .ok (.iload 5, 2) := by decide +kernel
theorem md_P_gather_40 : decode prog_7_method_8_code 40 = .ok (.iload_n 3, 1) := by decide +kernel
theorem md_P_gather_41 : decode prog_7_method_8_code 41 = .ok (.iadd, 1) := by decide +kernel
theorem md_P_gather_42 : decode prog_7_method_8_code 42 = .ok (.iaload, 1) := by decide +kernel
theorem md_P_gather_43 : decode prog_7_method_8_code 43 = .ok (.iload_n 2, 1) := by decide +kernel
theorem md_P_gather_44 : decode prog_7_method_8_code 44 = .ok (.aload_n 1, 1) := by decide +kernel
theorem md_P_gather_45 : decode prog_7_method_8_code 45 = .ok (.getfield 9, 3) := by decide +kernel
theorem md_P_gather_48 : decode prog_7_method_8_code 48 = .ok (.iload 5, 2) := by decide +kernel
theorem md_P_gather_50 : decode prog_7_method_8_code 50 = .ok (.iaload, 1) := by decide +kernel
theorem md_P_gather_51 : decode prog_7_method_8_code 51 = .ok (.imul, 1) := by decide +kernel
theorem md_P_gather_52 : decode prog_7_method_8_code 52 = .ok (.iadd, 1) := by decide +kernel
theorem md_P_gather_53 : decode prog_7_method_8_code 53 = .ok (.iload 4, 2) := by decide +kernel
theorem md_P_gather_55 : decode prog_7_method_8_code 55 = .ok (.invokestatic 37, 3) := by decide +kernel
theorem md_P_gather_58 : decode prog_7_method_8_code 58 = .ok (.iastore, 1) := by decide +kernel
theorem md_P_gather_59 : decode prog_7_method_8_code 59 = .ok (.iinc 5 1, 3) := by decide +kernel
theorem md_P_gather_62 : decode prog_7_method_8_code 62 = .ok (.goto (-54), 3) := by decide +kernel
theorem md_P_gather_4 : decode prog_7_method_8_code 4 = .ok (.return_, 1) := by decide +kernel
def mb_P_gather_8 (rc : Nat → Nat → Int → Int → Int → Int → pw_Sto → Option (Unit × pw_Sto)) : Nat → Nat → Int → Int → Int → Int → pw_Sto → Option (Unit × pw_Sto) := fun x0 x1 x2 x3 x4 x5 σ => (pw_gi 4 x1 1 σ).bind (fun v1 => pw_ck x5 v1 (if v1 < x5 then some ((), σ) else pw_ck (x5 + x3) (17 : Int) (if (17 : Int) ≤ (x5 + x3) then some ((), σ) else (pw_gr 4 x0 0 σ).bind (fun v2 => (pw_gr 4 x0 0 σ).bind (fun v3 => (pw_ai v3 (x5 + x3) σ).bind (fun v4 => (pw_gr 4 x1 0 σ).bind (fun v5 => (pw_ai v5 x5 σ).bind (fun v6 => pw_bd (mf_K_reduce (v4 + (x2 * v6)) x4 σ) (fun v8 s7 => (pw_si v2 (x5 + x3) v8 s7).bind (fun s9 => rc x0 x1 x2 x3 x4 (x5 + 1) s9))))))))))
def ml_P_gather_8 : Nat → Nat → Nat → Int → Int → Int → Int → pw_Sto → Option (Unit × pw_Sto) := pw_lp (fun _ _ _ _ _ _ _ => none) (mb_P_gather_8)
def mf_P_gather (x0 : Nat) (x1 : Nat) (x2 : Int) (x3 : Int) (x4 : Int) (σ : pw_Sto) : Option (Unit × pw_Sto) := pw_gd 4 x0 σ (pw_ck x2 0 (if x2 = 0 then some ((), σ) else ml_P_gather_8 1000 x0 x1 x2 x3 x4 (0 : Int) σ))
set_option maxHeartbeats 4000000 in
set_option maxRecDepth 20000 in
theorem sl_P_gather_8 {X : pw_X Unit} (hX : pw_Ok X prog_7_method_8_code "PadeWorkbench$Polynomial" mr_P_gather 6) (hR : pw_RV X prog_7_method_8_code) : ∀ (n : Nat) (x0 : Nat) (x1 : Nat) (x2 : Int) (x3 : Int) (x4 : Int) (x5 : Int) (σ : pw_Sto), pw_Sp X 0 0 8 [(0, Value.ref x0), (1, Value.ref x1), (2, Value.int (iI x2)), (3, Value.int (iI x3)), (4, Value.int (iI x4)), (5, Value.int (iI x5))] [] σ (ml_P_gather_8 n x0 x1 x2 x3 x4 x5 σ) := by
  intro n
  induction n with
  | zero => intros; exact pw_none
  | succ n ih =>
    intro x0 x1 x2 x3 x4 x5 σ
    show pw_Sp X 0 0 8 _ _ σ (mb_P_gather_8 (ml_P_gather_8 n) x0 x1 x2 x3 x4 x5 σ)
    unfold mb_P_gather_8
    refine sp_iload (pc := 8) (i := 5) hX 5 rfl md_P_gather_8 ?_
    refine sp_aload_n (pc := 10) (k := 1) (i := 1) hX rfl 1 rfl md_P_gather_10 ?_
    refine sp_getI (pc := 11) (ci := 4) (k := 1) (idx := 15) hX mcl_4 (by decide) mq_191 rfl md_P_gather_11 (fun v1 => ?_)
    refine sp_icmp_gt (pc := 14) hX 65 (by decide) md_P_gather_14 (fun _ => ?_) (fun _ => ?_)
    · exact sp_vret (pc := 65) hX hR rfl (Nat.le_of_ble_eq_true rfl) md_P_gather_65
    · refine sp_iload (pc := 17) (i := 5) hX 5 rfl md_P_gather_17 ?_
      refine sp_iload_n (pc := 19) (k := 3) (i := 3) hX rfl 3 rfl md_P_gather_19 ?_
      refine sp_iadd (pc := 20) hX md_P_gather_20 ?_
      refine sp_bipush (pc := 21) hX (by decide) md_P_gather_21 ?_
      refine sp_icmp_ge (pc := 23) hX 65 (by decide) md_P_gather_23 (fun _ => ?_) (fun _ => ?_)
      · exact sp_vret (pc := 65) hX hR rfl (Nat.le_of_ble_eq_true rfl) md_P_gather_65
      · refine sp_aload_n (pc := 26) (k := 0) (i := 0) hX rfl 0 rfl md_P_gather_26 ?_
        refine sp_getR (pc := 27) (ci := 4) (k := 0) (idx := 9) hX mcl_4 (by decide) mq_187 rfl md_P_gather_27 (fun v2 => ?_)
        refine sp_iload (pc := 30) (i := 5) hX 5 rfl md_P_gather_30 ?_
        refine sp_iload_n (pc := 32) (k := 3) (i := 3) hX rfl 3 rfl md_P_gather_32 ?_
        refine sp_iadd (pc := 33) hX md_P_gather_33 ?_
        refine sp_aload_n (pc := 34) (k := 0) (i := 0) hX rfl 0 rfl md_P_gather_34 ?_
        refine sp_getR (pc := 35) (ci := 4) (k := 0) (idx := 9) hX mcl_4 (by decide) mq_187 rfl md_P_gather_35 (fun v3 => ?_)
        refine sp_iload (pc := 38) (i := 5) hX 5 rfl md_P_gather_38 ?_
        refine sp_iload_n (pc := 40) (k := 3) (i := 3) hX rfl 3 rfl md_P_gather_40 ?_
        refine sp_iadd (pc := 41) hX md_P_gather_41 ?_
        refine sp_iaload (pc := 42) hX md_P_gather_42 (fun v4 => ?_)
        refine sp_iload_n (pc := 43) (k := 2) (i := 2) hX rfl 2 rfl md_P_gather_43 ?_
        refine sp_aload_n (pc := 44) (k := 1) (i := 1) hX rfl 1 rfl md_P_gather_44 ?_
        refine sp_getR (pc := 45) (ci := 4) (k := 0) (idx := 9) hX mcl_4 (by decide) mq_187 rfl md_P_gather_45 (fun v5 => ?_)
        refine sp_iload (pc := 48) (i := 5) hX 5 rfl md_P_gather_48 ?_
        refine sp_iaload (pc := 50) hX md_P_gather_50 (fun v6 => ?_)
        refine sp_imul (pc := 51) hX md_P_gather_51 ?_
        refine sp_iadd (pc := 52) hX md_P_gather_52 ?_
        refine sp_iload (pc := 53) (i := 4) hX 4 rfl md_P_gather_53 ?_
        refine sp_callSI (pc := 55) (y := my_K_reduce) (ccy := prog_3_method_2_code) (nLy := 2) (ret := (some .int)) (rmy := mr_K_reduce) (n := 2) (idx := 37) (As := [.int (iI (v4 + (x2 * v6))), .int (iI x4)]) (st := [.int (iI (x5 + x3)), .ref v2]) (cells' := 0) (slots' := 0) hX (fun _ h => mc_K_reduce h) mk_K_reduce mq_373 mq_529 ⟨(Nat.le_of_ble_eq_true rfl), (Nat.le_of_ble_eq_true rfl)⟩ rfl rfl (Nat.le_of_ble_eq_true rfl) ⟨(Nat.le_of_ble_eq_true rfl), (Nat.le_of_ble_eq_true rfl)⟩ rfl rfl md_P_gather_55 (fun v8 s7 => ?_)
        refine sp_iastore (pc := 58) hX md_P_gather_58 (fun s9 => ?_)
        refine sp_iinc (pc := 59) (i := 5) (L' := [(5, Value.int (iI (x5 + 1))), (0, Value.ref x0), (1, Value.ref x1), (2, Value.int (iI x2)), (3, Value.int (iI x3)), (4, Value.int (iI x4))]) hX 5 rfl (by decide) rfl md_P_gather_59 ?_
        refine sp_goto (pc := 62) hX 8 (by decide) md_P_gather_62 ?_
        refine sp_sub [1, 2, 3, 4, 5, 0] (L' := [(0, Value.ref x0), (1, Value.ref x1), (2, Value.int (iI x2)), (3, Value.int (iI x3)), (4, Value.int (iI x4)), (5, Value.int (iI (x5 + 1)))]) rfl ?_
        exact ih x0 x1 x2 x3 x4 (x5 + 1) s9
set_option maxHeartbeats 4000000 in
set_option maxRecDepth 20000 in
theorem mc_P_gather {l : Launch} {E : pw_E} {σ : pw_Sto} {x0 : Nat} {x1 : Nat} {x2 : Int} {x3 : Int} {x4 : Int} {out : Unit × pw_Sto} (h : mf_P_gather x0 x1 x2 x3 x4 σ = some out) : pw_CV l E my_P_gather prog_7_method_8_code 6 none mr_P_gather [.ref x0, .ref x1, .int (iI x2), .int (iI x3), .int (iI x4)] σ out := by
  unfold mf_P_gather at h
  refine pw_entryV (by decide) (Nat.le_of_ble_eq_true rfl) (pw_gd_val h) (fun X hX hR hI => ?_)
  change pw_Ok X prog_7_method_8_code "PadeWorkbench$Polynomial" mr_P_gather 6 at hX
  show pw_Sp X 0 0 0 [(0, Value.ref x0), (1, Value.ref x1), (2, Value.int (iI x2)), (3, Value.int (iI x3)), (4, Value.int (iI x4))] [] σ _
  refine sp_iload_n (pc := 0) (k := 2) (i := 2) hX rfl 2 rfl md_P_gather_0 ?_
  refine sp_if_ne (pc := 1) hX 5 (by decide) md_P_gather_1 (fun _ => ?_) (fun _ => ?_)
  · exact sp_vret (pc := 4) hX hR rfl (Nat.le_of_ble_eq_true rfl) md_P_gather_4
  · refine sp_iconst (pc := 5) hX md_P_gather_5 ?_
    refine sp_istore (pc := 6) (i := 5) (L' := [(5, Value.int (iI (0 : Int))), (0, Value.ref x0), (1, Value.ref x1), (2, Value.int (iI x2)), (3, Value.int (iI x3)), (4, Value.int (iI x4))]) hX (by decide) rfl md_P_gather_6 ?_
    refine sp_sub [1, 2, 3, 4, 5, 0] (L' := [(0, Value.ref x0), (1, Value.ref x1), (2, Value.int (iI x2)), (3, Value.int (iI x3)), (4, Value.int (iI x4)), (5, Value.int (iI (0 : Int)))]) rfl ?_
    exact sl_P_gather_8 hX hR 1000 x0 x1 x2 x3 x4 (0 : Int) σ
/-! PadeWorkbench$Polynomial.copyFrom(LPadeWorkbench$Polynomial;)V -/
theorem md_P_copyFrom_0 : decode prog_7_method_5_code 0 = .ok (.aload_n 1, 1) := by decide +kernel
theorem md_P_copyFrom_1 : decode prog_7_method_5_code 1 = .ok (.getfield 9, 3) := by decide +kernel
theorem md_P_copyFrom_4 : decode prog_7_method_5_code 4 = .ok (.iconst 0, 1) := by decide +kernel
theorem md_P_copyFrom_5 : decode prog_7_method_5_code 5 = .ok (.aload_n 0, 1) := by decide +kernel
theorem md_P_copyFrom_6 : decode prog_7_method_5_code 6 = .ok (.getfield 9, 3) := by decide +kernel
theorem md_P_copyFrom_9 : decode prog_7_method_5_code 9 = .ok (.iconst 0, 1) := by decide +kernel
theorem md_P_copyFrom_10 : decode prog_7_method_5_code 10 = .ok (.bipush 17, 2) := by decide +kernel
theorem md_P_copyFrom_12 : decode prog_7_method_5_code 12 = .ok (.invokestatic 31, 3) := by decide +kernel
theorem md_P_copyFrom_15 : decode prog_7_method_5_code 15 = .ok (.aload_n 0, 1) := by decide +kernel
theorem md_P_copyFrom_16 : decode prog_7_method_5_code 16 = .ok (.aload_n 1, 1) := by decide +kernel
theorem md_P_copyFrom_17 : decode prog_7_method_5_code 17 = .ok (.getfield 15, 3) := by decide +kernel
theorem md_P_copyFrom_20 : decode prog_7_method_5_code 20 = .ok (.putfield 15, 3) := by decide +kernel
theorem md_P_copyFrom_23 : decode prog_7_method_5_code 23 = .ok (.return_, 1) := by decide +kernel
def mf_P_copyFrom (x0 : Nat) (x1 : Nat) (σ : pw_Sto) : Option (Unit × pw_Sto) := pw_gd 4 x0 σ ((pw_gr 4 x1 0 σ).bind (fun v1 => (pw_gr 4 x0 0 σ).bind (fun v2 => (pw_cp v1 (0 : Int) v2 (0 : Int) (17 : Int) σ).bind (fun s3 => (pw_gi 4 x1 1 s3).bind (fun v4 => (pw_pi 4 x0 1 v4 s3).bind (fun s5 => some ((), s5)))))))
set_option maxHeartbeats 4000000 in
set_option maxRecDepth 20000 in
theorem mc_P_copyFrom {l : Launch} {E : pw_E} {σ : pw_Sto} {x0 : Nat} {x1 : Nat} {out : Unit × pw_Sto} (h : mf_P_copyFrom x0 x1 σ = some out) : pw_CV l E my_P_copyFrom prog_7_method_5_code 2 none mr_P_copyFrom [.ref x0, .ref x1] σ out := by
  unfold mf_P_copyFrom at h
  refine pw_entryV (by decide) (Nat.le_of_ble_eq_true rfl) (pw_gd_val h) (fun X hX hR hI => ?_)
  change pw_Ok X prog_7_method_5_code "PadeWorkbench$Polynomial" mr_P_copyFrom 2 at hX
  show pw_Sp X 0 0 0 [(0, Value.ref x0), (1, Value.ref x1)] [] σ _
  refine sp_aload_n (pc := 0) (k := 1) (i := 1) hX rfl 1 rfl md_P_copyFrom_0 ?_
  refine sp_getR (pc := 1) (ci := 4) (k := 0) (idx := 9) hX mcl_4 (by decide) mq_187 rfl md_P_copyFrom_1 (fun v1 => ?_)
  refine sp_iconst (pc := 4) hX md_P_copyFrom_4 ?_
  refine sp_aload_n (pc := 5) (k := 0) (i := 0) hX rfl 0 rfl md_P_copyFrom_5 ?_
  refine sp_getR (pc := 6) (ci := 4) (k := 0) (idx := 9) hX mcl_4 (by decide) mq_187 rfl md_P_copyFrom_6 (fun v2 => ?_)
  refine sp_iconst (pc := 9) hX md_P_copyFrom_9 ?_
  refine sp_bipush (pc := 10) hX (by decide) md_P_copyFrom_10 ?_
  refine sp_copy (pc := 12) (idx := 31) hX mq_543 mq_339 mq_338 mq_80 (Nat.le_of_ble_eq_true rfl) (Nat.le_of_ble_eq_true rfl) md_P_copyFrom_12 (fun s3 => ?_)
  refine sp_aload_n (pc := 15) (k := 0) (i := 0) hX rfl 0 rfl md_P_copyFrom_15 ?_
  refine sp_aload_n (pc := 16) (k := 1) (i := 1) hX rfl 1 rfl md_P_copyFrom_16 ?_
  refine sp_getI (pc := 17) (ci := 4) (k := 1) (idx := 15) hX mcl_4 (by decide) mq_191 rfl md_P_copyFrom_17 (fun v4 => ?_)
  refine sp_putI (pc := 20) (ci := 4) (k := 1) (idx := 15) hX mcl_4 (by decide) mq_191 rfl rfl rfl md_P_copyFrom_20 (fun s5 => ?_)
  exact sp_vret (pc := 23) hX hR rfl (Nat.le_of_ble_eq_true rfl) md_P_copyFrom_23
/-! PadeWorkbench$Polynomial.valueAt(II)I -/
theorem md_P_valueAt_0 : decode prog_7_method_7_code 0 = .ok (.iconst 0, 1) := by decide +kernel
theorem md_P_valueAt_1 : decode prog_7_method_7_code 1 = .ok (.istore_n 3, 1) := by decide +kernel
theorem md_P_valueAt_2 : decode prog_7_method_7_code 2 = .ok (.aload_n 0, 1) := by decide +kernel
theorem md_P_valueAt_3 : decode prog_7_method_7_code 3 = .ok (.getfield 15, 3) := by decide +kernel
theorem md_P_valueAt_6 : decode prog_7_method_7_code 6 = .ok (.istore 4, 2) := by decide +kernel
theorem md_P_valueAt_8 : decode prog_7_method_7_code 8 = .ok (.iload 4, 2) := by decide +kernel
theorem md_P_valueAt_10 : decode prog_7_method_7_code 10 = .ok (.ifCond .lt 25, 3) := by decide +kernel
theorem md_P_valueAt_35 : decode prog_7_method_7_code 35 = .ok (.iload_n 3, 1) := by decide +kernel
theorem md_P_valueAt_36 : decode prog_7_method_7_code 36 = .ok (.ireturn, 1) := by decide +kernel
theorem md_P_valueAt_13 : decode prog_7_method_7_code 13 = .ok (.iload_n 3, 1) := by decide +kernel
theorem md_P_valueAt_14 : decode prog_7_method_7_code 14 = .ok (.iload_n 1, 1) := by decide +kernel
theorem md_P_valueAt_15 : decode prog_7_method_7_code 15 = .ok (.imul, 1) := by decide +kernel
theorem md_P_valueAt_16 : decode prog_7_method_7_code 16 = .ok (.aload_n 0, 1) := by decide +kernel
theorem md_P_valueAt_17 : decode prog_7_method_7_code 17 = .ok (.getfield 9, 3) := by decide +kernel
theorem md_P_valueAt_20 : decode prog_7_method_7_code 20 = .ok (.iload 4, 2) := by decide +kernel
theorem md_P_valueAt_22 : decode prog_7_method_7_code 22 = .ok (.iaload, 1) := by decide +kernel
theorem md_P_valueAt_23 : decode prog_7_method_7_code 23 = .ok (.iadd, 1) := by decide +kernel
theorem md_P_valueAt_24 : decode prog_7_method_7_code 24 = .ok (.iload_n 2, 1) := by decide +kernel
theorem md_P_valueAt_25 : decode prog_7_method_7_code 25 = .ok (.invokestatic 37, 3) := by decide +kernel
theorem md_P_valueAt_28 : decode prog_7_method_7_code 28 = .ok (.istore_n 3, 1) := by decide +kernel
theorem md_P_valueAt_29 : decode prog_7_method_7_code 29 = .ok (.iinc 4 (-1), 3) := by decide +kernel
theorem md_P_valueAt_32 : decode prog_7_method_7_code 32 = .ok (.goto (-24), 3) := by decide +kernel
def mb_P_valueAt_8 (rc : Nat → Int → Int → Int → Int → pw_Sto → Option (Int × pw_Sto)) : Nat → Int → Int → Int → Int → pw_Sto → Option (Int × pw_Sto) := fun x0 x1 x2 x3 x4 σ => pw_ck x4 0 (if x4 < 0 then some (x3, σ) else (pw_gr 4 x0 0 σ).bind (fun v2 => (pw_ai v2 x4 σ).bind (fun v3 => pw_bd (mf_K_reduce ((x3 * x1) + v3) x2 σ) (fun v5 s4 => rc x0 x1 x2 v5 (x4 + (-1)) s4))))
def ml_P_valueAt_8 : Nat → Nat → Int → Int → Int → Int → pw_Sto → Option (Int × pw_Sto) := pw_lp (fun _ _ _ _ _ _ => none) (mb_P_valueAt_8)
def mf_P_valueAt (x0 : Nat) (x1 : Int) (x2 : Int) (σ : pw_Sto) : Option (Int × pw_Sto) := pw_gd 4 x0 σ ((pw_gi 4 x0 1 σ).bind (fun v1 => ml_P_valueAt_8 1000 x0 x1 x2 (0 : Int) v1 σ))
set_option maxHeartbeats 4000000 in
set_option maxRecDepth 20000 in
theorem sl_P_valueAt_8 {X : pw_X Int} (hX : pw_Ok X prog_7_method_7_code "PadeWorkbench$Polynomial" mr_P_valueAt 5) (hR : pw_RI X prog_7_method_7_code) : ∀ (n : Nat) (x0 : Nat) (x1 : Int) (x2 : Int) (x3 : Int) (x4 : Int) (σ : pw_Sto), pw_Sp X 0 0 8 [(0, Value.ref x0), (1, Value.int (iI x1)), (2, Value.int (iI x2)), (3, Value.int (iI x3)), (4, Value.int (iI x4))] [] σ (ml_P_valueAt_8 n x0 x1 x2 x3 x4 σ) := by
  intro n
  induction n with
  | zero => intros; exact pw_none
  | succ n ih =>
    intro x0 x1 x2 x3 x4 σ
    show pw_Sp X 0 0 8 _ _ σ (mb_P_valueAt_8 (ml_P_valueAt_8 n) x0 x1 x2 x3 x4 σ)
    unfold mb_P_valueAt_8
    refine sp_iload (pc := 8) (i := 4) hX 4 rfl md_P_valueAt_8 ?_
    refine sp_if_lt (pc := 10) hX 35 (by decide) md_P_valueAt_10 (fun _ => ?_) (fun _ => ?_)
    · refine sp_iload_n (pc := 35) (k := 3) (i := 3) hX rfl 3 rfl md_P_valueAt_35 ?_
      exact sp_iret (pc := 36) hX hR rfl (Nat.le_of_ble_eq_true rfl) md_P_valueAt_36
    · refine sp_iload_n (pc := 13) (k := 3) (i := 3) hX rfl 3 rfl md_P_valueAt_13 ?_
      refine sp_iload_n (pc := 14) (k := 1) (i := 1) hX rfl 1 rfl md_P_valueAt_14 ?_
      refine sp_imul (pc := 15) hX md_P_valueAt_15 ?_
      refine sp_aload_n (pc := 16) (k := 0) (i := 0) hX rfl 0 rfl md_P_valueAt_16 ?_
      refine sp_getR (pc := 17) (ci := 4) (k := 0) (idx := 9) hX mcl_4 (by decide) mq_187 rfl md_P_valueAt_17 (fun v2 => ?_)
      refine sp_iload (pc := 20) (i := 4) hX 4 rfl md_P_valueAt_20 ?_
      refine sp_iaload (pc := 22) hX md_P_valueAt_22 (fun v3 => ?_)
      refine sp_iadd (pc := 23) hX md_P_valueAt_23 ?_
      refine sp_iload_n (pc := 24) (k := 2) (i := 2) hX rfl 2 rfl md_P_valueAt_24 ?_
      refine sp_callSI (pc := 25) (y := my_K_reduce) (ccy := prog_3_method_2_code) (nLy := 2) (ret := (some .int)) (rmy := mr_K_reduce) (n := 2) (idx := 37) (As := [.int (iI ((x3 * x1) + v3)), .int (iI x2)]) (st := []) (cells' := 0) (slots' := 0) hX (fun _ h => mc_K_reduce h) mk_K_reduce mq_373 mq_529 ⟨(Nat.le_of_ble_eq_true rfl), (Nat.le_of_ble_eq_true rfl)⟩ rfl rfl (Nat.le_of_ble_eq_true rfl) ⟨(Nat.le_of_ble_eq_true rfl), (Nat.le_of_ble_eq_true rfl)⟩ rfl rfl md_P_valueAt_25 (fun v5 s4 => ?_)
      refine sp_istore_n (pc := 28) (k := 3) (i := 3) (L' := [(3, Value.int (iI v5)), (0, Value.ref x0), (1, Value.int (iI x1)), (2, Value.int (iI x2)), (4, Value.int (iI x4))]) hX rfl (by decide) rfl md_P_valueAt_28 ?_
      refine sp_iinc (pc := 29) (i := 4) (L' := [(4, Value.int (iI (x4 + (-1)))), (3, Value.int (iI v5)), (0, Value.ref x0), (1, Value.int (iI x1)), (2, Value.int (iI x2))]) hX 4 rfl (by decide) rfl md_P_valueAt_29 ?_
      refine sp_goto (pc := 32) hX 8 (by decide) md_P_valueAt_32 ?_
      refine sp_sub [2, 3, 4, 1, 0] (L' := [(0, Value.ref x0), (1, Value.int (iI x1)), (2, Value.int (iI x2)), (3, Value.int (iI v5)), (4, Value.int (iI (x4 + (-1))))]) rfl ?_
      exact ih x0 x1 x2 v5 (x4 + (-1)) s4
set_option maxHeartbeats 4000000 in
set_option maxRecDepth 20000 in
theorem mc_P_valueAt {l : Launch} {E : pw_E} {σ : pw_Sto} {x0 : Nat} {x1 : Int} {x2 : Int} {out : Int × pw_Sto} (h : mf_P_valueAt x0 x1 x2 σ = some out) : pw_CI l E my_P_valueAt prog_7_method_7_code 5 (some .int) mr_P_valueAt [.ref x0, .int (iI x1), .int (iI x2)] σ out := by
  unfold mf_P_valueAt at h
  refine pw_entryI (by decide) (Nat.le_of_ble_eq_true rfl) (pw_gd_val h) (fun X hX hR hI => ?_)
  change pw_Ok X prog_7_method_7_code "PadeWorkbench$Polynomial" mr_P_valueAt 5 at hX
  show pw_Sp X 0 0 0 [(0, Value.ref x0), (1, Value.int (iI x1)), (2, Value.int (iI x2))] [] σ _
  refine sp_iconst (pc := 0) hX md_P_valueAt_0 ?_
  refine sp_istore_n (pc := 1) (k := 3) (i := 3) (L' := [(3, Value.int (iI (0 : Int))), (0, Value.ref x0), (1, Value.int (iI x1)), (2, Value.int (iI x2))]) hX rfl (by decide) rfl md_P_valueAt_1 ?_
  refine sp_aload_n (pc := 2) (k := 0) (i := 0) hX rfl 1 rfl md_P_valueAt_2 ?_
  refine sp_getI (pc := 3) (ci := 4) (k := 1) (idx := 15) hX mcl_4 (by decide) mq_191 rfl md_P_valueAt_3 (fun v1 => ?_)
  refine sp_istore (pc := 6) (i := 4) (L' := [(4, Value.int (iI v1)), (3, Value.int (iI (0 : Int))), (0, Value.ref x0), (1, Value.int (iI x1)), (2, Value.int (iI x2))]) hX (by decide) rfl md_P_valueAt_6 ?_
  refine sp_sub [2, 3, 4, 1, 0] (L' := [(0, Value.ref x0), (1, Value.int (iI x1)), (2, Value.int (iI x2)), (3, Value.int (iI (0 : Int))), (4, Value.int (iI v1))]) rfl ?_
  exact sl_P_valueAt_8 hX hR 1000 x0 x1 x2 (0 : Int) v1 σ
/-! PadeWorkbench$Polynomial.divideByRoot(II)V -/
theorem md_P_divideByRoot_0 : decode prog_7_method_11_code 0 = .ok (.iconst 0, 1) := by decide +kernel
theorem md_P_divideByRoot_1 : decode prog_7_method_11_code 1 = .ok (.istore_n 3, 1) := by decide +kernel
theorem md_P_divideByRoot_2 : decode prog_7_method_11_code 2 = .ok (.bipush 16, 2) := by decide +kernel
theorem md_P_divideByRoot_4 : decode prog_7_method_11_code 4 = .ok (.istore 4, 2) := by decide +kernel
theorem md_P_divideByRoot_6 : decode prog_7_method_11_code 6 = .ok (.iload 4, 2) := by decide +kernel
theorem md_P_divideByRoot_8 : decode prog_7_method_11_code 8 = .ok (.ifCond .lt 37, 3) := by decide +kernel
theorem md_P_divideByRoot_45 : decode prog_7_method_11_code 45 = .ok (.aload_n 0, 1) := by decide +kernel
theorem md_P_divideByRoot_46 : decode prog_7_method_11_code 46 = .ok (.invokevirtual 28, 3) := by decide +kernel
theorem md_P_divideByRoot_49 : decode prog_7_method_11_code 49 = .ok (.return_, 1) := by decide +kernel
theorem md_P_divideByRoot_11 : decode prog_7_method_11_code 11 = .ok (.aload_n 0, 1) := by decide +kernel
theorem md_P_divideByRoot_12 : decode prog_7_method_11_code 12 = .ok (.getfield 9, 3) := by decide +kernel
theorem md_P_divideByRoot_15 : decode prog_7_method_11_code 15 = .ok (.iload 4, 2) := by decide +kernel
theorem md_P_divideByRoot_17 : decode prog_7_method_11_code 17 = .ok (.iaload, 1) := by decide +kernel
theorem md_P_divideByRoot_18 : decode prog_7_method_11_code 18 = .ok (.istore 5, 2) := by decide +kernel
theorem md_P_divideByRoot_20 : decode prog_7_method_11_code 20 = .ok (.aload_n 0, 1) := by decide +kernel
theorem md_P_divideByRoot_21 : decode prog_7_method_11_code 21 = .ok (.getfield 9, 3) := by decide +kernel
theorem md_P_divideByRoot_24 : decode prog_7_method_11_code 24 = .ok (.iload 4, 2) := by decide +kernel
theorem md_P_divideByRoot_26 : decode prog_7_method_11_code 26 = .ok (.iload_n 3, 1) := by decide +kernel
theorem md_P_divideByRoot_27 : decode prog_7_method_11_code 27 = .ok (.iastore, 1) := by decide +kernel
theorem md_P_divideByRoot_28 : decode prog_7_method_11_code 28 = .ok (.iload 5, 2) := by decide +kernel
theorem md_P_divideByRoot_30 : decode prog_7_method_11_code 30 = .ok (.iload_n 1, 1) := by decide +kernel
theorem md_P_divideByRoot_31 : decode prog_7_method_11_code 31 = .ok (.iload_n 3, 1) := by decide +kernel
theorem md_P_divideByRoot_32 : decode prog_7_method_11_code 32 = .ok (.imul, 1) := by decide +kernel
theorem md_P_divideByRoot_33 : decode prog_7_method_11_code 33 = .ok (.iadd, 1) := by decide +kernel
theorem md_P_divideByRoot_34 : decode prog_7_method_11_code 34 = .ok (.iload_n 2, 1) := by decide +kernel
theorem md_P_divideByRoot_35 : decode prog_7_method_11_code 35 = .ok (.invokestatic 37, 3) := by decide +kernel
theorem md_P_divideByRoot_38 : decode prog_7_method_11_code 38 = .ok (.istore_n 3, 1) := by decide +kernel
theorem md_P_divideByRoot_39 : decode prog_7_method_11_code 39 = .ok (.iinc 4 (-1), 3) := by decide +kernel
theorem md_P_divideByRoot_42 : decode prog_7_method_11_code 42 = .ok (.goto (-36), 3) := by decide +kernel
def mb_P_divideByRoot_6 (rc : Nat → Int → Int → Int → Int → pw_Sto → Option (Unit × pw_Sto)) : Nat → Int → Int → Int → Int → pw_Sto → Option (Unit × pw_Sto) := fun x0 x1 x2 x3 x4 σ => pw_ck x4 0 (if x4 < 0 then pw_bd (mf_P_measure x0 σ) (fun _ s1 => some ((), s1)) else (pw_gr 4 x0 0 σ).bind (fun v2 => (pw_ai v2 x4 σ).bind (fun v3 => (pw_gr 4 x0 0 σ).bind (fun v4 => (pw_si v4 x4 x3 σ).bind (fun s5 => pw_bd (mf_K_reduce (v3 + (x1 * x3)) x2 s5) (fun v7 s6 => rc x0 x1 x2 v7 (x4 + (-1)) s6))))))
def ml_P_divideByRoot_6 : Nat → Nat → Int → Int → Int → Int → pw_Sto → Option (Unit × pw_Sto) := pw_lp (fun _ _ _ _ _ _ => none) (mb_P_divideByRoot_6)
def mf_P_divideByRoot (x0 : Nat) (x1 : Int) (x2 : Int) (σ : pw_Sto) : Option (Unit × pw_Sto) := pw_gd 4 x0 σ (ml_P_divideByRoot_6 1000 x0 x1 x2 (0 : Int) (16 : Int) σ)
set_option maxHeartbeats 4000000 in
set_option maxRecDepth 20000 in
theorem sl_P_divideByRoot_6 {X : pw_X Unit} (hX : pw_Ok X prog_7_method_11_code "PadeWorkbench$Polynomial" mr_P_divideByRoot 6) (hR : pw_RV X prog_7_method_11_code) : ∀ (n : Nat) (x0 : Nat) (x1 : Int) (x2 : Int) (x3 : Int) (x4 : Int) (σ : pw_Sto), pw_Sp X 0 0 6 [(0, Value.ref x0), (1, Value.int (iI x1)), (2, Value.int (iI x2)), (3, Value.int (iI x3)), (4, Value.int (iI x4))] [] σ (ml_P_divideByRoot_6 n x0 x1 x2 x3 x4 σ) := by
  intro n
  induction n with
  | zero => intros; exact pw_none
  | succ n ih =>
    intro x0 x1 x2 x3 x4 σ
    show pw_Sp X 0 0 6 _ _ σ (mb_P_divideByRoot_6 (ml_P_divideByRoot_6 n) x0 x1 x2 x3 x4 σ)
    unfold mb_P_divideByRoot_6
    refine sp_iload (pc := 6) (i := 4) hX 4 rfl md_P_divideByRoot_6 ?_
    refine sp_if_lt (pc := 8) hX 45 (by decide) md_P_divideByRoot_8 (fun _ => ?_) (fun _ => ?_)
    · refine sp_aload_n (pc := 45) (k := 0) (i := 0) hX rfl 0 rfl md_P_divideByRoot_45 ?_
      refine sp_callVV (pc := 46) (y := my_P_measure) (ccy := prog_7_method_6_code) (nLy := 1) (ret := none) (rmy := mr_P_measure) (n := 0) (idx := 28) (As := []) (st := []) (o := x0) (cells' := 0) (slots' := 0) hX (fun _ h => mc_P_measure h) mk_P_measure mv_P_measure mcl_4 (fun _ h => pw_gd_of h) mq_505 ⟨(Nat.le_of_ble_eq_true rfl), (Nat.le_of_ble_eq_true rfl)⟩ rfl rfl (Nat.le_of_ble_eq_true rfl) ⟨(Nat.le_of_ble_eq_true rfl), (Nat.le_of_ble_eq_true rfl)⟩ rfl rfl md_P_divideByRoot_46 (fun s1 => ?_)
      exact sp_vret (pc := 49) hX hR rfl (Nat.le_of_ble_eq_true rfl) md_P_divideByRoot_49
    · refine sp_aload_n (pc := 11) (k := 0) (i := 0) hX rfl 0 rfl md_P_divideByRoot_11 ?_
      refine sp_getR (pc := 12) (ci := 4) (k := 0) (idx := 9) hX mcl_4 (by decide) mq_187 rfl md_P_divideByRoot_12 (fun v2 => ?_)
      refine sp_iload (pc := 15) (i := 4) hX 4 rfl md_P_divideByRoot_15 ?_
      refine sp_iaload (pc := 17) hX md_P_divideByRoot_17 (fun v3 => ?_)
      refine sp_istore (pc := 18) (i := 5) (L' := [(5, Value.int (iI v3)), (0, Value.ref x0), (1, Value.int (iI x1)), (2, Value.int (iI x2)), (3, Value.int (iI x3)), (4, Value.int (iI x4))]) hX (by decide) rfl md_P_divideByRoot_18 ?_
      refine sp_aload_n (pc := 20) (k := 0) (i := 0) hX rfl 1 rfl md_P_divideByRoot_20 ?_
      refine sp_getR (pc := 21) (ci := 4) (k := 0) (idx := 9) hX mcl_4 (by decide) mq_187 rfl md_P_divideByRoot_21 (fun v4 => ?_)
      refine sp_iload (pc := 24) (i := 4) hX 5 rfl md_P_divideByRoot_24 ?_
      refine sp_iload_n (pc := 26) (k := 3) (i := 3) hX rfl 4 rfl md_P_divideByRoot_26 ?_
      refine sp_iastore (pc := 27) hX md_P_divideByRoot_27 (fun s5 => ?_)
      refine sp_iload (pc := 28) (i := 5) hX 0 rfl md_P_divideByRoot_28 ?_
      refine sp_iload_n (pc := 30) (k := 1) (i := 1) hX rfl 2 rfl md_P_divideByRoot_30 ?_
      refine sp_iload_n (pc := 31) (k := 3) (i := 3) hX rfl 4 rfl md_P_divideByRoot_31 ?_
      refine sp_imul (pc := 32) hX md_P_divideByRoot_32 ?_
      refine sp_iadd (pc := 33) hX md_P_divideByRoot_33 ?_
      refine sp_iload_n (pc := 34) (k := 2) (i := 2) hX rfl 3 rfl md_P_divideByRoot_34 ?_
      refine sp_callSI (pc := 35) (y := my_K_reduce) (ccy := prog_3_method_2_code) (nLy := 2) (ret := (some .int)) (rmy := mr_K_reduce) (n := 2) (idx := 37) (As := [.int (iI (v3 + (x1 * x3))), .int (iI x2)]) (st := []) (cells' := 0) (slots' := 0) hX (fun _ h => mc_K_reduce h) mk_K_reduce mq_373 mq_529 ⟨(Nat.le_of_ble_eq_true rfl), (Nat.le_of_ble_eq_true rfl)⟩ rfl rfl (Nat.le_of_ble_eq_true rfl) ⟨(Nat.le_of_ble_eq_true rfl), (Nat.le_of_ble_eq_true rfl)⟩ rfl rfl md_P_divideByRoot_35 (fun v7 s6 => ?_)
      refine sp_istore_n (pc := 38) (k := 3) (i := 3) (L' := [(3, Value.int (iI v7)), (5, Value.int (iI v3)), (0, Value.ref x0), (1, Value.int (iI x1)), (2, Value.int (iI x2)), (4, Value.int (iI x4))]) hX rfl (by decide) rfl md_P_divideByRoot_38 ?_
      refine sp_iinc (pc := 39) (i := 4) (L' := [(4, Value.int (iI (x4 + (-1)))), (3, Value.int (iI v7)), (5, Value.int (iI v3)), (0, Value.ref x0), (1, Value.int (iI x1)), (2, Value.int (iI x2))]) hX 5 rfl (by decide) rfl md_P_divideByRoot_39 ?_
      refine sp_goto (pc := 42) hX 6 (by decide) md_P_divideByRoot_42 ?_
      refine sp_sub [3, 4, 5, 1, 0] (L' := [(0, Value.ref x0), (1, Value.int (iI x1)), (2, Value.int (iI x2)), (3, Value.int (iI v7)), (4, Value.int (iI (x4 + (-1))))]) rfl ?_
      exact ih x0 x1 x2 v7 (x4 + (-1)) s6
set_option maxHeartbeats 4000000 in
set_option maxRecDepth 20000 in
theorem mc_P_divideByRoot {l : Launch} {E : pw_E} {σ : pw_Sto} {x0 : Nat} {x1 : Int} {x2 : Int} {out : Unit × pw_Sto} (h : mf_P_divideByRoot x0 x1 x2 σ = some out) : pw_CV l E my_P_divideByRoot prog_7_method_11_code 6 none mr_P_divideByRoot [.ref x0, .int (iI x1), .int (iI x2)] σ out := by
  unfold mf_P_divideByRoot at h
  refine pw_entryV (by decide) (Nat.le_of_ble_eq_true rfl) (pw_gd_val h) (fun X hX hR hI => ?_)
  change pw_Ok X prog_7_method_11_code "PadeWorkbench$Polynomial" mr_P_divideByRoot 6 at hX
  show pw_Sp X 0 0 0 [(0, Value.ref x0), (1, Value.int (iI x1)), (2, Value.int (iI x2))] [] σ _
  refine sp_iconst (pc := 0) hX md_P_divideByRoot_0 ?_
  refine sp_istore_n (pc := 1) (k := 3) (i := 3) (L' := [(3, Value.int (iI (0 : Int))), (0, Value.ref x0), (1, Value.int (iI x1)), (2, Value.int (iI x2))]) hX rfl (by decide) rfl md_P_divideByRoot_1 ?_
  refine sp_bipush (pc := 2) hX (by decide) md_P_divideByRoot_2 ?_
  refine sp_istore (pc := 4) (i := 4) (L' := [(4, Value.int (iI (16 : Int))), (3, Value.int (iI (0 : Int))), (0, Value.ref x0), (1, Value.int (iI x1)), (2, Value.int (iI x2))]) hX (by decide) rfl md_P_divideByRoot_4 ?_
  refine sp_sub [2, 3, 4, 1, 0] (L' := [(0, Value.ref x0), (1, Value.int (iI x1)), (2, Value.int (iI x2)), (3, Value.int (iI (0 : Int))), (4, Value.int (iI (16 : Int)))]) rfl ?_
  exact sl_P_divideByRoot_6 hX hR 1000 x0 x1 x2 (0 : Int) (16 : Int) σ
/-! PadeWorkbench$Polynomial.lowest()I -/
theorem md_P_lowest_0 : decode prog_7_method_12_code 0 = .ok (.iconst 0, 1) := by decide +kernel
theorem md_P_lowest_1 : decode prog_7_method_12_code 1 = .ok (.istore_n 1, 1) := by decide +kernel
theorem md_P_lowest_2 : decode prog_7_method_12_code 2 = .ok (.iload_n 1, 1) := by decide +kernel
theorem md_P_lowest_3 : decode prog_7_method_12_code 3 = .ok (.bipush 17, 2) := by decide +kernel
theorem md_P_lowest_5 : decode prog_7_method_12_code 5 = .ok (.if_icmp .ge 25, 3) := by decide +kernel
theorem md_P_lowest_30 : decode prog_7_method_12_code 30 = .ok (.iconst 0, 1) := by decide +kernel
theorem md_P_lowest_31 : decode prog_7_method_12_code 31 = .ok (.ireturn, 1) := by decide +kernel
theorem md_P_lowest_8 : decode prog_7_method_12_code 8 = .ok (.aload_n 0, 1) := by decide +kernel
theorem md_P_lowest_9 : decode prog_7_method_12_code 9 = .ok (.getfield 9, 3) := by decide +kernel
theorem md_P_lowest_12 : decode prog_7_method_12_code 12 = .ok (.iload_n 1, 1) := by decide +kernel
theorem md_P_lowest_13 : decode prog_7_method_12_code 13 = .ok (.iaload, 1) := by decide +kernel
theorem md_P_lowest_14 : decode prog_7_method_12_code 14 = .ok (.ifCond .eq 10, 3) := by decide +kernel
theorem md_P_lowest_24 : decode prog_7_method_12_code 24 = .ok (.iinc 1 1, 3) := by decide +kernel
theorem md_P_lowest_27 : decode prog_7_method_12_code 27 = .ok (.goto (-25), 3) := by decide +kernel
theorem md_P_lowest_17 : decode prog_7_method_12_code 17 = .ok (.aload_n 0, 1) := by decide +kernel
theorem md_P_lowest_18 : decode prog_7_method_12_code 18 = .ok (.getfield 9, 3) := by decide +kernel
theorem md_P_lowest_21 : decode prog_7_method_12_code 21 = .ok (.iload_n 1, 1) := by decide +kernel
theorem md_P_lowest_22 : decode prog_7_method_12_code 22 = .ok (.iaload, 1) := by decide +kernel
theorem md_P_lowest_23 : decode prog_7_method_12_code 23 = .ok (.ireturn, 1) := by decide +kernel
def mb_P_lowest_2 (rc : Nat → Int → pw_Sto → Option (Int × pw_Sto)) : Nat → Int → pw_Sto → Option (Int × pw_Sto) := fun x0 x1 σ => pw_ck x1 (17 : Int) (if (17 : Int) ≤ x1 then some ((0 : Int), σ) else (pw_gr 4 x0 0 σ).bind (fun v1 => (pw_ai v1 x1 σ).bind (fun v2 => pw_ck v2 0 (if v2 = 0 then rc x0 (x1 + 1) σ else (pw_gr 4 x0 0 σ).bind (fun v3 => (pw_ai v3 x1 σ).bind (fun v4 => some (v4, σ)))))))
def ml_P_lowest_2 : Nat → Nat → Int → pw_Sto → Option (Int × pw_Sto) := pw_lp (fun _ _ _ => none) (mb_P_lowest_2)
def mf_P_lowest (x0 : Nat) (σ : pw_Sto) : Option (Int × pw_Sto) := pw_gd 4 x0 σ (ml_P_lowest_2 1000 x0 (0 : Int) σ)
set_option maxHeartbeats 4000000 in
set_option maxRecDepth 20000 in
theorem sl_P_lowest_2 {X : pw_X Int} (hX : pw_Ok X prog_7_method_12_code "PadeWorkbench$Polynomial" mr_P_lowest 2) (hR : pw_RI X prog_7_method_12_code) : ∀ (n : Nat) (x0 : Nat) (x1 : Int) (σ : pw_Sto), pw_Sp X 0 0 2 [(0, Value.ref x0), (1, Value.int (iI x1))] [] σ (ml_P_lowest_2 n x0 x1 σ) := by
  intro n
  induction n with
  | zero => intros; exact pw_none
  | succ n ih =>
    intro x0 x1 σ
    show pw_Sp X 0 0 2 _ _ σ (mb_P_lowest_2 (ml_P_lowest_2 n) x0 x1 σ)
    unfold mb_P_lowest_2
    refine sp_iload_n (pc := 2) (k := 1) (i := 1) hX rfl 1 rfl md_P_lowest_2 ?_
    refine sp_bipush (pc := 3) hX (by decide) md_P_lowest_3 ?_
    refine sp_icmp_ge (pc := 5) hX 30 (by decide) md_P_lowest_5 (fun _ => ?_) (fun _ => ?_)
    · refine sp_iconst (pc := 30) hX md_P_lowest_30 ?_
      exact sp_iret (pc := 31) hX hR rfl (Nat.le_of_ble_eq_true rfl) md_P_lowest_31
    · refine sp_aload_n (pc := 8) (k := 0) (i := 0) hX rfl 0 rfl md_P_lowest_8 ?_
      refine sp_getR (pc := 9) (ci := 4) (k := 0) (idx := 9) hX mcl_4 (by decide) mq_187 rfl md_P_lowest_9 (fun v1 => ?_)
      refine sp_iload_n (pc := 12) (k := 1) (i := 1) hX rfl 1 rfl md_P_lowest_12 ?_
      refine sp_iaload (pc := 13) hX md_P_lowest_13 (fun v2 => ?_)
      refine sp_if_eq (pc := 14) hX 24 (by decide) md_P_lowest_14 (fun _ => ?_) (fun _ => ?_)
      · refine sp_iinc (pc := 24) (i := 1) (L' := [(1, Value.int (iI (x1 + 1))), (0, Value.ref x0)]) hX 1 rfl (by decide) rfl md_P_lowest_24 ?_
        refine sp_goto (pc := 27) hX 2 (by decide) md_P_lowest_27 ?_
        refine sp_sub [1, 0] (L' := [(0, Value.ref x0), (1, Value.int (iI (x1 + 1)))]) rfl ?_
        exact ih x0 (x1 + 1) σ
      · refine sp_aload_n (pc := 17) (k := 0) (i := 0) hX rfl 0 rfl md_P_lowest_17 ?_
        refine sp_getR (pc := 18) (ci := 4) (k := 0) (idx := 9) hX mcl_4 (by decide) mq_187 rfl md_P_lowest_18 (fun v3 => ?_)
        refine sp_iload_n (pc := 21) (k := 1) (i := 1) hX rfl 1 rfl md_P_lowest_21 ?_
        refine sp_iaload (pc := 22) hX md_P_lowest_22 (fun v4 => ?_)
        exact sp_iret (pc := 23) hX hR rfl (Nat.le_of_ble_eq_true rfl) md_P_lowest_23
set_option maxHeartbeats 4000000 in
set_option maxRecDepth 20000 in
theorem mc_P_lowest {l : Launch} {E : pw_E} {σ : pw_Sto} {x0 : Nat} {out : Int × pw_Sto} (h : mf_P_lowest x0 σ = some out) : pw_CI l E my_P_lowest prog_7_method_12_code 2 (some .int) mr_P_lowest [.ref x0] σ out := by
  unfold mf_P_lowest at h
  refine pw_entryI (by decide) (Nat.le_of_ble_eq_true rfl) (pw_gd_val h) (fun X hX hR hI => ?_)
  change pw_Ok X prog_7_method_12_code "PadeWorkbench$Polynomial" mr_P_lowest 2 at hX
  show pw_Sp X 0 0 0 [(0, Value.ref x0)] [] σ _
  refine sp_iconst (pc := 0) hX md_P_lowest_0 ?_
  refine sp_istore_n (pc := 1) (k := 1) (i := 1) (L' := [(1, Value.int (iI (0 : Int))), (0, Value.ref x0)]) hX rfl (by decide) rfl md_P_lowest_1 ?_
  refine sp_sub [1, 0] (L' := [(0, Value.ref x0), (1, Value.int (iI (0 : Int)))]) rfl ?_
  exact sl_P_lowest_2 hX hR 1000 x0 (0 : Int) σ
/-! PadeWorkbench$Polynomial.scaleBy(II)V -/
theorem md_P_scaleBy_0 : decode prog_7_method_9_code 0 = .ok (.iconst 0, 1) := by decide +kernel
theorem md_P_scaleBy_1 : decode prog_7_method_9_code 1 = .ok (.istore_n 3, 1) := by decide +kernel
theorem md_P_scaleBy_2 : decode prog_7_method_9_code 2 = .ok (.iload_n 3, 1) := by decide +kernel
theorem md_P_scaleBy_3 : decode prog_7_method_9_code 3 = .ok (.bipush 17, 2) := by decide +kernel
theorem md_P_scaleBy_5 : decode prog_7_method_9_code 5 = .ok (.if_icmp .ge 26, 3) := by decide +kernel
theorem md_P_scaleBy_31 : decode prog_7_method_9_code 31 = .ok (.return_, 1) := by decide +kernel
theorem md_P_scaleBy_8 : decode prog_7_method_9_code 8 = .ok (.aload_n 0, 1) := by decide +kernel
theorem md_P_scaleBy_9 : decode prog_7_method_9_code 9 = .ok (.getfield 9, 3) := by decide +kernel
theorem md_P_scaleBy_12 : decode prog_7_method_9_code 12 = .ok (.iload_n 3, 1) := by decide +kernel
theorem md_P_scaleBy_13 : decode prog_7_method_9_code 13 = .ok (.aload_n 0, 1) := by decide +kernel
theorem md_P_scaleBy_14 : decode prog_7_method_9_code 14 = .ok (.getfield 9, 3) := by decide +kernel
theorem md_P_scaleBy_17 : decode prog_7_method_9_code 17 = .ok (.iload_n 3, 1) := by decide +kernel
theorem md_P_scaleBy_18 : decode prog_7_method_9_code 18 = .ok (.iaload, 1) := by decide +kernel
theorem md_P_scaleBy_19 : decode prog_7_method_9_code 19 = .ok (.iload_n 1, 1) := by decide +kernel
theorem md_P_scaleBy_20 : decode prog_7_method_9_code 20 = .ok (.iload_n 2, 1) := by decide +kernel
theorem md_P_scaleBy_21 : decode prog_7_method_9_code 21 = .ok (.invokestatic 43, 3) := by decide +kernel
theorem md_P_scaleBy_24 : decode prog_7_method_9_code 24 = .ok (.iastore, 1) := by decide +kernel
theorem md_P_scaleBy_25 : decode prog_7_method_9_code 25 = .ok (.iinc 3 1, 3) := by decide +kernel
theorem md_P_scaleBy_28 : decode prog_7_method_9_code 28 = .ok (.goto (-26), 3) := by decide +kernel
def mb_P_scaleBy_2 (rc : Nat → Int → Int → Int → pw_Sto → Option (Unit × pw_Sto)) : Nat → Int → Int → Int → pw_Sto → Option (Unit × pw_Sto) := fun x0 x1 x2 x3 σ => pw_ck x3 (17 : Int) (if (17 : Int) ≤ x3 then some ((), σ) else (pw_gr 4 x0 0 σ).bind (fun v1 => (pw_gr 4 x0 0 σ).bind (fun v2 => (pw_ai v2 x3 σ).bind (fun v3 => pw_bd (mf_K_times v3 x1 x2 σ) (fun v5 s4 => (pw_si v1 x3 v5 s4).bind (fun s6 => rc x0 x1 x2 (x3 + 1) s6))))))
def ml_P_scaleBy_2 : Nat → Nat → Int → Int → Int → pw_Sto → Option (Unit × pw_Sto) := pw_lp (fun _ _ _ _ _ => none) (mb_P_scaleBy_2)
def mf_P_scaleBy (x0 : Nat) (x1 : Int) (x2 : Int) (σ : pw_Sto) : Option (Unit × pw_Sto) := pw_gd 4 x0 σ (ml_P_scaleBy_2 1000 x0 x1 x2 (0 : Int) σ)
set_option maxHeartbeats 4000000 in
set_option maxRecDepth 20000 in
theorem sl_P_scaleBy_2 {X : pw_X Unit} (hX : pw_Ok X prog_7_method_9_code "PadeWorkbench$Polynomial" mr_P_scaleBy 4) (hR : pw_RV X prog_7_method_9_code) : ∀ (n : Nat) (x0 : Nat) (x1 : Int) (x2 : Int) (x3 : Int) (σ : pw_Sto), pw_Sp X 0 0 2 [(0, Value.ref x0), (1, Value.int (iI x1)), (2, Value.int (iI x2)), (3, Value.int (iI x3))] [] σ (ml_P_scaleBy_2 n x0 x1 x2 x3 σ) := by
  intro n
  induction n with
  | zero => intros; exact pw_none
  | succ n ih =>
    intro x0 x1 x2 x3 σ
    show pw_Sp X 0 0 2 _ _ σ (mb_P_scaleBy_2 (ml_P_scaleBy_2 n) x0 x1 x2 x3 σ)
    unfold mb_P_scaleBy_2
    refine sp_iload_n (pc := 2) (k := 3) (i := 3) hX rfl 3 rfl md_P_scaleBy_2 ?_
    refine sp_bipush (pc := 3) hX (by decide) md_P_scaleBy_3 ?_
    refine sp_icmp_ge (pc := 5) hX 31 (by decide) md_P_scaleBy_5 (fun _ => ?_) (fun _ => ?_)
    · exact sp_vret (pc := 31) hX hR rfl (Nat.le_of_ble_eq_true rfl) md_P_scaleBy_31
    · refine sp_aload_n (pc := 8) (k := 0) (i := 0) hX rfl 0 rfl md_P_scaleBy_8 ?_
      refine sp_getR (pc := 9) (ci := 4) (k := 0) (idx := 9) hX mcl_4 (by decide) mq_187 rfl md_P_scaleBy_9 (fun v1 => ?_)
      refine sp_iload_n (pc := 12) (k := 3) (i := 3) hX rfl 3 rfl md_P_scaleBy_12 ?_
      refine sp_aload_n (pc := 13) (k := 0) (i := 0) hX rfl 0 rfl md_P_scaleBy_13 ?_
      refine sp_getR (pc := 14) (ci := 4) (k := 0) (idx := 9) hX mcl_4 (by decide) mq_187 rfl md_P_scaleBy_14 (fun v2 => ?_)
      refine sp_iload_n (pc := 17) (k := 3) (i := 3) hX rfl 3 rfl md_P_scaleBy_17 ?_
      refine sp_iaload (pc := 18) hX md_P_scaleBy_18 (fun v3 => ?_)
      refine sp_iload_n (pc := 19) (k := 1) (i := 1) hX rfl 1 rfl md_P_scaleBy_19 ?_
      refine sp_iload_n (pc := 20) (k := 2) (i := 2) hX rfl 2 rfl md_P_scaleBy_20 ?_
      refine sp_callSI (pc := 21) (y := my_K_times) (ccy := prog_3_method_4_code) (nLy := 3) (ret := (some .int)) (rmy := mr_K_times) (n := 3) (idx := 43) (As := [.int (iI v3), .int (iI x1), .int (iI x2)]) (st := [.int (iI x3), .ref v1]) (cells' := 0) (slots' := 0) hX (fun _ h => mc_K_times h) mk_K_times mq_402 mq_570 ⟨(Nat.le_of_ble_eq_true rfl), (Nat.le_of_ble_eq_true rfl)⟩ rfl rfl (Nat.le_of_ble_eq_true rfl) ⟨(Nat.le_of_ble_eq_true rfl), (Nat.le_of_ble_eq_true rfl)⟩ rfl rfl md_P_scaleBy_21 (fun v5 s4 => ?_)
      refine sp_iastore (pc := 24) hX md_P_scaleBy_24 (fun s6 => ?_)
      refine sp_iinc (pc := 25) (i := 3) (L' := [(3, Value.int (iI (x3 + 1))), (0, Value.ref x0), (1, Value.int (iI x1)), (2, Value.int (iI x2))]) hX 3 rfl (by decide) rfl md_P_scaleBy_25 ?_
      refine sp_goto (pc := 28) hX 2 (by decide) md_P_scaleBy_28 ?_
      refine sp_sub [1, 2, 3, 0] (L' := [(0, Value.ref x0), (1, Value.int (iI x1)), (2, Value.int (iI x2)), (3, Value.int (iI (x3 + 1)))]) rfl ?_
      exact ih x0 x1 x2 (x3 + 1) s6
set_option maxHeartbeats 4000000 in
set_option maxRecDepth 20000 in
theorem mc_P_scaleBy {l : Launch} {E : pw_E} {σ : pw_Sto} {x0 : Nat} {x1 : Int} {x2 : Int} {out : Unit × pw_Sto} (h : mf_P_scaleBy x0 x1 x2 σ = some out) : pw_CV l E my_P_scaleBy prog_7_method_9_code 4 none mr_P_scaleBy [.ref x0, .int (iI x1), .int (iI x2)] σ out := by
  unfold mf_P_scaleBy at h
  refine pw_entryV (by decide) (Nat.le_of_ble_eq_true rfl) (pw_gd_val h) (fun X hX hR hI => ?_)
  change pw_Ok X prog_7_method_9_code "PadeWorkbench$Polynomial" mr_P_scaleBy 4 at hX
  show pw_Sp X 0 0 0 [(0, Value.ref x0), (1, Value.int (iI x1)), (2, Value.int (iI x2))] [] σ _
  refine sp_iconst (pc := 0) hX md_P_scaleBy_0 ?_
  refine sp_istore_n (pc := 1) (k := 3) (i := 3) (L' := [(3, Value.int (iI (0 : Int))), (0, Value.ref x0), (1, Value.int (iI x1)), (2, Value.int (iI x2))]) hX rfl (by decide) rfl md_P_scaleBy_1 ?_
  refine sp_sub [1, 2, 3, 0] (L' := [(0, Value.ref x0), (1, Value.int (iI x1)), (2, Value.int (iI x2)), (3, Value.int (iI (0 : Int)))]) rfl ?_
  exact sl_P_scaleBy_2 hX hR 1000 x0 x1 x2 (0 : Int) σ
/-! PadeWorkbench$Polynomial.multiplyByRoot(II)V -/
theorem md_P_multiplyByRoot_0 : decode prog_7_method_10_code 0 = .ok (.iload_n 1, 1) := by decide +kernel
theorem md_P_multiplyByRoot_1 : decode prog_7_method_10_code 1 = .ok (.iload_n 2, 1) := by decide +kernel
theorem md_P_multiplyByRoot_2 : decode prog_7_method_10_code 2 = .ok (.invokestatic 47, 3) := by decide +kernel
theorem md_P_multiplyByRoot_5 : decode prog_7_method_10_code 5 = .ok (.istore_n 3, 1) := by decide +kernel
theorem md_P_multiplyByRoot_6 : decode prog_7_method_10_code 6 = .ok (.bipush 16, 2) := by decide +kernel
theorem md_P_multiplyByRoot_8 : decode prog_7_method_10_code 8 = .ok (.istore 4, 2) := by decide +kernel
theorem md_P_multiplyByRoot_10 : decode prog_7_method_10_code 10 = .ok (.iload 4, 2) := by decide +kernel
theorem md_P_multiplyByRoot_12 : decode prog_7_method_10_code 12 = .ok (.ifCond .lt 52, 3) := by decide +kernel
theorem md_P_multiplyByRoot_64 : decode prog_7_method_10_code 64 = .ok (.aload_n 0, 1) := by decide +kernel
theorem md_P_multiplyByRoot_65 : decode prog_7_method_10_code 65 = .ok (.invokevirtual 28, 3) := by decide +kernel
theorem md_P_multiplyByRoot_68 : decode prog_7_method_10_code 68 = .ok (.return_, 1) := by decide +kernel
theorem md_P_multiplyByRoot_15 : decode prog_7_method_10_code 15 = .ok (.iload 4, 2) := by decide +kernel
theorem md_P_multiplyByRoot_17 : decode prog_7_method_10_code 17 = .ok (.ifCond .le 15, 3) := by decide +kernel
theorem md_P_multiplyByRoot_32 : decode prog_7_method_10_code 32 = .ok (.iconst 0, 1) := by decide +kernel
theorem md_P_multiplyByRoot_33 : decode prog_7_method_10_code 33 = .ok (.istore 5, 2) := by decide +kernel
theorem md_P_multiplyByRoot_35 : decode prog_7_method_10_code 35 = .ok (.aload_n 0, 1) := by decide +kernel
theorem md_P_multiplyByRoot_36 : decode prog_7_method_10_code 36 = .ok (.getfield 9, 3) := by decide +kernel
theorem md_P_multiplyByRoot_39 : decode prog_7_method_10_code 39 = .ok (.iload 4, 2) := by decide +kernel
theorem md_P_multiplyByRoot_41 : decode prog_7_method_10_code 41 = .ok (.iload 5, 2) := by decide +kernel
theorem md_P_multiplyByRoot_43 : decode prog_7_method_10_code 43 = .ok (.iload_n 3, 1) := by decide +kernel
theorem md_P_multiplyByRoot_44 : decode prog_7_method_10_code 44 = .ok (.aload_n 0, 1) := by decide +kernel
theorem md_P_multiplyByRoot_45 : decode prog_7_method_10_code 45 = .ok (.getfield 9, 3) := by decide +kernel
theorem md_P_multiplyByRoot_48 : decode prog_7_method_10_code 48 = .ok (.iload 4, 2) := by decide +kernel
theorem md_P_multiplyByRoot_50 : decode prog_7_method_10_code 50 = .ok (.iaload, 1) := by decide +kernel
theorem md_P_multiplyByRoot_51 : decode prog_7_method_10_code 51 = .ok (.imul, 1) := by decide +kernel
theorem md_P_multiplyByRoot_52 : decode prog_7_method_10_code 52 = .ok (.iadd, 1) := by decide +kernel
theorem md_P_multiplyByRoot_53 : decode prog_7_method_10_code 53 = .ok (.iload_n 2, 1) := by decide +kernel
theorem md_P_multiplyByRoot_54 : decode prog_7_method_10_code 54 = .ok (.invokestatic 37, 3) := by decide +kernel
theorem md_P_multiplyByRoot_57 : decode prog_7_method_10_code 57 = .ok (.iastore, 1) := by decide +kernel
theorem md_P_multiplyByRoot_58 : decode prog_7_method_10_code 58 = .ok (.iinc 4 (-1), 3) := by decide +kernel
theorem md_P_multiplyByRoot_61 : decode prog_7_method_10_code 61 = .ok (.goto (-51), 3) := by decide +kernel
theorem md_P_multiplyByRoot_20 : decode prog_7_method_10_code 20 = .ok (.aload_n 0, 1) := by decide +kernel
theorem md_P_multiplyByRoot_21 : decode prog_7_method_10_code 21 = .ok (.getfield 9, 3) := by decide +kernel
theorem md_P_multiplyByRoot_24 : decode prog_7_method_10_code 24 = .ok (.iload 4, 2) := by decide +kernel
theorem md_P_multiplyByRoot_26 : decode prog_7_method_10_code 26 = .ok (.iconst 1, 1) := by decide +kernel
theorem md_P_multiplyByRoot_27 : decode prog_7_method_10_code 27 = .ok (.isub, 1) := by decide +kernel
theorem md_P_multiplyByRoot_28 : decode prog_7_method_10_code 28 = .ok (.iaload, 1) := by decide +kernel
theorem md_P_multiplyByRoot_29 : decode prog_7_method_10_code 29 = .ok (.goto 4, 3) := by decide +kernel
def mj_P_multiplyByRoot_33 (r10 : Nat → Int → Int → Int → pw_Sto → Option (Unit × pw_Sto)) (x0 : Nat) (x2 : Int) (x3 : Int) (x4 : Int) (y0 : Int) (σ : pw_Sto) : Option (Unit × pw_Sto) := (pw_gr 4 x0 0 σ).bind (fun v4 => (pw_gr 4 x0 0 σ).bind (fun v5 => (pw_ai v5 x4 σ).bind (fun v6 => pw_bd (mf_K_reduce (y0 + (x3 * v6)) x2 σ) (fun v8 s7 => (pw_si v4 x4 v8 s7).bind (fun s9 => r10 x0 x2 x3 (x4 + (-1)) s9)))))
def mb_P_multiplyByRoot_10 (rc : Nat → Int → Int → Int → pw_Sto → Option (Unit × pw_Sto)) : Nat → Int → Int → Int → pw_Sto → Option (Unit × pw_Sto) := fun x0 x2 x3 x4 σ => pw_ck x4 0 (if x4 < 0 then pw_bd (mf_P_measure x0 σ) (fun _ s3 => some ((), s3)) else pw_ck x4 0 (if x4 ≤ 0 then mj_P_multiplyByRoot_33 rc x0 x2 x3 x4 (0 : Int) σ else (pw_gr 4 x0 0 σ).bind (fun v10 => (pw_ai v10 (x4 - (1 : Int)) σ).bind (fun v11 => mj_P_multiplyByRoot_33 rc x0 x2 x3 x4 v11 σ))))
def ml_P_multiplyByRoot_10 : Nat → Nat → Int → Int → Int → pw_Sto → Option (Unit × pw_Sto) := pw_lp (fun _ _ _ _ _ => none) (mb_P_multiplyByRoot_10)
def mf_P_multiplyByRoot (x0 : Nat) (x1 : Int) (x2 : Int) (σ : pw_Sto) : Option (Unit × pw_Sto) := pw_gd 4 x0 σ (pw_bd (mf_K_negative x1 x2 σ) (fun v2 s1 => ml_P_multiplyByRoot_10 1000 x0 x2 v2 (16 : Int) s1))
set_option maxHeartbeats 4000000 in
set_option maxRecDepth 20000 in
theorem sj_P_multiplyByRoot_33 {X : pw_X Unit} (hX : pw_Ok X prog_7_method_10_code "PadeWorkbench$Polynomial" mr_P_multiplyByRoot 6) (hR : pw_RV X prog_7_method_10_code) {r10 : Nat → Int → Int → Int → pw_Sto → Option (Unit × pw_Sto)} (h10 : ∀ (z0 : Nat) (z1 : Int) (z2 : Int) (z3 : Int) (σ : pw_Sto), pw_Sp X 0 0 10 [(0, Value.ref z0), (2, Value.int (iI z1)), (3, Value.int (iI z2)), (4, Value.int (iI z3))] [] σ (r10 z0 z1 z2 z3 σ)) (x0 : Nat) (x2 : Int) (x3 : Int) (x4 : Int) (y0 : Int) (σ : pw_Sto) : pw_Sp X 0 0 33 [(0, Value.ref x0), (2, Value.int (iI x2)), (3, Value.int (iI x3)), (4, Value.int (iI x4))] [Value.int (iI y0)] σ (mj_P_multiplyByRoot_33 r10 x0 x2 x3 x4 y0 σ) := by
  unfold mj_P_multiplyByRoot_33
  refine sp_istore (pc := 33) (i := 5) (L' := [(5, Value.int (iI y0)), (0, Value.ref x0), (2, Value.int (iI x2)), (3, Value.int (iI x3)), (4, Value.int (iI x4))]) hX (by decide) rfl md_P_multiplyByRoot_33 ?_
  refine sp_aload_n (pc := 35) (k := 0) (i := 0) hX rfl 1 rfl md_P_multiplyByRoot_35 ?_
  refine sp_getR (pc := 36) (ci := 4) (k := 0) (idx := 9) hX mcl_4 (by decide) mq_187 rfl md_P_multiplyByRoot_36 (fun v4 => ?_)
  refine sp_iload (pc := 39) (i := 4) hX 4 rfl md_P_multiplyByRoot_39 ?_
  refine sp_iload (pc := 41) (i := 5) hX 0 rfl md_P_multiplyByRoot_41 ?_
  refine sp_iload_n (pc := 43) (k := 3) (i := 3) hX rfl 3 rfl md_P_multiplyByRoot_43 ?_
  refine sp_aload_n (pc := 44) (k := 0) (i := 0) hX rfl 1 rfl md_P_multiplyByRoot_44 ?_
  refine sp_getR (pc := 45) (ci := 4) (k := 0) (idx := 9) hX mcl_4 (by decide) mq_187 rfl md_P_multiplyByRoot_45 (fun v5 => ?_)
  refine sp_iload (pc := 48) (i := 4) hX 4 rfl md_P_multiplyByRoot_48 ?_
  refine sp_iaload (pc := 50) hX md_P_multiplyByRoot_50 (fun v6 => ?_)
  refine sp_imul (pc := 51) hX md_P_multiplyByRoot_51 ?_
  refine sp_iadd (pc := 52) hX md_P_multiplyByRoot_52 ?_
  refine sp_iload_n (pc := 53) (k := 2) (i := 2) hX rfl 2 rfl md_P_multiplyByRoot_53 ?_
  refine sp_callSI (pc := 54) (y := my_K_reduce) (ccy := prog_3_method_2_code) (nLy := 2) (ret := (some .int)) (rmy := mr_K_reduce) (n := 2) (idx := 37) (As := [.int (iI (y0 + (x3 * v6))), .int (iI x2)]) (st := [.int (iI x4), .ref v4]) (cells' := 0) (slots' := 0) hX (fun _ h => mc_K_reduce h) mk_K_reduce mq_373 mq_529 ⟨(Nat.le_of_ble_eq_true rfl), (Nat.le_of_ble_eq_true rfl)⟩ rfl rfl (Nat.le_of_ble_eq_true rfl) ⟨(Nat.le_of_ble_eq_true rfl), (Nat.le_of_ble_eq_true rfl)⟩ rfl rfl md_P_multiplyByRoot_54 (fun v8 s7 => ?_)
  refine sp_iastore (pc := 57) hX md_P_multiplyByRoot_57 (fun s9 => ?_)
  refine sp_iinc (pc := 58) (i := 4) (L' := [(4, Value.int (iI (x4 + (-1)))), (5, Value.int (iI y0)), (0, Value.ref x0), (2, Value.int (iI x2)), (3, Value.int (iI x3))]) hX 4 rfl (by decide) rfl md_P_multiplyByRoot_58 ?_
  refine sp_goto (pc := 61) hX 10 (by decide) md_P_multiplyByRoot_61 ?_
  refine sp_sub [2, 3, 4, 0] (L' := [(0, Value.ref x0), (2, Value.int (iI x2)), (3, Value.int (iI x3)), (4, Value.int (iI (x4 + (-1))))]) rfl ?_
  exact h10 x0 x2 x3 (x4 + (-1)) s9
set_option maxHeartbeats 4000000 in
set_option maxRecDepth 20000 in
theorem sl_P_multiplyByRoot_10 {X : pw_X Unit} (hX : pw_Ok X prog_7_method_10_code "PadeWorkbench$Polynomial" mr_P_multiplyByRoot 6) (hR : pw_RV X prog_7_method_10_code) : ∀ (n : Nat) (x0 : Nat) (x2 : Int) (x3 : Int) (x4 : Int) (σ : pw_Sto), pw_Sp X 0 0 10 [(0, Value.ref x0), (2, Value.int (iI x2)), (3, Value.int (iI x3)), (4, Value.int (iI x4))] [] σ (ml_P_multiplyByRoot_10 n x0 x2 x3 x4 σ) := by
  intro n
  induction n with
  | zero => intros; exact pw_none
  | succ n ih =>
    intro x0 x2 x3 x4 σ
    show pw_Sp X 0 0 10 _ _ σ (mb_P_multiplyByRoot_10 (ml_P_multiplyByRoot_10 n) x0 x2 x3 x4 σ)
    unfold mb_P_multiplyByRoot_10
    refine sp_iload (pc := 10) (i := 4) hX 3 rfl md_P_multiplyByRoot_10 ?_
    refine sp_if_lt (pc := 12) hX 64 (by decide) md_P_multiplyByRoot_12 (fun _ => ?_) (fun _ => ?_)
    · refine sp_aload_n (pc := 64) (k := 0) (i := 0) hX rfl 0 rfl md_P_multiplyByRoot_64 ?_
      refine sp_callVV (pc := 65) (y := my_P_measure) (ccy := prog_7_method_6_code) (nLy := 1) (ret := none) (rmy := mr_P_measure) (n := 0) (idx := 28) (As := []) (st := []) (o := x0) (cells' := 0) (slots' := 0) hX (fun _ h => mc_P_measure h) mk_P_measure mv_P_measure mcl_4 (fun _ h => pw_gd_of h) mq_505 ⟨(Nat.le_of_ble_eq_true rfl), (Nat.le_of_ble_eq_true rfl)⟩ rfl rfl (Nat.le_of_ble_eq_true rfl) ⟨(Nat.le_of_ble_eq_true rfl), (Nat.le_of_ble_eq_true rfl)⟩ rfl rfl md_P_multiplyByRoot_65 (fun s3 => ?_)
      exact sp_vret (pc := 68) hX hR rfl (Nat.le_of_ble_eq_true rfl) md_P_multiplyByRoot_68
    · refine sp_iload (pc := 15) (i := 4) hX 3 rfl md_P_multiplyByRoot_15 ?_
      refine sp_if_le (pc := 17) hX 32 (by decide) md_P_multiplyByRoot_17 (fun _ => ?_) (fun _ => ?_)
      · refine sp_iconst (pc := 32) hX md_P_multiplyByRoot_32 ?_
        exact sj_P_multiplyByRoot_33 hX hR ih x0 x2 x3 x4 (0 : Int) σ
      · refine sp_aload_n (pc := 20) (k := 0) (i := 0) hX rfl 0 rfl md_P_multiplyByRoot_20 ?_
        refine sp_getR (pc := 21) (ci := 4) (k := 0) (idx := 9) hX mcl_4 (by decide) mq_187 rfl md_P_multiplyByRoot_21 (fun v10 => ?_)
        refine sp_iload (pc := 24) (i := 4) hX 3 rfl md_P_multiplyByRoot_24 ?_
        refine sp_iconst (pc := 26) hX md_P_multiplyByRoot_26 ?_
        refine sp_isub (pc := 27) hX md_P_multiplyByRoot_27 ?_
        refine sp_iaload (pc := 28) hX md_P_multiplyByRoot_28 (fun v11 => ?_)
        refine sp_goto (pc := 29) hX 33 (by decide) md_P_multiplyByRoot_29 ?_
        exact sj_P_multiplyByRoot_33 hX hR ih x0 x2 x3 x4 v11 σ
set_option maxHeartbeats 4000000 in
set_option maxRecDepth 20000 in
theorem mc_P_multiplyByRoot {l : Launch} {E : pw_E} {σ : pw_Sto} {x0 : Nat} {x1 : Int} {x2 : Int} {out : Unit × pw_Sto} (h : mf_P_multiplyByRoot x0 x1 x2 σ = some out) : pw_CV l E my_P_multiplyByRoot prog_7_method_10_code 6 none mr_P_multiplyByRoot [.ref x0, .int (iI x1), .int (iI x2)] σ out := by
  unfold mf_P_multiplyByRoot at h
  refine pw_entryV (by decide) (Nat.le_of_ble_eq_true rfl) (pw_gd_val h) (fun X hX hR hI => ?_)
  change pw_Ok X prog_7_method_10_code "PadeWorkbench$Polynomial" mr_P_multiplyByRoot 6 at hX
  show pw_Sp X 0 0 0 [(0, Value.ref x0), (1, Value.int (iI x1)), (2, Value.int (iI x2))] [] σ _
  refine sp_iload_n (pc := 0) (k := 1) (i := 1) hX rfl 1 rfl md_P_multiplyByRoot_0 ?_
  refine sp_iload_n (pc := 1) (k := 2) (i := 2) hX rfl 2 rfl md_P_multiplyByRoot_1 ?_
  refine sp_callSI (pc := 2) (y := my_K_negative) (ccy := prog_3_method_3_code) (nLy := 2) (ret := (some .int)) (rmy := mr_K_negative) (n := 2) (idx := 47) (As := [.int (iI x1), .int (iI x2)]) (st := []) (cells' := 0) (slots' := 0) hX (fun _ h => mc_K_negative h) mk_K_negative mq_405 mq_750 ⟨(Nat.le_of_ble_eq_true rfl), (Nat.le_of_ble_eq_true rfl)⟩ rfl rfl (Nat.le_of_ble_eq_true rfl) ⟨(Nat.le_of_ble_eq_true rfl), (Nat.le_of_ble_eq_true rfl)⟩ rfl rfl md_P_multiplyByRoot_2 (fun v2 s1 => ?_)
  refine sp_istore_n (pc := 5) (k := 3) (i := 3) (L' := [(3, Value.int (iI v2)), (0, Value.ref x0), (1, Value.int (iI x1)), (2, Value.int (iI x2))]) hX rfl (by decide) rfl md_P_multiplyByRoot_5 ?_
  refine sp_bipush (pc := 6) hX (by decide) md_P_multiplyByRoot_6 ?_
  refine sp_istore (pc := 8) (i := 4) (L' := [(4, Value.int (iI (16 : Int))), (3, Value.int (iI v2)), (0, Value.ref x0), (1, Value.int (iI x1)), (2, Value.int (iI x2))]) hX (by decide) rfl md_P_multiplyByRoot_8 ?_
  refine sp_sub [2, 4, 1, 0] (L' := [(0, Value.ref x0), (2, Value.int (iI x2)), (3, Value.int (iI v2)), (4, Value.int (iI (16 : Int)))]) rfl ?_
  exact sl_P_multiplyByRoot_10 hX hR 1000 x0 x2 v2 (16 : Int) s1
