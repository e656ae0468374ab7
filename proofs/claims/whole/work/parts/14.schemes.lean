/-! PadeWorkbench$Toeplitz.<init>()V -/
theorem md_D_init_0 : decode prog_12_method_1_code 0 = .ok (.aload_n 0, 1) := by decide +kernel
theorem md_D_init_1 : decode prog_12_method_1_code 1 = .ok (.invokespecial 3, 3) := by decide +kernel
theorem md_D_init_4 : decode prog_12_method_1_code 4 = .ok (.aload_n 0, 1) := by decide +kernel
theorem md_D_init_5 : decode prog_12_method_1_code 5 = .ok (.bipush 16, 2) := by decide +kernel
theorem md_D_init_7 : decode prog_12_method_1_code 7 = .ok (.bipush 16, 2) := by decide +kernel
theorem md_D_init_9 : decode prog_12_method_1_code 9 = .ok (.multianewarray 9 2, 4) := by decide +kernel
theorem md_D_init_13 : decode prog_12_method_1_code 13 = .ok (.putfield 11, 3) := by decide +kernel
theorem md_D_init_16 : decode prog_12_method_1_code 16 = .ok (.return_, 1) := by decide +kernel
def mf_D_init (x0 : Nat) (σ : pw_Sto) : Option (Unit × pw_Sto) := pw_bd (pw_nm 16 16 σ) (fun v1 s2 => (pw_pr 8 x0 0 v1 s2).bind (fun s3 => some ((), s3)))
set_option maxHeartbeats 4000000 in
set_option maxRecDepth 20000 in
theorem mc_D_init {l : Launch} {E : pw_E} {σ : pw_Sto} {x0 : Nat} {out : Unit × pw_Sto} (h : mf_D_init x0 σ = some out) : pw_CV l E my_D_init prog_12_method_1_code 1 none mr_D_init [.ref x0] σ out := by
  unfold mf_D_init at h
  refine pw_entryV (by decide) (Nat.le_of_ble_eq_true rfl) h (fun X hX hR hI => ?_)
  change pw_Ok X prog_12_method_1_code "PadeWorkbench$Toeplitz" mr_D_init 1 at hX
  show pw_Sp X 0 0 0 [(0, Value.ref x0)] [] σ _
  refine sp_aload_n (pc := 0) (k := 0) (i := 0) hX rfl 0 rfl md_D_init_0 ?_
  refine sp_objInit (pc := 1) (idx := 3) hX mq_244 mq_90 mq_91 (Nat.le_of_ble_eq_true rfl) (Nat.le_of_ble_eq_true rfl) md_D_init_1 ?_
  refine sp_aload_n (pc := 4) (k := 0) (i := 0) hX rfl 0 rfl md_D_init_4 ?_
  refine sp_bipush (pc := 5) hX (by decide) md_D_init_5 ?_
  refine sp_bipush (pc := 7) hX (by decide) md_D_init_7 ?_
  refine sp_mna (pc := 9) (n := 16) (k := 16) (idx := 9) (cells' := 17) (slots' := 272) hX mq_125 mq_245 (Nat.le_of_ble_eq_true rfl) (Nat.le_of_ble_eq_true rfl) rfl rfl md_D_init_9 (fun v1 s2 => ?_)
  refine sp_putRF (pc := 13) (ci := 8) (k := 0) (idx := 11) hX mcl_8 (by decide) mq_246 rfl rfl hI rfl mty_8_0 md_D_init_13 (fun s3 => ?_)
  exact sp_vret (pc := 16) hX hR rfl (Nat.le_of_ble_eq_true rfl) md_D_init_16
/-! PadeWorkbench$Scheme.<init>()V -/
theorem md_Q_init_0 : decode prog_9_method_1_code 0 = .ok (.aload_n 0, 1) := by decide +kernel
theorem md_Q_init_1 : decode prog_9_method_1_code 1 = .ok (.invokespecial 3, 3) := by decide +kernel
theorem md_Q_init_4 : decode prog_9_method_1_code 4 = .ok (.aload_n 0, 1) := by decide +kernel
theorem md_Q_init_5 : decode prog_9_method_1_code 5 = .ok (.bipush 16, 2) := by decide +kernel
theorem md_Q_init_7 : decode prog_9_method_1_code 7 = .ok (.newarray .int, 2) := by decide +kernel
theorem md_Q_init_9 : decode prog_9_method_1_code 9 = .ok (.putfield 9, 3) := by decide +kernel
theorem md_Q_init_12 : decode prog_9_method_1_code 12 = .ok (.aload_n 0, 1) := by decide +kernel
theorem md_Q_init_13 : decode prog_9_method_1_code 13 = .ok (.bipush 16, 2) := by decide +kernel
theorem md_Q_init_15 : decode prog_9_method_1_code 15 = .ok (.newarray .int, 2) := by decide +kernel
theorem md_Q_init_17 : decode prog_9_method_1_code 17 = .ok (.putfield 15, 3) := by decide +kernel
theorem md_Q_init_20 : decode prog_9_method_1_code 20 = .ok (.return_, 1) := by decide +kernel
def mf_Q_init (x0 : Nat) (σ : pw_Sto) : Option (Unit × pw_Sto) := pw_bd (pw_na 16 σ) (fun v1 s2 => (pw_pr 6 x0 0 v1 s2).bind (fun s3 => pw_bd (pw_na 16 s3) (fun v4 s5 => (pw_pr 6 x0 1 v4 s5).bind (fun s6 => some ((), s6)))))
set_option maxHeartbeats 4000000 in
set_option maxRecDepth 20000 in
theorem mc_Q_init {l : Launch} {E : pw_E} {σ : pw_Sto} {x0 : Nat} {out : Unit × pw_Sto} (h : mf_Q_init x0 σ = some out) : pw_CV l E my_Q_init prog_9_method_1_code 1 none mr_Q_init [.ref x0] σ out := by
  unfold mf_Q_init at h
  refine pw_entryV (by decide) (Nat.le_of_ble_eq_true rfl) h (fun X hX hR hI => ?_)
  change pw_Ok X prog_9_method_1_code "PadeWorkbench$Scheme" mr_Q_init 1 at hX
  show pw_Sp X 0 0 0 [(0, Value.ref x0)] [] σ _
  refine sp_aload_n (pc := 0) (k := 0) (i := 0) hX rfl 0 rfl md_Q_init_0 ?_
  refine sp_objInit (pc := 1) (idx := 3) hX mq_255 mq_90 mq_91 (Nat.le_of_ble_eq_true rfl) (Nat.le_of_ble_eq_true rfl) md_Q_init_1 ?_
  refine sp_aload_n (pc := 4) (k := 0) (i := 0) hX rfl 0 rfl md_Q_init_4 ?_
  refine sp_bipush (pc := 5) hX (by decide) md_Q_init_5 ?_
  refine sp_newa (pc := 7) (n := 16) (slots' := 16) hX mq_125 (Nat.le_of_ble_eq_true rfl) (Nat.le_of_ble_eq_true rfl) rfl md_Q_init_7 (fun v1 s2 => ?_)
  refine sp_putRF (pc := 9) (ci := 6) (k := 0) (idx := 9) hX mcl_6 (by decide) mq_256 rfl rfl hI rfl mty_6_0 md_Q_init_9 (fun s3 => ?_)
  refine sp_aload_n (pc := 12) (k := 0) (i := 0) hX rfl 0 rfl md_Q_init_12 ?_
  refine sp_bipush (pc := 13) hX (by decide) md_Q_init_13 ?_
  refine sp_newa (pc := 15) (n := 16) (slots' := 32) hX mq_125 (Nat.le_of_ble_eq_true rfl) (Nat.le_of_ble_eq_true rfl) rfl md_Q_init_15 (fun v4 s5 => ?_)
  refine sp_putRF (pc := 17) (ci := 6) (k := 1) (idx := 15) hX mcl_6 (by decide) mq_257 rfl rfl hI rfl mty_6_1 md_Q_init_17 (fun s6 => ?_)
  exact sp_vret (pc := 20) hX hR rfl (Nat.le_of_ble_eq_true rfl) md_Q_init_20
/-! PadeWorkbench$Register.<init>()V -/
theorem md_B_init_0 : decode prog_8_method_1_code 0 = .ok (.aload_n 0, 1) := by decide +kernel
theorem md_B_init_1 : decode prog_8_method_1_code 1 = .ok (.invokespecial 3, 3) := by decide +kernel
theorem md_B_init_4 : decode prog_8_method_1_code 4 = .ok (.aload_n 0, 1) := by decide +kernel
theorem md_B_init_5 : decode prog_8_method_1_code 5 = .ok (.bipush 17, 2) := by decide +kernel
theorem md_B_init_7 : decode prog_8_method_1_code 7 = .ok (.newarray .int, 2) := by decide +kernel
theorem md_B_init_9 : decode prog_8_method_1_code 9 = .ok (.putfield 9, 3) := by decide +kernel
theorem md_B_init_12 : decode prog_8_method_1_code 12 = .ok (.aload_n 0, 1) := by decide +kernel
theorem md_B_init_13 : decode prog_8_method_1_code 13 = .ok (.bipush 17, 2) := by decide +kernel
theorem md_B_init_15 : decode prog_8_method_1_code 15 = .ok (.newarray .int, 2) := by decide +kernel
theorem md_B_init_17 : decode prog_8_method_1_code 17 = .ok (.putfield 15, 3) := by decide +kernel
theorem md_B_init_20 : decode prog_8_method_1_code 20 = .ok (.aload_n 0, 1) := by decide +kernel
theorem md_B_init_21 : decode prog_8_method_1_code 21 = .ok (.bipush 17, 2) := by decide +kernel
theorem md_B_init_23 : decode prog_8_method_1_code 23 = .ok (.newarray .int, 2) := by decide +kernel
theorem md_B_init_25 : decode prog_8_method_1_code 25 = .ok (.putfield 18, 3) := by decide +kernel
theorem md_B_init_28 : decode prog_8_method_1_code 28 = .ok (.return_, 1) := by decide +kernel
def mf_B_init (x0 : Nat) (σ : pw_Sto) : Option (Unit × pw_Sto) := pw_bd (pw_na 17 σ) (fun v1 s2 => (pw_pr 5 x0 0 v1 s2).bind (fun s3 => pw_bd (pw_na 17 s3) (fun v4 s5 => (pw_pr 5 x0 1 v4 s5).bind (fun s6 => pw_bd (pw_na 17 s6) (fun v7 s8 => (pw_pr 5 x0 2 v7 s8).bind (fun s9 => some ((), s9)))))))
set_option maxHeartbeats 4000000 in
set_option maxRecDepth 20000 in
theorem mc_B_init {l : Launch} {E : pw_E} {σ : pw_Sto} {x0 : Nat} {out : Unit × pw_Sto} (h : mf_B_init x0 σ = some out) : pw_CV l E my_B_init prog_8_method_1_code 1 none mr_B_init [.ref x0] σ out := by
  unfold mf_B_init at h
  refine pw_entryV (by decide) (Nat.le_of_ble_eq_true rfl) h (fun X hX hR hI => ?_)
  change pw_Ok X prog_8_method_1_code "PadeWorkbench$Register" mr_B_init 1 at hX
  show pw_Sp X 0 0 0 [(0, Value.ref x0)] [] σ _
  refine sp_aload_n (pc := 0) (k := 0) (i := 0) hX rfl 0 rfl md_B_init_0 ?_
  refine sp_objInit (pc := 1) (idx := 3) hX mq_268 mq_90 mq_91 (Nat.le_of_ble_eq_true rfl) (Nat.le_of_ble_eq_true rfl) md_B_init_1 ?_
  refine sp_aload_n (pc := 4) (k := 0) (i := 0) hX rfl 0 rfl md_B_init_4 ?_
  refine sp_bipush (pc := 5) hX (by decide) md_B_init_5 ?_
  refine sp_newa (pc := 7) (n := 17) (slots' := 17) hX mq_125 (Nat.le_of_ble_eq_true rfl) (Nat.le_of_ble_eq_true rfl) rfl md_B_init_7 (fun v1 s2 => ?_)
  refine sp_putR (pc := 9) (ci := 5) (k := 0) (idx := 9) hX mcl_5 (by decide) mq_269 rfl rfl mty_5_0 md_B_init_9 (fun s3 => ?_)
  refine sp_aload_n (pc := 12) (k := 0) (i := 0) hX rfl 0 rfl md_B_init_12 ?_
  refine sp_bipush (pc := 13) hX (by decide) md_B_init_13 ?_
  refine sp_newa (pc := 15) (n := 17) (slots' := 34) hX mq_125 (Nat.le_of_ble_eq_true rfl) (Nat.le_of_ble_eq_true rfl) rfl md_B_init_15 (fun v4 s5 => ?_)
  refine sp_putR (pc := 17) (ci := 5) (k := 1) (idx := 15) hX mcl_5 (by decide) mq_271 rfl rfl mty_5_1 md_B_init_17 (fun s6 => ?_)
  refine sp_aload_n (pc := 20) (k := 0) (i := 0) hX rfl 0 rfl md_B_init_20 ?_
  refine sp_bipush (pc := 21) hX (by decide) md_B_init_21 ?_
  refine sp_newa (pc := 23) (n := 17) (slots' := 51) hX mq_125 (Nat.le_of_ble_eq_true rfl) (Nat.le_of_ble_eq_true rfl) rfl md_B_init_23 (fun v7 s8 => ?_)
  refine sp_putR (pc := 25) (ci := 5) (k := 2) (idx := 18) hX mcl_5 (by decide) mq_272 rfl rfl mty_5_2 md_B_init_25 (fun s9 => ?_)
  exact sp_vret (pc := 28) hX hR rfl (Nat.le_of_ble_eq_true rfl) md_B_init_28
/-! PadeWorkbench$Toeplitz.fill([III)V -/
theorem md_D_fill_0 : decode prog_12_method_3_code 0 = .ok (.iconst 0, 1) := by decide +kernel
theorem md_D_fill_1 : decode prog_12_method_3_code 1 = .ok (.istore 4, 2) := by decide +kernel
theorem md_D_fill_3 : decode prog_12_method_3_code 3 = .ok (.iload 4, 2) := by decide +kernel
theorem md_D_fill_5 : decode prog_12_method_3_code 5 = .ok (.iload_n 3, 1) := by decide +kernel
theorem md_D_fill_6 : decode prog_12_method_3_code 6 = .ok (.if_icmp .ge 73, 3) := by decide +kernel
theorem md_D_fill_79 : decode prog_12_method_3_code 79 = .ok (.return_, 1) := by decide +kernel
theorem md_D_fill_9 : decode prog_12_method_3_code 9 = .ok (.iload 4, 2) := by decide +kernel
theorem md_D_fill_11 : decode prog_12_method_3_code 11 = .ok (.bipush 16, 2) := by decide +kernel
theorem md_D_fill_13 : decode prog_12_method_3_code 13 = .ok (.if_icmp .ge 66, 3) := by decide +kernel
theorem md_D_fill_16 : decode prog_12_method_3_code 16 = .ok (.iconst 0, 1) := by decide +kernel
theorem md_D_fill_17 : decode prog_12_method_3_code 17 = .ok (.istore 5, 2) := by decide +kernel
theorem md_D_fill_19 : decode prog_12_method_3_code 19 = .ok (.iload 5, 2) := by decide +kernel
theorem md_D_fill_21 : decode prog_12_method_3_code 21 = .ok (.iload_n 3, 1) := by decide +kernel
theorem md_D_fill_22 : decode prog_12_method_3_code 22 = .ok (.if_icmp .ge 51, 3) := by decide +kernel
theorem md_D_fill_73 : decode prog_12_method_3_code 73 = .ok (.iinc 4 1, 3) := by decide +kernel
theorem md_D_fill_76 : decode prog_12_method_3_code 76 = .ok (.goto (-73), 3) := by decide +kernel
theorem md_D_fill_25 : decode prog_12_method_3_code 25 = .ok (.iload 5, 2) := by decide +kernel
theorem md_D_fill_27 : decode prog_12_method_3_code 27 = .ok (.bipush 16, 2) := by decide +kernel
theorem md_D_fill_29 : decode prog_12_method_3_code 29 = .ok (.if_icmp .ge 44, 3) := by decide +kernel
theorem md_D_fill_32 : decode prog_12_method_3_code 32 = .ok (.iload_n 2, 1) := by decide +kernel
theorem md_D_fill_33 : decode prog_12_method_3_code 33 = .ok (.iload 4, 2) := by decide +kernel
theorem md_D_fill_35 : decode prog_12_method_3_code 35 = .ok (.iadd, 1) := by decide +kernel
theorem md_D_fill_36 : decode prog_12_method_3_code 36 = .ok (.iload 5, 2) := by decide +kernel
theorem md_D_fill_38 : decode prog_12_method_3_code 38 = .ok (.isub, 1) := by decide +kernel
theorem md_D_fill_39 : decode prog_12_method_3_code 39 = .ok (.istore 6, 2) := by decide +kernel
theorem md_D_fill_41 : decode prog_12_method_3_code 41 = .ok (.aload_n 0, 1) := by decide +kernel
theorem md_D_fill_42 : decode prog_12_method_3_code 42 = .ok (.getfield 11, 3) := by decide +kernel
theorem md_D_fill_45 : decode prog_12_method_3_code 45 = .ok (.iload 4, 2) := by decide +kernel
theorem md_D_fill_47 : decode prog_12_method_3_code 47 = .ok (.aaload, 1) := by decide +kernel
theorem md_D_fill_48 : decode prog_12_method_3_code 48 = .ok (.iload 5, 2) := by decide +kernel
theorem md_D_fill_50 : decode prog_12_method_3_code 50 = .ok (.iload 6, 2) := by decide +kernel
theorem md_D_fill_52 : decode prog_12_method_3_code 52 = .ok (.invokestatic 41, 3) := by decide +kernel
theorem md_D_fill_55 : decode prog_12_method_3_code 55 = .ok (.ifCond .eq 10, 3) := by decide +kernel
theorem md_D_fill_65 : decode prog_12_method_3_code 65 = .ok (.iconst 0, 1) := by decide +kernel
theorem md_D_fill_66 : decode prog_12_method_3_code 66 = .ok (.iastore, 1) := by decide +kernel
theorem md_D_fill_67 : decode prog_12_method_3_code 67 = .ok (.iinc 5 1, 3) := by decide +kernel
theorem md_D_fill_70 : decode prog_12_method_3_code 70 = .ok (.goto (-51), 3) := by decide +kernel
theorem md_D_fill_58 : decode prog_12_method_3_code 58 = .ok (.aload_n 1, 1) := by decide +kernel
theorem md_D_fill_59 : decode prog_12_method_3_code 59 = .ok (.iload 6, 2) := by decide +kernel
theorem md_D_fill_61 : decode prog_12_method_3_code 61 = .ok (.iaload, 1) := by decide +kernel
theorem md_D_fill_62 : decode prog_12_method_3_code 62 = .ok (.goto 4, 3) := by decide +kernel
def mb_D_fill_19 (r3 : Nat → Nat → Int → Int → Int → pw_Sto → Option (Unit × pw_Sto)) (rc : Nat → Nat → Int → Int → Int → Int → pw_Sto → Option (Unit × pw_Sto)) : Nat → Nat → Int → Int → Int → Int → pw_Sto → Option (Unit × pw_Sto) := fun x0 x1 x2 x3 x4 x5 σ => pw_ck x5 x3 (if x3 ≤ x5 then r3 x0 x1 x2 x3 (x4 + 1) σ else pw_ck x5 (16 : Int) (if (16 : Int) ≤ x5 then r3 x0 x1 x2 x3 (x4 + 1) σ else (pw_gr 8 x0 0 σ).bind (fun v1 => (pw_ar 13 v1 x4 σ).bind (fun v2 => pw_bd (mf_W_isTerm ((x2 + x4) - x5) σ) (fun v4 s3 => pw_ck v4 0 (if v4 = 0 then (pw_si v2 x5 (0 : Int) s3).bind (fun s5 => rc x0 x1 x2 x3 x4 (x5 + 1) s5) else (pw_ai x1 ((x2 + x4) - x5) s3).bind (fun v6 => (pw_si v2 x5 v6 s3).bind (fun s7 => rc x0 x1 x2 x3 x4 (x5 + 1) s7))))))))
def ml_D_fill_19 (r3 : Nat → Nat → Int → Int → Int → pw_Sto → Option (Unit × pw_Sto)) : Nat → Nat → Nat → Int → Int → Int → Int → pw_Sto → Option (Unit × pw_Sto) := pw_lp (fun _ _ _ _ _ _ _ => none) (mb_D_fill_19 r3)
def mb_D_fill_3 (rc : Nat → Nat → Int → Int → Int → pw_Sto → Option (Unit × pw_Sto)) : Nat → Nat → Int → Int → Int → pw_Sto → Option (Unit × pw_Sto) := fun x0 x1 x2 x3 x4 σ => pw_ck x4 x3 (if x3 ≤ x4 then some ((), σ) else pw_ck x4 (16 : Int) (if (16 : Int) ≤ x4 then some ((), σ) else ml_D_fill_19 rc 1000 x0 x1 x2 x3 x4 (0 : Int) σ))
def ml_D_fill_3 : Nat → Nat → Nat → Int → Int → Int → pw_Sto → Option (Unit × pw_Sto) := pw_lp (fun _ _ _ _ _ _ => none) (mb_D_fill_3)
def mf_D_fill (x0 : Nat) (x1 : Nat) (x2 : Int) (x3 : Int) (σ : pw_Sto) : Option (Unit × pw_Sto) := pw_gd 8 x0 σ (ml_D_fill_3 1000 x0 x1 x2 x3 (0 : Int) σ)
set_option maxHeartbeats 4000000 in
set_option maxRecDepth 20000 in
theorem sl_D_fill_19 {X : pw_X Unit} (hX : pw_Ok X prog_12_method_3_code "PadeWorkbench$Toeplitz" mr_D_fill 7) (hR : pw_RV X prog_12_method_3_code) {r3 : Nat → Nat → Int → Int → Int → pw_Sto → Option (Unit × pw_Sto)} (h3 : ∀ (z0 : Nat) (z1 : Nat) (z2 : Int) (z3 : Int) (z4 : Int) (σ : pw_Sto), pw_Sp X 0 0 3 [(0, Value.ref z0), (1, Value.ref z1), (2, Value.int (iI z2)), (3, Value.int (iI z3)), (4, Value.int (iI z4))] [] σ (r3 z0 z1 z2 z3 z4 σ)) : ∀ (n : Nat) (x0 : Nat) (x1 : Nat) (x2 : Int) (x3 : Int) (x4 : Int) (x5 : Int) (σ : pw_Sto), pw_Sp X 0 0 19 [(0, Value.ref x0), (1, Value.ref x1), (2, Value.int (iI x2)), (3, Value.int (iI x3)), (4, Value.int (iI x4)), (5, Value.int (iI x5))] [] σ (ml_D_fill_19 r3 n x0 x1 x2 x3 x4 x5 σ) := by
  intro n
  induction n with
  | zero => intros; exact pw_none
  | succ n ih =>
    intro x0 x1 x2 x3 x4 x5 σ
    show pw_Sp X 0 0 19 _ _ σ (mb_D_fill_19 r3 (ml_D_fill_19 r3 n) x0 x1 x2 x3 x4 x5 σ)
    unfold mb_D_fill_19
    refine sp_iload (pc := 19) (i := 5) hX 5 rfl md_D_fill_19 ?_
    refine sp_iload_n (pc := 21) (k := 3) (i := 3) hX rfl 3 rfl md_D_fill_21 ?_
    refine sp_icmp_ge (pc := 22) hX 73 (by decide) md_D_fill_22 (fun _ => ?_) (fun _ => ?_)
    · refine sp_iinc (pc := 73) (i := 4) (L' := [(4, Value.int (iI (x4 + 1))), (0, Value.ref x0), (1, Value.ref x1), (2, Value.int (iI x2)), (3, Value.int (iI x3)), (5, Value.int (iI x5))]) hX 4 rfl (by decide) rfl md_D_fill_73 ?_
      refine sp_goto (pc := 76) hX 3 (by decide) md_D_fill_76 ?_
      refine sp_sub [1, 2, 3, 4, 0] (L' := [(0, Value.ref x0), (1, Value.ref x1), (2, Value.int (iI x2)), (3, Value.int (iI x3)), (4, Value.int (iI (x4 + 1)))]) rfl ?_
      exact h3 x0 x1 x2 x3 (x4 + 1) σ
    · refine sp_iload (pc := 25) (i := 5) hX 5 rfl md_D_fill_25 ?_
      refine sp_bipush (pc := 27) hX (by decide) md_D_fill_27 ?_
      refine sp_icmp_ge (pc := 29) hX 73 (by decide) md_D_fill_29 (fun _ => ?_) (fun _ => ?_)
      · refine sp_iinc (pc := 73) (i := 4) (L' := [(4, Value.int (iI (x4 + 1))), (0, Value.ref x0), (1, Value.ref x1), (2, Value.int (iI x2)), (3, Value.int (iI x3)), (5, Value.int (iI x5))]) hX 4 rfl (by decide) rfl md_D_fill_73 ?_
        refine sp_goto (pc := 76) hX 3 (by decide) md_D_fill_76 ?_
        refine sp_sub [1, 2, 3, 4, 0] (L' := [(0, Value.ref x0), (1, Value.ref x1), (2, Value.int (iI x2)), (3, Value.int (iI x3)), (4, Value.int (iI (x4 + 1)))]) rfl ?_
        exact h3 x0 x1 x2 x3 (x4 + 1) σ
      · refine sp_iload_n (pc := 32) (k := 2) (i := 2) hX rfl 2 rfl md_D_fill_32 ?_
        refine sp_iload (pc := 33) (i := 4) hX 4 rfl md_D_fill_33 ?_
        refine sp_iadd (pc := 35) hX md_D_fill_35 ?_
        refine sp_iload (pc := 36) (i := 5) hX 5 rfl md_D_fill_36 ?_
        refine sp_isub (pc := 38) hX md_D_fill_38 ?_
        refine sp_istore (pc := 39) (i := 6) (L' := [(6, Value.int (iI ((x2 + x4) - x5))), (0, Value.ref x0), (1, Value.ref x1), (2, Value.int (iI x2)), (3, Value.int (iI x3)), (4, Value.int (iI x4)), (5, Value.int (iI x5))]) hX (by decide) rfl md_D_fill_39 ?_
        refine sp_aload_n (pc := 41) (k := 0) (i := 0) hX rfl 1 rfl md_D_fill_41 ?_
        refine sp_getR (pc := 42) (ci := 8) (k := 0) (idx := 11) hX mcl_8 (by decide) mq_246 rfl md_D_fill_42 (fun v1 => ?_)
        refine sp_iload (pc := 45) (i := 4) hX 5 rfl md_D_fill_45 ?_
        refine sp_aaG (pc := 47) hX md_D_fill_47 (fun v2 => ?_)
        refine sp_iload (pc := 48) (i := 5) hX 6 rfl md_D_fill_48 ?_
        refine sp_iload (pc := 50) (i := 6) hX 0 rfl md_D_fill_50 ?_
        refine sp_callSIN (pc := 52) (y := my_W_isTerm) (ccy := prog_1_method_39_code) (nLy := 1) (ret := (some .boolean)) (rmy := mr_W_isTerm) (n := 1) (idx := 41) (As := [.int (iI ((x2 + x4) - x5))]) (st := [.int (iI x5), .ref v2]) (cells' := 0) (slots' := 0) hX (fun _ h => mc_W_isTerm h) mk_W_isTerm mq_355 mn_626 ⟨(Nat.le_of_ble_eq_true rfl), (Nat.le_of_ble_eq_true rfl)⟩ rfl rfl (Nat.le_of_ble_eq_true rfl) ⟨(Nat.le_of_ble_eq_true rfl), (Nat.le_of_ble_eq_true rfl)⟩ rfl rfl md_D_fill_52 (fun v4 s3 => ?_)
        refine sp_if_eq (pc := 55) hX 65 (by decide) md_D_fill_55 (fun _ => ?_) (fun _ => ?_)
        · refine sp_iconst (pc := 65) hX md_D_fill_65 ?_
          refine sp_iastore (pc := 66) hX md_D_fill_66 (fun s5 => ?_)
          refine sp_iinc (pc := 67) (i := 5) (L' := [(5, Value.int (iI (x5 + 1))), (6, Value.int (iI ((x2 + x4) - x5))), (0, Value.ref x0), (1, Value.ref x1), (2, Value.int (iI x2)), (3, Value.int (iI x3)), (4, Value.int (iI x4))]) hX 6 rfl (by decide) rfl md_D_fill_67 ?_
          refine sp_goto (pc := 70) hX 19 (by decide) md_D_fill_70 ?_
          refine sp_sub [2, 3, 4, 5, 6, 0] (L' := [(0, Value.ref x0), (1, Value.ref x1), (2, Value.int (iI x2)), (3, Value.int (iI x3)), (4, Value.int (iI x4)), (5, Value.int (iI (x5 + 1)))]) rfl ?_
          exact ih x0 x1 x2 x3 x4 (x5 + 1) s5
        · refine sp_aload_n (pc := 58) (k := 1) (i := 1) hX rfl 2 rfl md_D_fill_58 ?_
          refine sp_iload (pc := 59) (i := 6) hX 0 rfl md_D_fill_59 ?_
          refine sp_iaload (pc := 61) hX md_D_fill_61 (fun v6 => ?_)
          refine sp_goto (pc := 62) hX 66 (by decide) md_D_fill_62 ?_
          refine sp_iastore (pc := 66) hX md_D_fill_66 (fun s7 => ?_)
          refine sp_iinc (pc := 67) (i := 5) (L' := [(5, Value.int (iI (x5 + 1))), (6, Value.int (iI ((x2 + x4) - x5))), (0, Value.ref x0), (1, Value.ref x1), (2, Value.int (iI x2)), (3, Value.int (iI x3)), (4, Value.int (iI x4))]) hX 6 rfl (by decide) rfl md_D_fill_67 ?_
          refine sp_goto (pc := 70) hX 19 (by decide) md_D_fill_70 ?_
          refine sp_sub [2, 3, 4, 5, 6, 0] (L' := [(0, Value.ref x0), (1, Value.ref x1), (2, Value.int (iI x2)), (3, Value.int (iI x3)), (4, Value.int (iI x4)), (5, Value.int (iI (x5 + 1)))]) rfl ?_
          exact ih x0 x1 x2 x3 x4 (x5 + 1) s7
set_option maxHeartbeats 4000000 in
set_option maxRecDepth 20000 in
theorem sl_D_fill_3 {X : pw_X Unit} (hX : pw_Ok X prog_12_method_3_code "PadeWorkbench$Toeplitz" mr_D_fill 7) (hR : pw_RV X prog_12_method_3_code) : ∀ (n : Nat) (x0 : Nat) (x1 : Nat) (x2 : Int) (x3 : Int) (x4 : Int) (σ : pw_Sto), pw_Sp X 0 0 3 [(0, Value.ref x0), (1, Value.ref x1), (2, Value.int (iI x2)), (3, Value.int (iI x3)), (4, Value.int (iI x4))] [] σ (ml_D_fill_3 n x0 x1 x2 x3 x4 σ) := by
  intro n
  induction n with
  | zero => intros; exact pw_none
  | succ n ih =>
    intro x0 x1 x2 x3 x4 σ
    show pw_Sp X 0 0 3 _ _ σ (mb_D_fill_3 (ml_D_fill_3 n) x0 x1 x2 x3 x4 σ)
    unfold mb_D_fill_3
    refine sp_iload (pc := 3) (i := 4) hX 4 rfl md_D_fill_3 ?_
    refine sp_iload_n (pc := 5) (k := 3) (i := 3) hX rfl 3 rfl md_D_fill_5 ?_
    refine sp_icmp_ge (pc := 6) hX 79 (by decide) md_D_fill_6 (fun _ => ?_) (fun _ => ?_)
    · exact sp_vret (pc := 79) hX hR rfl (Nat.le_of_ble_eq_true rfl) md_D_fill_79
    · refine sp_iload (pc := 9) (i := 4) hX 4 rfl md_D_fill_9 ?_
      refine sp_bipush (pc := 11) hX (by decide) md_D_fill_11 ?_
      refine sp_icmp_ge (pc := 13) hX 79 (by decide) md_D_fill_13 (fun _ => ?_) (fun _ => ?_)
      · exact sp_vret (pc := 79) hX hR rfl (Nat.le_of_ble_eq_true rfl) md_D_fill_79
      · refine sp_iconst (pc := 16) hX md_D_fill_16 ?_
        refine sp_istore (pc := 17) (i := 5) (L' := [(5, Value.int (iI (0 : Int))), (0, Value.ref x0), (1, Value.ref x1), (2, Value.int (iI x2)), (3, Value.int (iI x3)), (4, Value.int (iI x4))]) hX (by decide) rfl md_D_fill_17 ?_
        refine sp_sub [1, 2, 3, 4, 5, 0] (L' := [(0, Value.ref x0), (1, Value.ref x1), (2, Value.int (iI x2)), (3, Value.int (iI x3)), (4, Value.int (iI x4)), (5, Value.int (iI (0 : Int)))]) rfl ?_
        exact sl_D_fill_19 hX hR ih 1000 x0 x1 x2 x3 x4 (0 : Int) σ
set_option maxHeartbeats 4000000 in
set_option maxRecDepth 20000 in
theorem mc_D_fill {l : Launch} {E : pw_E} {σ : pw_Sto} {x0 : Nat} {x1 : Nat} {x2 : Int} {x3 : Int} {out : Unit × pw_Sto} (h : mf_D_fill x0 x1 x2 x3 σ = some out) : pw_CV l E my_D_fill prog_12_method_3_code 7 none mr_D_fill [.ref x0, .ref x1, .int (iI x2), .int (iI x3)] σ out := by
  unfold mf_D_fill at h
  refine pw_entryV (by decide) (Nat.le_of_ble_eq_true rfl) (pw_gd_val h) (fun X hX hR hI => ?_)
  change pw_Ok X prog_12_method_3_code "PadeWorkbench$Toeplitz" mr_D_fill 7 at hX
  show pw_Sp X 0 0 0 [(0, Value.ref x0), (1, Value.ref x1), (2, Value.int (iI x2)), (3, Value.int (iI x3))] [] σ _
  refine sp_iconst (pc := 0) hX md_D_fill_0 ?_
  refine sp_istore (pc := 1) (i := 4) (L' := [(4, Value.int (iI (0 : Int))), (0, Value.ref x0), (1, Value.ref x1), (2, Value.int (iI x2)), (3, Value.int (iI x3))]) hX (by decide) rfl md_D_fill_1 ?_
  refine sp_sub [1, 2, 3, 4, 0] (L' := [(0, Value.ref x0), (1, Value.ref x1), (2, Value.int (iI x2)), (3, Value.int (iI x3)), (4, Value.int (iI (0 : Int)))]) rfl ?_
  exact sl_D_fill_3 hX hR 1000 x0 x1 x2 x3 (0 : Int) σ
/-! PadeWorkbench$Toeplitz.pivotRow(II)I -/
theorem md_D_pivotRow_0 : decode prog_12_method_4_code 0 = .ok (.iload_n 1, 1) := by decide +kernel
theorem md_D_pivotRow_1 : decode prog_12_method_4_code 1 = .ok (.istore_n 3, 1) := by decide +kernel
theorem md_D_pivotRow_2 : decode prog_12_method_4_code 2 = .ok (.iload_n 3, 1) := by decide +kernel
theorem md_D_pivotRow_3 : decode prog_12_method_4_code 3 = .ok (.iload_n 2, 1) := by decide +kernel
theorem md_D_pivotRow_4 : decode prog_12_method_4_code 4 = .ok (.if_icmp .ge 28, 3) := by decide +kernel
theorem md_D_pivotRow_32 : decode prog_12_method_4_code 32 = .ok (.iconst (-1), 1) := by decide +kernel
theorem md_D_pivotRow_33 : decode prog_12_method_4_code 33 = .ok (.ireturn, 1) := by decide +kernel
theorem md_D_pivotRow_7 : decode prog_12_method_4_code 7 = .ok (.iload_n 3, 1) := by decide +kernel
theorem md_D_pivotRow_8 : decode prog_12_method_4_code 8 = .ok (.bipush 16, 2) := by decide +kernel
theorem md_D_pivotRow_10 : decode prog_12_method_4_code 10 = .ok (.if_icmp .ge 22, 3) := by decide +kernel
theorem md_D_pivotRow_13 : decode prog_12_method_4_code 13 = .ok (.aload_n 0, 1) := by decide +kernel
theorem md_D_pivotRow_14 : decode prog_12_method_4_code 14 = .ok (.getfield 11, 3) := by decide +kernel
theorem md_D_pivotRow_17 : decode prog_12_method_4_code 17 = .ok (.iload_n 3, 1) := by decide +kernel
theorem md_D_pivotRow_18 : decode prog_12_method_4_code 18 = .ok (.aaload, 1) := by decide +kernel
theorem md_D_pivotRow_19 : decode prog_12_method_4_code 19 = .ok (.iload_n 1, 1) := by decide +kernel
theorem md_D_pivotRow_20 : decode prog_12_method_4_code 20 = .ok (.iaload, 1) := by decide +kernel
theorem md_D_pivotRow_21 : decode prog_12_method_4_code 21 = .ok (.ifCond .eq 5, 3) := by decide +kernel
theorem md_D_pivotRow_26 : decode prog_12_method_4_code 26 = .ok (.iinc 3 1, 3) := by decide +kernel
theorem md_D_pivotRow_29 : decode prog_12_method_4_code 29 = .ok (.goto (-27), 3) := by decide +kernel
theorem md_D_pivotRow_24 : decode prog_12_method_4_code 24 = .ok (.iload_n 3, 1) := by decide +kernel
theorem md_D_pivotRow_25 : decode prog_12_method_4_code 25 = .ok (.ireturn, 1) := by decide +kernel
def mb_D_pivotRow_2 (rc : Nat → Int → Int → Int → pw_Sto → Option (Int × pw_Sto)) : Nat → Int → Int → Int → pw_Sto → Option (Int × pw_Sto) := fun x0 x1 x2 x3 σ => pw_ck x3 x2 (if x2 ≤ x3 then some ((-1 : Int), σ) else pw_ck x3 (16 : Int) (if (16 : Int) ≤ x3 then some ((-1 : Int), σ) else (pw_gr 8 x0 0 σ).bind (fun v1 => (pw_ar 13 v1 x3 σ).bind (fun v2 => (pw_ai v2 x1 σ).bind (fun v3 => pw_ck v3 0 (if v3 = 0 then rc x0 x1 x2 (x3 + 1) σ else some (x3, σ)))))))
def ml_D_pivotRow_2 : Nat → Nat → Int → Int → Int → pw_Sto → Option (Int × pw_Sto) := pw_lp (fun _ _ _ _ _ => none) (mb_D_pivotRow_2)
def mf_D_pivotRow (x0 : Nat) (x1 : Int) (x2 : Int) (σ : pw_Sto) : Option (Int × pw_Sto) := pw_gd 8 x0 σ (ml_D_pivotRow_2 1000 x0 x1 x2 x1 σ)
set_option maxHeartbeats 4000000 in
set_option maxRecDepth 20000 in
theorem sl_D_pivotRow_2 {X : pw_X Int} (hX : pw_Ok X prog_12_method_4_code "PadeWorkbench$Toeplitz" mr_D_pivotRow 4) (hR : pw_RI X prog_12_method_4_code) : ∀ (n : Nat) (x0 : Nat) (x1 : Int) (x2 : Int) (x3 : Int) (σ : pw_Sto), pw_Sp X 0 0 2 [(0, Value.ref x0), (1, Value.int (iI x1)), (2, Value.int (iI x2)), (3, Value.int (iI x3))] [] σ (ml_D_pivotRow_2 n x0 x1 x2 x3 σ) := by
  intro n
  induction n with
  | zero => intros; exact pw_none
  | succ n ih =>
    intro x0 x1 x2 x3 σ
    show pw_Sp X 0 0 2 _ _ σ (mb_D_pivotRow_2 (ml_D_pivotRow_2 n) x0 x1 x2 x3 σ)
    unfold mb_D_pivotRow_2
    refine sp_iload_n (pc := 2) (k := 3) (i := 3) hX rfl 3 rfl md_D_pivotRow_2 ?_
    refine sp_iload_n (pc := 3) (k := 2) (i := 2) hX rfl 2 rfl md_D_pivotRow_3 ?_
    refine sp_icmp_ge (pc := 4) hX 32 (by decide) md_D_pivotRow_4 (fun _ => ?_) (fun _ => ?_)
    · refine sp_iconst (pc := 32) hX md_D_pivotRow_32 ?_
      exact sp_iret (pc := 33) hX hR rfl (Nat.le_of_ble_eq_true rfl) md_D_pivotRow_33
    · refine sp_iload_n (pc := 7) (k := 3) (i := 3) hX rfl 3 rfl md_D_pivotRow_7 ?_
      refine sp_bipush (pc := 8) hX (by decide) md_D_pivotRow_8 ?_
      refine sp_icmp_ge (pc := 10) hX 32 (by decide) md_D_pivotRow_10 (fun _ => ?_) (fun _ => ?_)
      · refine sp_iconst (pc := 32) hX md_D_pivotRow_32 ?_
        exact sp_iret (pc := 33) hX hR rfl (Nat.le_of_ble_eq_true rfl) md_D_pivotRow_33
      · refine sp_aload_n (pc := 13) (k := 0) (i := 0) hX rfl 0 rfl md_D_pivotRow_13 ?_
        refine sp_getR (pc := 14) (ci := 8) (k := 0) (idx := 11) hX mcl_8 (by decide) mq_246 rfl md_D_pivotRow_14 (fun v1 => ?_)
        refine sp_iload_n (pc := 17) (k := 3) (i := 3) hX rfl 3 rfl md_D_pivotRow_17 ?_
        refine sp_aaG (pc := 18) hX md_D_pivotRow_18 (fun v2 => ?_)
        refine sp_iload_n (pc := 19) (k := 1) (i := 1) hX rfl 1 rfl md_D_pivotRow_19 ?_
        refine sp_iaload (pc := 20) hX md_D_pivotRow_20 (fun v3 => ?_)
        refine sp_if_eq (pc := 21) hX 26 (by decide) md_D_pivotRow_21 (fun _ => ?_) (fun _ => ?_)
        · refine sp_iinc (pc := 26) (i := 3) (L' := [(3, Value.int (iI (x3 + 1))), (0, Value.ref x0), (1, Value.int (iI x1)), (2, Value.int (iI x2))]) hX 3 rfl (by decide) rfl md_D_pivotRow_26 ?_
          refine sp_goto (pc := 29) hX 2 (by decide) md_D_pivotRow_29 ?_
          refine sp_sub [1, 2, 3, 0] (L' := [(0, Value.ref x0), (1, Value.int (iI x1)), (2, Value.int (iI x2)), (3, Value.int (iI (x3 + 1)))]) rfl ?_
          exact ih x0 x1 x2 (x3 + 1) σ
        · refine sp_iload_n (pc := 24) (k := 3) (i := 3) hX rfl 3 rfl md_D_pivotRow_24 ?_
          exact sp_iret (pc := 25) hX hR rfl (Nat.le_of_ble_eq_true rfl) md_D_pivotRow_25
set_option maxHeartbeats 4000000 in
set_option maxRecDepth 20000 in
theorem mc_D_pivotRow {l : Launch} {E : pw_E} {σ : pw_Sto} {x0 : Nat} {x1 : Int} {x2 : Int} {out : Int × pw_Sto} (h : mf_D_pivotRow x0 x1 x2 σ = some out) : pw_CI l E my_D_pivotRow prog_12_method_4_code 4 (some .int) mr_D_pivotRow [.ref x0, .int (iI x1), .int (iI x2)] σ out := by
  unfold mf_D_pivotRow at h
  refine pw_entryI (by decide) (Nat.le_of_ble_eq_true rfl) (pw_gd_val h) (fun X hX hR hI => ?_)
  change pw_Ok X prog_12_method_4_code "PadeWorkbench$Toeplitz" mr_D_pivotRow 4 at hX
  show pw_Sp X 0 0 0 [(0, Value.ref x0), (1, Value.int (iI x1)), (2, Value.int (iI x2))] [] σ _
  refine sp_iload_n (pc := 0) (k := 1) (i := 1) hX rfl 1 rfl md_D_pivotRow_0 ?_
  refine sp_istore_n (pc := 1) (k := 3) (i := 3) (L' := [(3, Value.int (iI x1)), (0, Value.ref x0), (1, Value.int (iI x1)), (2, Value.int (iI x2))]) hX rfl (by decide) rfl md_D_pivotRow_1 ?_
  refine sp_sub [1, 2, 3, 0] (L' := [(0, Value.ref x0), (1, Value.int (iI x1)), (2, Value.int (iI x2)), (3, Value.int (iI x1))]) rfl ?_
  exact sl_D_pivotRow_2 hX hR 1000 x0 x1 x2 x1 σ
/-! PadeWorkbench$Toeplitz.swapRows(II)V -/
theorem md_D_swapRows_0 : decode prog_12_method_5_code 0 = .ok (.iconst 0, 1) := by decide +kernel
theorem md_D_swapRows_1 : decode prog_12_method_5_code 1 = .ok (.istore_n 3, 1) := by decide +kernel
theorem md_D_swapRows_2 : decode prog_12_method_5_code 2 = .ok (.iload_n 3, 1) := by decide +kernel
theorem md_D_swapRows_3 : decode prog_12_method_5_code 3 = .ok (.bipush 16, 2) := by decide +kernel
theorem md_D_swapRows_5 : decode prog_12_method_5_code 5 = .ok (.if_icmp .ge 45, 3) := by decide +kernel
theorem md_D_swapRows_50 : decode prog_12_method_5_code 50 = .ok (.return_, 1) := by decide +kernel
theorem md_D_swapRows_8 : decode prog_12_method_5_code 8 = .ok (.aload_n 0, 1) := by decide +kernel
theorem md_D_swapRows_9 : decode prog_12_method_5_code 9 = .ok (.getfield 11, 3) := by decide +kernel
theorem md_D_swapRows_12 : decode prog_12_method_5_code 12 = .ok (.iload_n 1, 1) := by decide +kernel
theorem md_D_swapRows_13 : decode prog_12_method_5_code 13 = .ok (.aaload, 1) := by decide +kernel
theorem md_D_swapRows_14 : decode prog_12_method_5_code 14 = .ok (.iload_n 3, 1) := by decide +kernel
theorem md_D_swapRows_15 : decode prog_12_method_5_code 15 = .ok (.iaload, 1) := by decide +kernel
theorem md_D_swapRows_16 : decode prog_12_method_5_code 16 = .ok (.istore 4, 2) := by decide +kernel
theorem md_D_swapRows_18 : decode prog_12_method_5_code 18 = .ok (.aload_n 0, 1) := by decide +kernel
theorem md_D_swapRows_19 : decode prog_12_method_5_code 19 = .ok (.getfield 11, 3) := by decide +kernel
theorem md_D_swapRows_22 : decode prog_12_method_5_code 22 = .ok (.iload_n 1, 1) := by decide +kernel
theorem md_D_swapRows_23 : decode prog_12_method_5_code 23 = .ok (.aaload, 1) := by decide +kernel
theorem md_D_swapRows_24 : decode prog_12_method_5_code 24 = .ok (.iload_n 3, 1) := by decide +kernel
theorem md_D_swapRows_25 : decode prog_12_method_5_code 25 = .ok (.aload_n 0, 1) := by decide +kernel
theorem md_D_swapRows_26 : decode prog_12_method_5_code 26 = .ok (.getfield 11, 3) := by decide +kernel
theorem md_D_swapRows_29 : decode prog_12_method_5_code 29 = .ok (.iload_n 2, 1) := by decide +kernel
theorem md_D_swapRows_30 : decode prog_12_method_5_code 30 = .ok (.aaload, 1) := by decide +kernel
theorem md_D_swapRows_31 : decode prog_12_method_5_code 31 = .ok (.iload_n 3, 1) := by decide +kernel
theorem md_D_swapRows_32 : decode prog_12_method_5_code 32 = .ok (.iaload, 1) := by decide +kernel
theorem md_D_swapRows_33 : decode prog_12_method_5_code 33 = .ok (.iastore, 1) := by decide +kernel
theorem md_D_swapRows_34 : decode prog_12_method_5_code 34 = .ok (.aload_n 0, 1) := by decide +kernel
theorem md_D_swapRows_35 : decode prog_12_method_5_code 35 = .ok (.getfield 11, 3) := by decide +kernel
theorem md_D_swapRows_38 : decode prog_12_method_5_code 38 = .ok (.iload_n 2, 1) := by decide +kernel
theorem md_D_swapRows_39 : decode prog_12_method_5_code 39 = .ok (.aaload, 1) := by decide +kernel
theorem md_D_swapRows_40 : decode prog_12_method_5_code 40 = .ok (.iload_n 3, 1) := by decide +kernel
theorem md_D_swapRows_41 : decode prog_12_method_5_code 41 = .ok (.iload 4, 2) := by decide +kernel
theorem md_D_swapRows_43 : decode prog_12_method_5_code 43 = .ok (.iastore, 1) := by decide +kernel
theorem md_D_swapRows_44 : decode prog_12_method_5_code 44 = .ok (.iinc 3 1, 3) := by decide +kernel
theorem md_D_swapRows_47 : decode prog_12_method_5_code 47 = .ok (.goto (-45), 3) := by decide +kernel
def mb_D_swapRows_2 (rc : Nat → Int → Int → Int → pw_Sto → Option (Unit × pw_Sto)) : Nat → Int → Int → Int → pw_Sto → Option (Unit × pw_Sto) := fun x0 x1 x2 x3 σ => pw_ck x3 (16 : Int) (if (16 : Int) ≤ x3 then some ((), σ) else (pw_gr 8 x0 0 σ).bind (fun v1 => (pw_ar 13 v1 x1 σ).bind (fun v2 => (pw_ai v2 x3 σ).bind (fun v3 => (pw_gr 8 x0 0 σ).bind (fun v4 => (pw_ar 13 v4 x1 σ).bind (fun v5 => (pw_gr 8 x0 0 σ).bind (fun v6 => (pw_ar 13 v6 x2 σ).bind (fun v7 => (pw_ai v7 x3 σ).bind (fun v8 => (pw_si v5 x3 v8 σ).bind (fun s9 => (pw_gr 8 x0 0 s9).bind (fun v10 => (pw_ar 13 v10 x2 s9).bind (fun v11 => (pw_si v11 x3 v3 s9).bind (fun s12 => rc x0 x1 x2 (x3 + 1) s12)))))))))))))
def ml_D_swapRows_2 : Nat → Nat → Int → Int → Int → pw_Sto → Option (Unit × pw_Sto) := pw_lp (fun _ _ _ _ _ => none) (mb_D_swapRows_2)
def mf_D_swapRows (x0 : Nat) (x1 : Int) (x2 : Int) (σ : pw_Sto) : Option (Unit × pw_Sto) := pw_gd 8 x0 σ (ml_D_swapRows_2 1000 x0 x1 x2 (0 : Int) σ)
set_option maxHeartbeats 4000000 in
set_option maxRecDepth 20000 in
theorem sl_D_swapRows_2 {X : pw_X Unit} (hX : pw_Ok X prog_12_method_5_code "PadeWorkbench$Toeplitz" mr_D_swapRows 5) (hR : pw_RV X prog_12_method_5_code) : ∀ (n : Nat) (x0 : Nat) (x1 : Int) (x2 : Int) (x3 : Int) (σ : pw_Sto), pw_Sp X 0 0 2 [(0, Value.ref x0), (1, Value.int (iI x1)), (2, Value.int (iI x2)), (3, Value.int (iI x3))] [] σ (ml_D_swapRows_2 n x0 x1 x2 x3 σ) := by
  intro n
  induction n with
  | zero => intros; exact pw_none
  | succ n ih =>
    intro x0 x1 x2 x3 σ
    show pw_Sp X 0 0 2 _ _ σ (mb_D_swapRows_2 (ml_D_swapRows_2 n) x0 x1 x2 x3 σ)
    unfold mb_D_swapRows_2
    refine sp_iload_n (pc := 2) (k := 3) (i := 3) hX rfl 3 rfl md_D_swapRows_2 ?_
    refine sp_bipush (pc := 3) hX (by decide) md_D_swapRows_3 ?_
    refine sp_icmp_ge (pc := 5) hX 50 (by decide) md_D_swapRows_5 (fun _ => ?_) (fun _ => ?_)
    · exact sp_vret (pc := 50) hX hR rfl (Nat.le_of_ble_eq_true rfl) md_D_swapRows_50
    · refine sp_aload_n (pc := 8) (k := 0) (i := 0) hX rfl 0 rfl md_D_swapRows_8 ?_
      refine sp_getR (pc := 9) (ci := 8) (k := 0) (idx := 11) hX mcl_8 (by decide) mq_246 rfl md_D_swapRows_9 (fun v1 => ?_)
      refine sp_iload_n (pc := 12) (k := 1) (i := 1) hX rfl 1 rfl md_D_swapRows_12 ?_
      refine sp_aaG (pc := 13) hX md_D_swapRows_13 (fun v2 => ?_)
      refine sp_iload_n (pc := 14) (k := 3) (i := 3) hX rfl 3 rfl md_D_swapRows_14 ?_
      refine sp_iaload (pc := 15) hX md_D_swapRows_15 (fun v3 => ?_)
      refine sp_istore (pc := 16) (i := 4) (L' := [(4, Value.int (iI v3)), (0, Value.ref x0), (1, Value.int (iI x1)), (2, Value.int (iI x2)), (3, Value.int (iI x3))]) hX (by decide) rfl md_D_swapRows_16 ?_
      refine sp_aload_n (pc := 18) (k := 0) (i := 0) hX rfl 1 rfl md_D_swapRows_18 ?_
      refine sp_getR (pc := 19) (ci := 8) (k := 0) (idx := 11) hX mcl_8 (by decide) mq_246 rfl md_D_swapRows_19 (fun v4 => ?_)
      refine sp_iload_n (pc := 22) (k := 1) (i := 1) hX rfl 2 rfl md_D_swapRows_22 ?_
      refine sp_aaG (pc := 23) hX md_D_swapRows_23 (fun v5 => ?_)
      refine sp_iload_n (pc := 24) (k := 3) (i := 3) hX rfl 4 rfl md_D_swapRows_24 ?_
      refine sp_aload_n (pc := 25) (k := 0) (i := 0) hX rfl 1 rfl md_D_swapRows_25 ?_
      refine sp_getR (pc := 26) (ci := 8) (k := 0) (idx := 11) hX mcl_8 (by decide) mq_246 rfl md_D_swapRows_26 (fun v6 => ?_)
      refine sp_iload_n (pc := 29) (k := 2) (i := 2) hX rfl 3 rfl md_D_swapRows_29 ?_
      refine sp_aaG (pc := 30) hX md_D_swapRows_30 (fun v7 => ?_)
      refine sp_iload_n (pc := 31) (k := 3) (i := 3) hX rfl 4 rfl md_D_swapRows_31 ?_
      refine sp_iaload (pc := 32) hX md_D_swapRows_32 (fun v8 => ?_)
      refine sp_iastore (pc := 33) hX md_D_swapRows_33 (fun s9 => ?_)
      refine sp_aload_n (pc := 34) (k := 0) (i := 0) hX rfl 1 rfl md_D_swapRows_34 ?_
      refine sp_getR (pc := 35) (ci := 8) (k := 0) (idx := 11) hX mcl_8 (by decide) mq_246 rfl md_D_swapRows_35 (fun v10 => ?_)
      refine sp_iload_n (pc := 38) (k := 2) (i := 2) hX rfl 3 rfl md_D_swapRows_38 ?_
      refine sp_aaG (pc := 39) hX md_D_swapRows_39 (fun v11 => ?_)
      refine sp_iload_n (pc := 40) (k := 3) (i := 3) hX rfl 4 rfl md_D_swapRows_40 ?_
      refine sp_iload (pc := 41) (i := 4) hX 0 rfl md_D_swapRows_41 ?_
      refine sp_iastore (pc := 43) hX md_D_swapRows_43 (fun s12 => ?_)
      refine sp_iinc (pc := 44) (i := 3) (L' := [(3, Value.int (iI (x3 + 1))), (4, Value.int (iI v3)), (0, Value.ref x0), (1, Value.int (iI x1)), (2, Value.int (iI x2))]) hX 4 rfl (by decide) rfl md_D_swapRows_44 ?_
      refine sp_goto (pc := 47) hX 2 (by decide) md_D_swapRows_47 ?_
      refine sp_sub [2, 3, 4, 0] (L' := [(0, Value.ref x0), (1, Value.int (iI x1)), (2, Value.int (iI x2)), (3, Value.int (iI (x3 + 1)))]) rfl ?_
      exact ih x0 x1 x2 (x3 + 1) s12
set_option maxHeartbeats 4000000 in
set_option maxRecDepth 20000 in
theorem mc_D_swapRows {l : Launch} {E : pw_E} {σ : pw_Sto} {x0 : Nat} {x1 : Int} {x2 : Int} {out : Unit × pw_Sto} (h : mf_D_swapRows x0 x1 x2 σ = some out) : pw_CV l E my_D_swapRows prog_12_method_5_code 5 none mr_D_swapRows [.ref x0, .int (iI x1), .int (iI x2)] σ out := by
  unfold mf_D_swapRows at h
  refine pw_entryV (by decide) (Nat.le_of_ble_eq_true rfl) (pw_gd_val h) (fun X hX hR hI => ?_)
  change pw_Ok X prog_12_method_5_code "PadeWorkbench$Toeplitz" mr_D_swapRows 5 at hX
  show pw_Sp X 0 0 0 [(0, Value.ref x0), (1, Value.int (iI x1)), (2, Value.int (iI x2))] [] σ _
  refine sp_iconst (pc := 0) hX md_D_swapRows_0 ?_
  refine sp_istore_n (pc := 1) (k := 3) (i := 3) (L' := [(3, Value.int (iI (0 : Int))), (0, Value.ref x0), (1, Value.int (iI x1)), (2, Value.int (iI x2))]) hX rfl (by decide) rfl md_D_swapRows_1 ?_
  refine sp_sub [1, 2, 3, 0] (L' := [(0, Value.ref x0), (1, Value.int (iI x1)), (2, Value.int (iI x2)), (3, Value.int (iI (0 : Int)))]) rfl ?_
  exact sl_D_swapRows_2 hX hR 1000 x0 x1 x2 (0 : Int) σ
/-! PadeWorkbench$Toeplitz.clearBelow(III)V -/
theorem md_D_clearBelow_0 : decode prog_12_method_6_code 0 = .ok (.aload_n 0, 1) := by decide +kernel
theorem md_D_clearBelow_1 : decode prog_12_method_6_code 1 = .ok (.getfield 11, 3) := by decide +kernel
theorem md_D_clearBelow_4 : decode prog_12_method_6_code 4 = .ok (.iload_n 1, 1) := by decide +kernel
theorem md_D_clearBelow_5 : decode prog_12_method_6_code 5 = .ok (.aaload, 1) := by decide +kernel
theorem md_D_clearBelow_6 : decode prog_12_method_6_code 6 = .ok (.iload_n 1, 1) := by decide +kernel
theorem md_D_clearBelow_7 : decode prog_12_method_6_code 7 = .ok (.iaload, 1) := by decide +kernel
theorem md_D_clearBelow_8 : decode prog_12_method_6_code 8 = .ok (.iload_n 3, 1) := by decide +kernel
theorem md_D_clearBelow_9 : decode prog_12_method_6_code 9 = .ok (.invokestatic 45, 3) := by decide +kernel
theorem md_D_clearBelow_12 : decode prog_12_method_6_code 12 = .ok (.istore 4, 2) := by decide +kernel
theorem md_D_clearBelow_14 : decode prog_12_method_6_code 14 = .ok (.iload_n 1, 1) := by decide +kernel
theorem md_D_clearBelow_15 : decode prog_12_method_6_code 15 = .ok (.iconst 1, 1) := by decide +kernel
theorem md_D_clearBelow_16 : decode prog_12_method_6_code 16 = .ok (.iadd, 1) := by decide +kernel
theorem md_D_clearBelow_17 : decode prog_12_method_6_code 17 = .ok (.istore 5, 2) := by decide +kernel
theorem md_D_clearBelow_19 : decode prog_12_method_6_code 19 = .ok (.iload 5, 2) := by decide +kernel
theorem md_D_clearBelow_21 : decode prog_12_method_6_code 21 = .ok (.iload_n 2, 1) := by decide +kernel
theorem md_D_clearBelow_22 : decode prog_12_method_6_code 22 = .ok (.if_icmp .ge 94, 3) := by decide +kernel
theorem md_D_clearBelow_116 : decode prog_12_method_6_code 116 = .ok (.return_, 1) := by decide +kernel
theorem md_D_clearBelow_25 : decode prog_12_method_6_code 25 = .ok (.iload 5, 2) := by decide +kernel
theorem md_D_clearBelow_27 : decode prog_12_method_6_code 27 = .ok (.bipush 16, 2) := by decide +kernel
theorem md_D_clearBelow_29 : decode prog_12_method_6_code 29 = .ok (.if_icmp .ge 87, 3) := by decide +kernel
theorem md_D_clearBelow_32 : decode prog_12_method_6_code 32 = .ok (.iload_n 3, 1) := by decide +kernel
theorem md_D_clearBelow_33 : decode prog_12_method_6_code 33 = .ok (.aload_n 0, 1) := by decide +kernel
theorem md_D_clearBelow_34 : decode prog_12_method_6_code 34 = .ok (.getfield 11, 3) := by decide +kernel
theorem md_D_clearBelow_37 : decode prog_12_method_6_code 37 = .ok (.iload 5, 2) := by decide +kernel
theorem md_D_clearBelow_39 : decode prog_12_method_6_code 39 = .ok (.aaload, 1) := by decide +kernel
theorem md_D_clearBelow_40 : decode prog_12_method_6_code 40 = .ok (.iload_n 1, 1) := by decide +kernel
theorem md_D_clearBelow_41 : decode prog_12_method_6_code 41 = .ok (.iaload, 1) := by decide +kernel
theorem md_D_clearBelow_42 : decode prog_12_method_6_code 42 = .ok (.iload 4, 2) := by decide +kernel
theorem md_D_clearBelow_44 : decode prog_12_method_6_code 44 = .ok (.iload_n 3, 1) := by decide +kernel
theorem md_D_clearBelow_45 : decode prog_12_method_6_code 45 = .ok (.invokestatic 33, 3) := by decide +kernel
theorem md_D_clearBelow_48 : decode prog_12_method_6_code 48 = .ok (.isub, 1) := by decide +kernel
theorem md_D_clearBelow_49 : decode prog_12_method_6_code 49 = .ok (.istore 6, 2) := by decide +kernel
theorem md_D_clearBelow_51 : decode prog_12_method_6_code 51 = .ok (.iload_n 1, 1) := by decide +kernel
theorem md_D_clearBelow_52 : decode prog_12_method_6_code 52 = .ok (.istore 7, 2) := by decide +kernel
theorem md_D_clearBelow_54 : decode prog_12_method_6_code 54 = .ok (.iload 7, 2) := by decide +kernel
theorem md_D_clearBelow_56 : decode prog_12_method_6_code 56 = .ok (.iload_n 2, 1) := by decide +kernel
theorem md_D_clearBelow_57 : decode prog_12_method_6_code 57 = .ok (.if_icmp .ge 53, 3) := by decide +kernel
theorem md_D_clearBelow_110 : decode prog_12_method_6_code 110 = .ok (.iinc 5 1, 3) := by decide +kernel
theorem md_D_clearBelow_113 : decode prog_12_method_6_code 113 = .ok (.goto (-94), 3) := by decide +kernel
theorem md_D_clearBelow_60 : decode prog_12_method_6_code 60 = .ok (.iload 7, 2) := by decide +kernel
theorem md_D_clearBelow_62 : decode prog_12_method_6_code 62 = .ok (.bipush 16, 2) := by decide +kernel
theorem md_D_clearBelow_64 : decode prog_12_method_6_code 64 = .ok (.if_icmp .ge 46, 3) := by decide +kernel
theorem md_D_clearBelow_67 : decode prog_12_method_6_code 67 = .ok (.aload_n 0, 1) := by decide +kernel
theorem md_D_clearBelow_68 : decode prog_12_method_6_code 68 = .ok (.getfield 11, 3) := by decide +kernel
theorem md_D_clearBelow_71 : decode prog_12_method_6_code 71 = .ok (.iload 5, 2) := by decide +kernel
theorem md_D_clearBelow_73 : decode prog_12_method_6_code 73 = .ok (.aaload, 1) := by decide +kernel
theorem md_D_clearBelow_74 : decode prog_12_method_6_code 74 = .ok (.iload 7, 2) := by decide +kernel
theorem md_D_clearBelow_76 : decode prog_12_method_6_code 76 = .ok (.aload_n 0, 1) := by decide +kernel
theorem md_D_clearBelow_77 : decode prog_12_method_6_code 77 = .ok (.getfield 11, 3) := by decide +kernel
theorem md_D_clearBelow_80 : decode prog_12_method_6_code 80 = .ok (.iload 5, 2) := by decide +kernel
theorem md_D_clearBelow_82 : decode prog_12_method_6_code 82 = .ok (.aaload, 1) := by decide +kernel
theorem md_D_clearBelow_83 : decode prog_12_method_6_code 83 = .ok (.iload 7, 2) := by decide +kernel
theorem md_D_clearBelow_85 : decode prog_12_method_6_code 85 = .ok (.iaload, 1) := by decide +kernel
theorem md_D_clearBelow_86 : decode prog_12_method_6_code 86 = .ok (.iload 6, 2) := by decide +kernel
theorem md_D_clearBelow_88 : decode prog_12_method_6_code 88 = .ok (.aload_n 0, 1) := by decide +kernel
theorem md_D_clearBelow_89 : decode prog_12_method_6_code 89 = .ok (.getfield 11, 3) := by decide +kernel
theorem md_D_clearBelow_92 : decode prog_12_method_6_code 92 = .ok (.iload_n 1, 1) := by decide +kernel
theorem md_D_clearBelow_93 : decode prog_12_method_6_code 93 = .ok (.aaload, 1) := by decide +kernel
theorem md_D_clearBelow_94 : decode prog_12_method_6_code 94 = .ok (.iload 7, 2) := by decide +kernel
theorem md_D_clearBelow_96 : decode prog_12_method_6_code 96 = .ok (.iaload, 1) := by decide +kernel
theorem md_D_clearBelow_97 : decode prog_12_method_6_code 97 = .ok (.imul, 1) := by decide +kernel
theorem md_D_clearBelow_98 : decode prog_12_method_6_code 98 = .ok (.iadd, 1) := by decide +kernel
theorem md_D_clearBelow_99 : decode prog_12_method_6_code 99 = .ok (.iload_n 3, 1) := by decide +kernel
theorem md_D_clearBelow_100 : decode prog_12_method_6_code 100 = .ok (.invokestatic 48, 3) := by decide +kernel
theorem md_D_clearBelow_103 : decode prog_12_method_6_code 103 = .ok (.iastore, 1) := by decide +kernel
theorem md_D_clearBelow_104 : decode prog_12_method_6_code 104 = .ok (.iinc 7 1, 3) := by decide +kernel
theorem md_D_clearBelow_107 : decode prog_12_method_6_code 107 = .ok (.goto (-53), 3) := by decide +kernel
def mb_D_clearBelow_54 (r19 : Nat → Int → Int → Int → Int → Int → pw_Sto → Option (Unit × pw_Sto)) (rc : Nat → Int → Int → Int → Int → Int → Int → Int → pw_Sto → Option (Unit × pw_Sto)) : Nat → Int → Int → Int → Int → Int → Int → Int → pw_Sto → Option (Unit × pw_Sto) := fun x0 x1 x2 x3 x4 x5 x6 x7 σ => pw_ck x7 x2 (if x2 ≤ x7 then r19 x0 x1 x2 x3 x4 (x5 + 1) σ else pw_ck x7 (16 : Int) (if (16 : Int) ≤ x7 then r19 x0 x1 x2 x3 x4 (x5 + 1) σ else (pw_gr 8 x0 0 σ).bind (fun v11 => (pw_ar 13 v11 x5 σ).bind (fun v12 => (pw_gr 8 x0 0 σ).bind (fun v13 => (pw_ar 13 v13 x5 σ).bind (fun v14 => (pw_ai v14 x7 σ).bind (fun v15 => (pw_gr 8 x0 0 σ).bind (fun v16 => (pw_ar 13 v16 x1 σ).bind (fun v17 => (pw_ai v17 x7 σ).bind (fun v18 => pw_bd (mf_K_reduce (v15 + (x6 * v18)) x3 σ) (fun v20 s19 => (pw_si v12 x7 v20 s19).bind (fun s21 => rc x0 x1 x2 x3 x4 x5 x6 (x7 + 1) s21))))))))))))
def ml_D_clearBelow_54 (r19 : Nat → Int → Int → Int → Int → Int → pw_Sto → Option (Unit × pw_Sto)) : Nat → Nat → Int → Int → Int → Int → Int → Int → Int → pw_Sto → Option (Unit × pw_Sto) := pw_lp (fun _ _ _ _ _ _ _ _ _ => none) (mb_D_clearBelow_54 r19)
def mb_D_clearBelow_19 (rc : Nat → Int → Int → Int → Int → Int → pw_Sto → Option (Unit × pw_Sto)) : Nat → Int → Int → Int → Int → Int → pw_Sto → Option (Unit × pw_Sto) := fun x0 x1 x2 x3 x4 x5 σ => pw_ck x5 x2 (if x2 ≤ x5 then some ((), σ) else pw_ck x5 (16 : Int) (if (16 : Int) ≤ x5 then some ((), σ) else (pw_gr 8 x0 0 σ).bind (fun v6 => (pw_ar 13 v6 x5 σ).bind (fun v7 => (pw_ai v7 x1 σ).bind (fun v8 => pw_bd (mf_K_times v8 x4 x3 σ) (fun v10 s9 => ml_D_clearBelow_54 rc 1000 x0 x1 x2 x3 x4 x5 (x3 - v10) x1 s9))))))
def ml_D_clearBelow_19 : Nat → Nat → Int → Int → Int → Int → Int → pw_Sto → Option (Unit × pw_Sto) := pw_lp (fun _ _ _ _ _ _ _ => none) (mb_D_clearBelow_19)
def mf_D_clearBelow (x0 : Nat) (x1 : Int) (x2 : Int) (x3 : Int) (σ : pw_Sto) : Option (Unit × pw_Sto) := pw_gd 8 x0 σ ((pw_gr 8 x0 0 σ).bind (fun v1 => (pw_ar 13 v1 x1 σ).bind (fun v2 => (pw_ai v2 x1 σ).bind (fun v3 => pw_bd (mf_K_inverse v3 x3 σ) (fun v5 s4 => ml_D_clearBelow_19 1000 x0 x1 x2 x3 v5 (x1 + (1 : Int)) s4)))))
set_option maxHeartbeats 4000000 in
set_option maxRecDepth 20000 in
theorem sl_D_clearBelow_54 {X : pw_X Unit} (hX : pw_Ok X prog_12_method_6_code "PadeWorkbench$Toeplitz" mr_D_clearBelow 8) (hR : pw_RV X prog_12_method_6_code) {r19 : Nat → Int → Int → Int → Int → Int → pw_Sto → Option (Unit × pw_Sto)} (h19 : ∀ (z0 : Nat) (z1 : Int) (z2 : Int) (z3 : Int) (z4 : Int) (z5 : Int) (σ : pw_Sto), pw_Sp X 0 0 19 [(0, Value.ref z0), (1, Value.int (iI z1)), (2, Value.int (iI z2)), (3, Value.int (iI z3)), (4, Value.int (iI z4)), (5, Value.int (iI z5))] [] σ (r19 z0 z1 z2 z3 z4 z5 σ)) : ∀ (n : Nat) (x0 : Nat) (x1 : Int) (x2 : Int) (x3 : Int) (x4 : Int) (x5 : Int) (x6 : Int) (x7 : Int) (σ : pw_Sto), pw_Sp X 0 0 54 [(0, Value.ref x0), (1, Value.int (iI x1)), (2, Value.int (iI x2)), (3, Value.int (iI x3)), (4, Value.int (iI x4)), (5, Value.int (iI x5)), (6, Value.int (iI x6)), (7, Value.int (iI x7))] [] σ (ml_D_clearBelow_54 r19 n x0 x1 x2 x3 x4 x5 x6 x7 σ) := by
  intro n
  induction n with
  | zero => intros; exact pw_none
  | succ n ih =>
    intro x0 x1 x2 x3 x4 x5 x6 x7 σ
    show pw_Sp X 0 0 54 _ _ σ (mb_D_clearBelow_54 r19 (ml_D_clearBelow_54 r19 n) x0 x1 x2 x3 x4 x5 x6 x7 σ)
    unfold mb_D_clearBelow_54
    refine sp_iload (pc := 54) (i := 7) hX 7 rfl md_D_clearBelow_54 ?_
    refine sp_iload_n (pc := 56) (k := 2) (i := 2) hX rfl 2 rfl md_D_clearBelow_56 ?_
    refine sp_icmp_ge (pc := 57) hX 110 (by decide) md_D_clearBelow_57 (fun _ => ?_) (fun _ => ?_)
    · refine sp_iinc (pc := 110) (i := 5) (L' := [(5, Value.int (iI (x5 + 1))), (0, Value.ref x0), (1, Value.int (iI x1)), (2, Value.int (iI x2)), (3, Value.int (iI x3)), (4, Value.int (iI x4)), (6, Value.int (iI x6)), (7, Value.int (iI x7))]) hX 5 rfl (by decide) rfl md_D_clearBelow_110 ?_
      refine sp_goto (pc := 113) hX 19 (by decide) md_D_clearBelow_113 ?_
      refine sp_sub [1, 2, 3, 4, 5, 0] (L' := [(0, Value.ref x0), (1, Value.int (iI x1)), (2, Value.int (iI x2)), (3, Value.int (iI x3)), (4, Value.int (iI x4)), (5, Value.int (iI (x5 + 1)))]) rfl ?_
      exact h19 x0 x1 x2 x3 x4 (x5 + 1) σ
    · refine sp_iload (pc := 60) (i := 7) hX 7 rfl md_D_clearBelow_60 ?_
      refine sp_bipush (pc := 62) hX (by decide) md_D_clearBelow_62 ?_
      refine sp_icmp_ge (pc := 64) hX 110 (by decide) md_D_clearBelow_64 (fun _ => ?_) (fun _ => ?_)
      · refine sp_iinc (pc := 110) (i := 5) (L' := [(5, Value.int (iI (x5 + 1))), (0, Value.ref x0), (1, Value.int (iI x1)), (2, Value.int (iI x2)), (3, Value.int (iI x3)), (4, Value.int (iI x4)), (6, Value.int (iI x6)), (7, Value.int (iI x7))]) hX 5 rfl (by decide) rfl md_D_clearBelow_110 ?_
        refine sp_goto (pc := 113) hX 19 (by decide) md_D_clearBelow_113 ?_
        refine sp_sub [1, 2, 3, 4, 5, 0] (L' := [(0, Value.ref x0), (1, Value.int (iI x1)), (2, Value.int (iI x2)), (3, Value.int (iI x3)), (4, Value.int (iI x4)), (5, Value.int (iI (x5 + 1)))]) rfl ?_
        exact h19 x0 x1 x2 x3 x4 (x5 + 1) σ
      · refine sp_aload_n (pc := 67) (k := 0) (i := 0) hX rfl 0 rfl md_D_clearBelow_67 ?_
        refine sp_getR (pc := 68) (ci := 8) (k := 0) (idx := 11) hX mcl_8 (by decide) mq_246 rfl md_D_clearBelow_68 (fun v11 => ?_)
        refine sp_iload (pc := 71) (i := 5) hX 5 rfl md_D_clearBelow_71 ?_
        refine sp_aaG (pc := 73) hX md_D_clearBelow_73 (fun v12 => ?_)
        refine sp_iload (pc := 74) (i := 7) hX 7 rfl md_D_clearBelow_74 ?_
        refine sp_aload_n (pc := 76) (k := 0) (i := 0) hX rfl 0 rfl md_D_clearBelow_76 ?_
        refine sp_getR (pc := 77) (ci := 8) (k := 0) (idx := 11) hX mcl_8 (by decide) mq_246 rfl md_D_clearBelow_77 (fun v13 => ?_)
        refine sp_iload (pc := 80) (i := 5) hX 5 rfl md_D_clearBelow_80 ?_
        refine sp_aaG (pc := 82) hX md_D_clearBelow_82 (fun v14 => ?_)
        refine sp_iload (pc := 83) (i := 7) hX 7 rfl md_D_clearBelow_83 ?_
        refine sp_iaload (pc := 85) hX md_D_clearBelow_85 (fun v15 => ?_)
        refine sp_iload (pc := 86) (i := 6) hX 6 rfl md_D_clearBelow_86 ?_
        refine sp_aload_n (pc := 88) (k := 0) (i := 0) hX rfl 0 rfl md_D_clearBelow_88 ?_
        refine sp_getR (pc := 89) (ci := 8) (k := 0) (idx := 11) hX mcl_8 (by decide) mq_246 rfl md_D_clearBelow_89 (fun v16 => ?_)
        refine sp_iload_n (pc := 92) (k := 1) (i := 1) hX rfl 1 rfl md_D_clearBelow_92 ?_
        refine sp_aaG (pc := 93) hX md_D_clearBelow_93 (fun v17 => ?_)
        refine sp_iload (pc := 94) (i := 7) hX 7 rfl md_D_clearBelow_94 ?_
        refine sp_iaload (pc := 96) hX md_D_clearBelow_96 (fun v18 => ?_)
        refine sp_imul (pc := 97) hX md_D_clearBelow_97 ?_
        refine sp_iadd (pc := 98) hX md_D_clearBelow_98 ?_
        refine sp_iload_n (pc := 99) (k := 3) (i := 3) hX rfl 3 rfl md_D_clearBelow_99 ?_
        refine sp_callSI (pc := 100) (y := my_K_reduce) (ccy := prog_3_method_2_code) (nLy := 2) (ret := (some .int)) (rmy := mr_K_reduce) (n := 2) (idx := 48) (As := [.int (iI (v15 + (x6 * v18))), .int (iI x3)]) (st := [.int (iI x7), .ref v12]) (cells' := 0) (slots' := 0) hX (fun _ h => mc_K_reduce h) mk_K_reduce mq_373 mq_642 ⟨(Nat.le_of_ble_eq_true rfl), (Nat.le_of_ble_eq_true rfl)⟩ rfl rfl (Nat.le_of_ble_eq_true rfl) ⟨(Nat.le_of_ble_eq_true rfl), (Nat.le_of_ble_eq_true rfl)⟩ rfl rfl md_D_clearBelow_100 (fun v20 s19 => ?_)
        refine sp_iastore (pc := 103) hX md_D_clearBelow_103 (fun s21 => ?_)
        refine sp_iinc (pc := 104) (i := 7) (L' := [(7, Value.int (iI (x7 + 1))), (0, Value.ref x0), (1, Value.int (iI x1)), (2, Value.int (iI x2)), (3, Value.int (iI x3)), (4, Value.int (iI x4)), (5, Value.int (iI x5)), (6, Value.int (iI x6))]) hX 7 rfl (by decide) rfl md_D_clearBelow_104 ?_
        refine sp_goto (pc := 107) hX 54 (by decide) md_D_clearBelow_107 ?_
        refine sp_sub [1, 2, 3, 4, 5, 6, 7, 0] (L' := [(0, Value.ref x0), (1, Value.int (iI x1)), (2, Value.int (iI x2)), (3, Value.int (iI x3)), (4, Value.int (iI x4)), (5, Value.int (iI x5)), (6, Value.int (iI x6)), (7, Value.int (iI (x7 + 1)))]) rfl ?_
        exact ih x0 x1 x2 x3 x4 x5 x6 (x7 + 1) s21
set_option maxHeartbeats 4000000 in
set_option maxRecDepth 20000 in
theorem sl_D_clearBelow_19 {X : pw_X Unit} (hX : pw_Ok X prog_12_method_6_code "PadeWorkbench$Toeplitz" mr_D_clearBelow 8) (hR : pw_RV X prog_12_method_6_code) : ∀ (n : Nat) (x0 : Nat) (x1 : Int) (x2 : Int) (x3 : Int) (x4 : Int) (x5 : Int) (σ : pw_Sto), pw_Sp X 0 0 19 [(0, Value.ref x0), (1, Value.int (iI x1)), (2, Value.int (iI x2)), (3, Value.int (iI x3)), (4, Value.int (iI x4)), (5, Value.int (iI x5))] [] σ (ml_D_clearBelow_19 n x0 x1 x2 x3 x4 x5 σ) := by
  intro n
  induction n with
  | zero => intros; exact pw_none
  | succ n ih =>
    intro x0 x1 x2 x3 x4 x5 σ
    show pw_Sp X 0 0 19 _ _ σ (mb_D_clearBelow_19 (ml_D_clearBelow_19 n) x0 x1 x2 x3 x4 x5 σ)
    unfold mb_D_clearBelow_19
    refine sp_iload (pc := 19) (i := 5) hX 5 rfl md_D_clearBelow_19 ?_
    refine sp_iload_n (pc := 21) (k := 2) (i := 2) hX rfl 2 rfl md_D_clearBelow_21 ?_
    refine sp_icmp_ge (pc := 22) hX 116 (by decide) md_D_clearBelow_22 (fun _ => ?_) (fun _ => ?_)
    · exact sp_vret (pc := 116) hX hR rfl (Nat.le_of_ble_eq_true rfl) md_D_clearBelow_116
    · refine sp_iload (pc := 25) (i := 5) hX 5 rfl md_D_clearBelow_25 ?_
      refine sp_bipush (pc := 27) hX (by decide) md_D_clearBelow_27 ?_
      refine sp_icmp_ge (pc := 29) hX 116 (by decide) md_D_clearBelow_29 (fun _ => ?_) (fun _ => ?_)
      · exact sp_vret (pc := 116) hX hR rfl (Nat.le_of_ble_eq_true rfl) md_D_clearBelow_116
      · refine sp_iload_n (pc := 32) (k := 3) (i := 3) hX rfl 3 rfl md_D_clearBelow_32 ?_
        refine sp_aload_n (pc := 33) (k := 0) (i := 0) hX rfl 0 rfl md_D_clearBelow_33 ?_
        refine sp_getR (pc := 34) (ci := 8) (k := 0) (idx := 11) hX mcl_8 (by decide) mq_246 rfl md_D_clearBelow_34 (fun v6 => ?_)
        refine sp_iload (pc := 37) (i := 5) hX 5 rfl md_D_clearBelow_37 ?_
        refine sp_aaG (pc := 39) hX md_D_clearBelow_39 (fun v7 => ?_)
        refine sp_iload_n (pc := 40) (k := 1) (i := 1) hX rfl 1 rfl md_D_clearBelow_40 ?_
        refine sp_iaload (pc := 41) hX md_D_clearBelow_41 (fun v8 => ?_)
        refine sp_iload (pc := 42) (i := 4) hX 4 rfl md_D_clearBelow_42 ?_
        refine sp_iload_n (pc := 44) (k := 3) (i := 3) hX rfl 3 rfl md_D_clearBelow_44 ?_
        refine sp_callSI (pc := 45) (y := my_K_times) (ccy := prog_3_method_4_code) (nLy := 3) (ret := (some .int)) (rmy := mr_K_times) (n := 3) (idx := 33) (As := [.int (iI v8), .int (iI x4), .int (iI x3)]) (st := [.int (iI x3)]) (cells' := 0) (slots' := 0) hX (fun _ h => mc_K_times h) mk_K_times mq_402 mq_636 ⟨(Nat.le_of_ble_eq_true rfl), (Nat.le_of_ble_eq_true rfl)⟩ rfl rfl (Nat.le_of_ble_eq_true rfl) ⟨(Nat.le_of_ble_eq_true rfl), (Nat.le_of_ble_eq_true rfl)⟩ rfl rfl md_D_clearBelow_45 (fun v10 s9 => ?_)
        refine sp_isub (pc := 48) hX md_D_clearBelow_48 ?_
        refine sp_istore (pc := 49) (i := 6) (L' := [(6, Value.int (iI (x3 - v10))), (0, Value.ref x0), (1, Value.int (iI x1)), (2, Value.int (iI x2)), (3, Value.int (iI x3)), (4, Value.int (iI x4)), (5, Value.int (iI x5))]) hX (by decide) rfl md_D_clearBelow_49 ?_
        refine sp_iload_n (pc := 51) (k := 1) (i := 1) hX rfl 2 rfl md_D_clearBelow_51 ?_
        refine sp_istore (pc := 52) (i := 7) (L' := [(7, Value.int (iI x1)), (6, Value.int (iI (x3 - v10))), (0, Value.ref x0), (1, Value.int (iI x1)), (2, Value.int (iI x2)), (3, Value.int (iI x3)), (4, Value.int (iI x4)), (5, Value.int (iI x5))]) hX (by decide) rfl md_D_clearBelow_52 ?_
        refine sp_sub [2, 3, 4, 5, 6, 7, 1, 0] (L' := [(0, Value.ref x0), (1, Value.int (iI x1)), (2, Value.int (iI x2)), (3, Value.int (iI x3)), (4, Value.int (iI x4)), (5, Value.int (iI x5)), (6, Value.int (iI (x3 - v10))), (7, Value.int (iI x1))]) rfl ?_
        exact sl_D_clearBelow_54 hX hR ih 1000 x0 x1 x2 x3 x4 x5 (x3 - v10) x1 s9
set_option maxHeartbeats 4000000 in
set_option maxRecDepth 20000 in
theorem mc_D_clearBelow {l : Launch} {E : pw_E} {σ : pw_Sto} {x0 : Nat} {x1 : Int} {x2 : Int} {x3 : Int} {out : Unit × pw_Sto} (h : mf_D_clearBelow x0 x1 x2 x3 σ = some out) : pw_CV l E my_D_clearBelow prog_12_method_6_code 8 none mr_D_clearBelow [.ref x0, .int (iI x1), .int (iI x2), .int (iI x3)] σ out := by
  unfold mf_D_clearBelow at h
  refine pw_entryV (by decide) (Nat.le_of_ble_eq_true rfl) (pw_gd_val h) (fun X hX hR hI => ?_)
  change pw_Ok X prog_12_method_6_code "PadeWorkbench$Toeplitz" mr_D_clearBelow 8 at hX
  show pw_Sp X 0 0 0 [(0, Value.ref x0), (1, Value.int (iI x1)), (2, Value.int (iI x2)), (3, Value.int (iI x3))] [] σ _
  refine sp_aload_n (pc := 0) (k := 0) (i := 0) hX rfl 0 rfl md_D_clearBelow_0 ?_
  refine sp_getR (pc := 1) (ci := 8) (k := 0) (idx := 11) hX mcl_8 (by decide) mq_246 rfl md_D_clearBelow_1 (fun v1 => ?_)
  refine sp_iload_n (pc := 4) (k := 1) (i := 1) hX rfl 1 rfl md_D_clearBelow_4 ?_
  refine sp_aaG (pc := 5) hX md_D_clearBelow_5 (fun v2 => ?_)
  refine sp_iload_n (pc := 6) (k := 1) (i := 1) hX rfl 1 rfl md_D_clearBelow_6 ?_
  refine sp_iaload (pc := 7) hX md_D_clearBelow_7 (fun v3 => ?_)
  refine sp_iload_n (pc := 8) (k := 3) (i := 3) hX rfl 3 rfl md_D_clearBelow_8 ?_
  refine sp_callSI (pc := 9) (y := my_K_inverse) (ccy := prog_3_method_5_code) (nLy := 5) (ret := (some .int)) (rmy := mr_K_inverse) (n := 2) (idx := 45) (As := [.int (iI v3), .int (iI x3)]) (st := []) (cells' := 0) (slots' := 0) hX (fun _ h => mc_K_inverse h) mk_K_inverse mq_398 mq_641 ⟨(Nat.le_of_ble_eq_true rfl), (Nat.le_of_ble_eq_true rfl)⟩ rfl rfl (Nat.le_of_ble_eq_true rfl) ⟨(Nat.le_of_ble_eq_true rfl), (Nat.le_of_ble_eq_true rfl)⟩ rfl rfl md_D_clearBelow_9 (fun v5 s4 => ?_)
  refine sp_istore (pc := 12) (i := 4) (L' := [(4, Value.int (iI v5)), (0, Value.ref x0), (1, Value.int (iI x1)), (2, Value.int (iI x2)), (3, Value.int (iI x3))]) hX (by decide) rfl md_D_clearBelow_12 ?_
  refine sp_iload_n (pc := 14) (k := 1) (i := 1) hX rfl 2 rfl md_D_clearBelow_14 ?_
  refine sp_iconst (pc := 15) hX md_D_clearBelow_15 ?_
  refine sp_iadd (pc := 16) hX md_D_clearBelow_16 ?_
  refine sp_istore (pc := 17) (i := 5) (L' := [(5, Value.int (iI (x1 + (1 : Int)))), (4, Value.int (iI v5)), (0, Value.ref x0), (1, Value.int (iI x1)), (2, Value.int (iI x2)), (3, Value.int (iI x3))]) hX (by decide) rfl md_D_clearBelow_17 ?_
  refine sp_sub [2, 3, 4, 5, 1, 0] (L' := [(0, Value.ref x0), (1, Value.int (iI x1)), (2, Value.int (iI x2)), (3, Value.int (iI x3)), (4, Value.int (iI v5)), (5, Value.int (iI (x1 + (1 : Int))))]) rfl ?_
  exact sl_D_clearBelow_19 hX hR 1000 x0 x1 x2 x3 v5 (x1 + (1 : Int)) s4
/-! PadeWorkbench$Toeplitz.valueOf([IIII)I -/
theorem md_D_valueOf_0 : decode prog_12_method_2_code 0 = .ok (.aload_n 0, 1) := by decide +kernel
theorem md_D_valueOf_1 : decode prog_12_method_2_code 1 = .ok (.aload_n 1, 1) := by decide +kernel
theorem md_D_valueOf_2 : decode prog_12_method_2_code 2 = .ok (.iload_n 2, 1) := by decide +kernel
theorem md_D_valueOf_3 : decode prog_12_method_2_code 3 = .ok (.iload_n 3, 1) := by decide +kernel
theorem md_D_valueOf_4 : decode prog_12_method_2_code 4 = .ok (.invokevirtual 16, 3) := by decide +kernel
theorem md_D_valueOf_7 : decode prog_12_method_2_code 7 = .ok (.iconst 1, 1) := by decide +kernel
theorem md_D_valueOf_8 : decode prog_12_method_2_code 8 = .ok (.istore 5, 2) := by decide +kernel
theorem md_D_valueOf_10 : decode prog_12_method_2_code 10 = .ok (.iconst 0, 1) := by decide +kernel
theorem md_D_valueOf_11 : decode prog_12_method_2_code 11 = .ok (.istore 6, 2) := by decide +kernel
theorem md_D_valueOf_13 : decode prog_12_method_2_code 13 = .ok (.iload 6, 2) := by decide +kernel
theorem md_D_valueOf_15 : decode prog_12_method_2_code 15 = .ok (.iload_n 3, 1) := by decide +kernel
theorem md_D_valueOf_16 : decode prog_12_method_2_code 16 = .ok (.if_icmp .ge 84, 3) := by decide +kernel
theorem md_D_valueOf_100 : decode prog_12_method_2_code 100 = .ok (.iload 5, 2) := by decide +kernel
theorem md_D_valueOf_102 : decode prog_12_method_2_code 102 = .ok (.ireturn, 1) := by decide +kernel
theorem md_D_valueOf_19 : decode prog_12_method_2_code 19 = .ok (.iload 6, 2) := by decide +kernel
theorem md_D_valueOf_21 : decode prog_12_method_2_code 21 = .ok (.bipush 16, 2) := by decide +kernel
theorem md_D_valueOf_23 : decode prog_12_method_2_code 23 = .ok (.if_icmp .ge 77, 3) := by decide +kernel
theorem md_D_valueOf_26 : decode prog_12_method_2_code 26 = .ok (.aload_n 0, 1) := by decide +kernel
theorem md_D_valueOf_27 : decode prog_12_method_2_code 27 = .ok (.iload 6, 2) := by decide +kernel
theorem md_D_valueOf_29 : decode prog_12_method_2_code 29 = .ok (.iload_n 3, 1) := by decide +kernel
theorem md_D_valueOf_30 : decode prog_12_method_2_code 30 = .ok (.invokevirtual 20, 3) := by decide +kernel
theorem md_D_valueOf_33 : decode prog_12_method_2_code 33 = .ok (.istore 7, 2) := by decide +kernel
theorem md_D_valueOf_35 : decode prog_12_method_2_code 35 = .ok (.iload 7, 2) := by decide +kernel
theorem md_D_valueOf_37 : decode prog_12_method_2_code 37 = .ok (.ifCond .ge 5, 3) := by decide +kernel
theorem md_D_valueOf_42 : decode prog_12_method_2_code 42 = .ok (.iload 7, 2) := by decide +kernel
theorem md_D_valueOf_44 : decode prog_12_method_2_code 44 = .ok (.iload 6, 2) := by decide +kernel
theorem md_D_valueOf_46 : decode prog_12_method_2_code 46 = .ok (.if_icmp .eq 20, 3) := by decide +kernel
theorem md_D_valueOf_66 : decode prog_12_method_2_code 66 = .ok (.iload 5, 2) := by decide +kernel
theorem md_D_valueOf_68 : decode prog_12_method_2_code 68 = .ok (.aload_n 0, 1) := by decide +kernel
theorem md_D_valueOf_69 : decode prog_12_method_2_code 69 = .ok (.getfield 11, 3) := by decide +kernel
theorem md_D_valueOf_72 : decode prog_12_method_2_code 72 = .ok (.iload 6, 2) := by decide +kernel
theorem md_D_valueOf_74 : decode prog_12_method_2_code 74 = .ok (.aaload, 1) := by decide +kernel
theorem md_D_valueOf_75 : decode prog_12_method_2_code 75 = .ok (.iload 6, 2) := by decide +kernel
theorem md_D_valueOf_77 : decode prog_12_method_2_code 77 = .ok (.iaload, 1) := by decide +kernel
theorem md_D_valueOf_78 : decode prog_12_method_2_code 78 = .ok (.iload 4, 2) := by decide +kernel
theorem md_D_valueOf_80 : decode prog_12_method_2_code 80 = .ok (.invokestatic 33, 3) := by decide +kernel
theorem md_D_valueOf_83 : decode prog_12_method_2_code 83 = .ok (.istore 5, 2) := by decide +kernel
theorem md_D_valueOf_85 : decode prog_12_method_2_code 85 = .ok (.aload_n 0, 1) := by decide +kernel
theorem md_D_valueOf_86 : decode prog_12_method_2_code 86 = .ok (.iload 6, 2) := by decide +kernel
theorem md_D_valueOf_88 : decode prog_12_method_2_code 88 = .ok (.iload_n 3, 1) := by decide +kernel
theorem md_D_valueOf_89 : decode prog_12_method_2_code 89 = .ok (.iload 4, 2) := by decide +kernel
theorem md_D_valueOf_91 : decode prog_12_method_2_code 91 = .ok (.invokevirtual 37, 3) := by decide +kernel
theorem md_D_valueOf_94 : decode prog_12_method_2_code 94 = .ok (.iinc 6 1, 3) := by decide +kernel
theorem md_D_valueOf_97 : decode prog_12_method_2_code 97 = .ok (.goto (-84), 3) := by decide +kernel
theorem md_D_valueOf_49 : decode prog_12_method_2_code 49 = .ok (.aload_n 0, 1) := by decide +kernel
theorem md_D_valueOf_50 : decode prog_12_method_2_code 50 = .ok (.iload 7, 2) := by decide +kernel
theorem md_D_valueOf_52 : decode prog_12_method_2_code 52 = .ok (.iload 6, 2) := by decide +kernel
theorem md_D_valueOf_54 : decode prog_12_method_2_code 54 = .ok (.invokevirtual 24, 3) := by decide +kernel
theorem md_D_valueOf_57 : decode prog_12_method_2_code 57 = .ok (.iload 5, 2) := by decide +kernel
theorem md_D_valueOf_59 : decode prog_12_method_2_code 59 = .ok (.iload 4, 2) := by decide +kernel
theorem md_D_valueOf_61 : decode prog_12_method_2_code 61 = .ok (.invokestatic 28, 3) := by decide +kernel
theorem md_D_valueOf_64 : decode prog_12_method_2_code 64 = .ok (.istore 5, 2) := by decide +kernel
theorem md_D_valueOf_40 : decode prog_12_method_2_code 40 = .ok (.iconst 0, 1) := by decide +kernel
theorem md_D_valueOf_41 : decode prog_12_method_2_code 41 = .ok (.ireturn, 1) := by decide +kernel
def mj_D_valueOf_66 (r13 : Nat → Int → Int → Int → Int → pw_Sto → Option (Int × pw_Sto)) (x0 : Nat) (x3 : Int) (x4 : Int) (x5 : Int) (x6 : Int) (σ : pw_Sto) : Option (Int × pw_Sto) := (pw_gr 8 x0 0 σ).bind (fun v4 => (pw_ar 13 v4 x6 σ).bind (fun v5 => (pw_ai v5 x6 σ).bind (fun v6 => pw_bd (mf_K_times x5 v6 x4 σ) (fun v8 s7 => pw_bd (mf_D_clearBelow x0 x6 x3 x4 s7) (fun _ s9 => r13 x0 x3 x4 v8 (x6 + 1) s9)))))
def mb_D_valueOf_13 (rc : Nat → Int → Int → Int → Int → pw_Sto → Option (Int × pw_Sto)) : Nat → Int → Int → Int → Int → pw_Sto → Option (Int × pw_Sto) := fun x0 x3 x4 x5 x6 σ => pw_ck x6 x3 (if x3 ≤ x6 then some (x5, σ) else pw_ck x6 (16 : Int) (if (16 : Int) ≤ x6 then some (x5, σ) else pw_bd (mf_D_pivotRow x0 x6 x3 σ) (fun v3 s2 => pw_ck v3 0 (if 0 ≤ v3 then pw_ck v3 x6 (if v3 = x6 then mj_D_valueOf_66 rc x0 x3 x4 x5 x6 s2 else pw_bd (mf_D_swapRows x0 v3 x6 s2) (fun _ s10 => pw_bd (mf_K_negative x5 x4 s10) (fun v12 s11 => mj_D_valueOf_66 rc x0 x3 x4 v12 x6 s11))) else some ((0 : Int), s2)))))
def ml_D_valueOf_13 : Nat → Nat → Int → Int → Int → Int → pw_Sto → Option (Int × pw_Sto) := pw_lp (fun _ _ _ _ _ _ => none) (mb_D_valueOf_13)
def mf_D_valueOf (x0 : Nat) (x1 : Nat) (x2 : Int) (x3 : Int) (x4 : Int) (σ : pw_Sto) : Option (Int × pw_Sto) := pw_gd 8 x0 σ (pw_bd (mf_D_fill x0 x1 x2 x3 σ) (fun _ s1 => ml_D_valueOf_13 1000 x0 x3 x4 (1 : Int) (0 : Int) s1))
set_option maxHeartbeats 4000000 in
set_option maxRecDepth 20000 in
theorem sj_D_valueOf_66 {X : pw_X Int} (hX : pw_Ok X prog_12_method_2_code "PadeWorkbench$Toeplitz" mr_D_valueOf 8) (hR : pw_RI X prog_12_method_2_code) {r13 : Nat → Int → Int → Int → Int → pw_Sto → Option (Int × pw_Sto)} (h13 : ∀ (z0 : Nat) (z1 : Int) (z2 : Int) (z3 : Int) (z4 : Int) (σ : pw_Sto), pw_Sp X 0 0 13 [(0, Value.ref z0), (3, Value.int (iI z1)), (4, Value.int (iI z2)), (5, Value.int (iI z3)), (6, Value.int (iI z4))] [] σ (r13 z0 z1 z2 z3 z4 σ)) (x0 : Nat) (x3 : Int) (x4 : Int) (x5 : Int) (x6 : Int) (σ : pw_Sto) : pw_Sp X 0 0 66 [(0, Value.ref x0), (3, Value.int (iI x3)), (4, Value.int (iI x4)), (5, Value.int (iI x5)), (6, Value.int (iI x6))] [] σ (mj_D_valueOf_66 r13 x0 x3 x4 x5 x6 σ) := by
  unfold mj_D_valueOf_66
  refine sp_iload (pc := 66) (i := 5) hX 3 rfl md_D_valueOf_66 ?_
  refine sp_aload_n (pc := 68) (k := 0) (i := 0) hX rfl 0 rfl md_D_valueOf_68 ?_
  refine sp_getR (pc := 69) (ci := 8) (k := 0) (idx := 11) hX mcl_8 (by decide) mq_246 rfl md_D_valueOf_69 (fun v4 => ?_)
  refine sp_iload (pc := 72) (i := 6) hX 4 rfl md_D_valueOf_72 ?_
  refine sp_aaG (pc := 74) hX md_D_valueOf_74 (fun v5 => ?_)
  refine sp_iload (pc := 75) (i := 6) hX 4 rfl md_D_valueOf_75 ?_
  refine sp_iaload (pc := 77) hX md_D_valueOf_77 (fun v6 => ?_)
  refine sp_iload (pc := 78) (i := 4) hX 2 rfl md_D_valueOf_78 ?_
  refine sp_callSI (pc := 80) (y := my_K_times) (ccy := prog_3_method_4_code) (nLy := 3) (ret := (some .int)) (rmy := mr_K_times) (n := 3) (idx := 33) (As := [.int (iI x5), .int (iI v6), .int (iI x4)]) (st := []) (cells' := 0) (slots' := 0) hX (fun _ h => mc_K_times h) mk_K_times mq_402 mq_636 ⟨(Nat.le_of_ble_eq_true rfl), (Nat.le_of_ble_eq_true rfl)⟩ rfl rfl (Nat.le_of_ble_eq_true rfl) ⟨(Nat.le_of_ble_eq_true rfl), (Nat.le_of_ble_eq_true rfl)⟩ rfl rfl md_D_valueOf_80 (fun v8 s7 => ?_)
  refine sp_istore (pc := 83) (i := 5) (L' := [(5, Value.int (iI v8)), (0, Value.ref x0), (3, Value.int (iI x3)), (4, Value.int (iI x4)), (6, Value.int (iI x6))]) hX (by decide) rfl md_D_valueOf_83 ?_
  refine sp_aload_n (pc := 85) (k := 0) (i := 0) hX rfl 1 rfl md_D_valueOf_85 ?_
  refine sp_iload (pc := 86) (i := 6) hX 4 rfl md_D_valueOf_86 ?_
  refine sp_iload_n (pc := 88) (k := 3) (i := 3) hX rfl 2 rfl md_D_valueOf_88 ?_
  refine sp_iload (pc := 89) (i := 4) hX 3 rfl md_D_valueOf_89 ?_
  refine sp_callVV (pc := 91) (y := my_D_clearBelow) (ccy := prog_12_method_6_code) (nLy := 8) (ret := none) (rmy := mr_D_clearBelow) (n := 3) (idx := 37) (As := [.int (iI x6), .int (iI x3), .int (iI x4)]) (st := []) (o := x0) (cells' := 0) (slots' := 0) hX (fun _ h => mc_D_clearBelow h) mk_D_clearBelow mv_D_clearBelow mcl_8 (fun _ h => pw_gd_of h) mq_637 ⟨(Nat.le_of_ble_eq_true rfl), (Nat.le_of_ble_eq_true rfl)⟩ rfl rfl (Nat.le_of_ble_eq_true rfl) ⟨(Nat.le_of_ble_eq_true rfl), (Nat.le_of_ble_eq_true rfl)⟩ rfl rfl md_D_valueOf_91 (fun s9 => ?_)
  refine sp_iinc (pc := 94) (i := 6) (L' := [(6, Value.int (iI (x6 + 1))), (5, Value.int (iI v8)), (0, Value.ref x0), (3, Value.int (iI x3)), (4, Value.int (iI x4))]) hX 4 rfl (by decide) rfl md_D_valueOf_94 ?_
  refine sp_goto (pc := 97) hX 13 (by decide) md_D_valueOf_97 ?_
  refine sp_sub [2, 3, 4, 1, 0] (L' := [(0, Value.ref x0), (3, Value.int (iI x3)), (4, Value.int (iI x4)), (5, Value.int (iI v8)), (6, Value.int (iI (x6 + 1)))]) rfl ?_
  exact h13 x0 x3 x4 v8 (x6 + 1) s9
set_option maxHeartbeats 4000000 in
set_option maxRecDepth 20000 in
theorem sl_D_valueOf_13 {X : pw_X Int} (hX : pw_Ok X prog_12_method_2_code "PadeWorkbench$Toeplitz" mr_D_valueOf 8) (hR : pw_RI X prog_12_method_2_code) : ∀ (n : Nat) (x0 : Nat) (x3 : Int) (x4 : Int) (x5 : Int) (x6 : Int) (σ : pw_Sto), pw_Sp X 0 0 13 [(0, Value.ref x0), (3, Value.int (iI x3)), (4, Value.int (iI x4)), (5, Value.int (iI x5)), (6, Value.int (iI x6))] [] σ (ml_D_valueOf_13 n x0 x3 x4 x5 x6 σ) := by
  intro n
  induction n with
  | zero => intros; exact pw_none
  | succ n ih =>
    intro x0 x3 x4 x5 x6 σ
    show pw_Sp X 0 0 13 _ _ σ (mb_D_valueOf_13 (ml_D_valueOf_13 n) x0 x3 x4 x5 x6 σ)
    unfold mb_D_valueOf_13
    refine sp_iload (pc := 13) (i := 6) hX 4 rfl md_D_valueOf_13 ?_
    refine sp_iload_n (pc := 15) (k := 3) (i := 3) hX rfl 1 rfl md_D_valueOf_15 ?_
    refine sp_icmp_ge (pc := 16) hX 100 (by decide) md_D_valueOf_16 (fun _ => ?_) (fun _ => ?_)
    · refine sp_iload (pc := 100) (i := 5) hX 3 rfl md_D_valueOf_100 ?_
      exact sp_iret (pc := 102) hX hR rfl (Nat.le_of_ble_eq_true rfl) md_D_valueOf_102
    · refine sp_iload (pc := 19) (i := 6) hX 4 rfl md_D_valueOf_19 ?_
      refine sp_bipush (pc := 21) hX (by decide) md_D_valueOf_21 ?_
      refine sp_icmp_ge (pc := 23) hX 100 (by decide) md_D_valueOf_23 (fun _ => ?_) (fun _ => ?_)
      · refine sp_iload (pc := 100) (i := 5) hX 3 rfl md_D_valueOf_100 ?_
        exact sp_iret (pc := 102) hX hR rfl (Nat.le_of_ble_eq_true rfl) md_D_valueOf_102
      · refine sp_aload_n (pc := 26) (k := 0) (i := 0) hX rfl 0 rfl md_D_valueOf_26 ?_
        refine sp_iload (pc := 27) (i := 6) hX 4 rfl md_D_valueOf_27 ?_
        refine sp_iload_n (pc := 29) (k := 3) (i := 3) hX rfl 1 rfl md_D_valueOf_29 ?_
        refine sp_callVI (pc := 30) (y := my_D_pivotRow) (ccy := prog_12_method_4_code) (nLy := 4) (ret := (some .int)) (rmy := mr_D_pivotRow) (n := 2) (idx := 20) (As := [.int (iI x6), .int (iI x3)]) (st := []) (o := x0) (cells' := 0) (slots' := 0) hX (fun _ h => mc_D_pivotRow h) mk_D_pivotRow mv_D_pivotRow mcl_8 (fun _ h => pw_gd_of h) mq_627 ⟨(Nat.le_of_ble_eq_true rfl), (Nat.le_of_ble_eq_true rfl)⟩ rfl rfl (Nat.le_of_ble_eq_true rfl) ⟨(Nat.le_of_ble_eq_true rfl), (Nat.le_of_ble_eq_true rfl)⟩ rfl rfl md_D_valueOf_30 (fun v3 s2 => ?_)
        refine sp_istore (pc := 33) (i := 7) (L' := [(7, Value.int (iI v3)), (0, Value.ref x0), (3, Value.int (iI x3)), (4, Value.int (iI x4)), (5, Value.int (iI x5)), (6, Value.int (iI x6))]) hX (by decide) rfl md_D_valueOf_33 ?_
        refine sp_iload (pc := 35) (i := 7) hX 0 rfl md_D_valueOf_35 ?_
        refine sp_if_ge (pc := 37) hX 42 (by decide) md_D_valueOf_37 (fun _ => ?_) (fun _ => ?_)
        · refine sp_iload (pc := 42) (i := 7) hX 0 rfl md_D_valueOf_42 ?_
          refine sp_iload (pc := 44) (i := 6) hX 5 rfl md_D_valueOf_44 ?_
          refine sp_icmp_eq (pc := 46) hX 66 (by decide) md_D_valueOf_46 (fun _ => ?_) (fun _ => ?_)
          · refine sp_sub [1, 2, 3, 4, 5] (L' := [(0, Value.ref x0), (3, Value.int (iI x3)), (4, Value.int (iI x4)), (5, Value.int (iI x5)), (6, Value.int (iI x6))]) rfl ?_
            exact sj_D_valueOf_66 hX hR ih x0 x3 x4 x5 x6 s2
          · refine sp_aload_n (pc := 49) (k := 0) (i := 0) hX rfl 1 rfl md_D_valueOf_49 ?_
            refine sp_iload (pc := 50) (i := 7) hX 0 rfl md_D_valueOf_50 ?_
            refine sp_iload (pc := 52) (i := 6) hX 5 rfl md_D_valueOf_52 ?_
            refine sp_callVV (pc := 54) (y := my_D_swapRows) (ccy := prog_12_method_5_code) (nLy := 5) (ret := none) (rmy := mr_D_swapRows) (n := 2) (idx := 24) (As := [.int (iI v3), .int (iI x6)]) (st := []) (o := x0) (cells' := 0) (slots' := 0) hX (fun _ h => mc_D_swapRows h) mk_D_swapRows mv_D_swapRows mcl_8 (fun _ h => pw_gd_of h) mq_631 ⟨(Nat.le_of_ble_eq_true rfl), (Nat.le_of_ble_eq_true rfl)⟩ rfl rfl (Nat.le_of_ble_eq_true rfl) ⟨(Nat.le_of_ble_eq_true rfl), (Nat.le_of_ble_eq_true rfl)⟩ rfl rfl md_D_valueOf_54 (fun s10 => ?_)
            refine sp_iload (pc := 57) (i := 5) hX 4 rfl md_D_valueOf_57 ?_
            refine sp_iload (pc := 59) (i := 4) hX 3 rfl md_D_valueOf_59 ?_
            refine sp_callSI (pc := 61) (y := my_K_negative) (ccy := prog_3_method_3_code) (nLy := 2) (ret := (some .int)) (rmy := mr_K_negative) (n := 2) (idx := 28) (As := [.int (iI x5), .int (iI x4)]) (st := []) (cells' := 0) (slots' := 0) hX (fun _ h => mc_K_negative h) mk_K_negative mq_405 mq_635 ⟨(Nat.le_of_ble_eq_true rfl), (Nat.le_of_ble_eq_true rfl)⟩ rfl rfl (Nat.le_of_ble_eq_true rfl) ⟨(Nat.le_of_ble_eq_true rfl), (Nat.le_of_ble_eq_true rfl)⟩ rfl rfl md_D_valueOf_61 (fun v12 s11 => ?_)
            refine sp_istore (pc := 64) (i := 5) (L' := [(5, Value.int (iI v12)), (7, Value.int (iI v3)), (0, Value.ref x0), (3, Value.int (iI x3)), (4, Value.int (iI x4)), (6, Value.int (iI x6))]) hX (by decide) rfl md_D_valueOf_64 ?_
            refine sp_sub [2, 3, 4, 0, 5] (L' := [(0, Value.ref x0), (3, Value.int (iI x3)), (4, Value.int (iI x4)), (5, Value.int (iI v12)), (6, Value.int (iI x6))]) rfl ?_
            exact sj_D_valueOf_66 hX hR ih x0 x3 x4 v12 x6 s11
        · refine sp_iconst (pc := 40) hX md_D_valueOf_40 ?_
          exact sp_iret (pc := 41) hX hR rfl (Nat.le_of_ble_eq_true rfl) md_D_valueOf_41
set_option maxHeartbeats 4000000 in
set_option maxRecDepth 20000 in
theorem mc_D_valueOf {l : Launch} {E : pw_E} {σ : pw_Sto} {x0 : Nat} {x1 : Nat} {x2 : Int} {x3 : Int} {x4 : Int} {out : Int × pw_Sto} (h : mf_D_valueOf x0 x1 x2 x3 x4 σ = some out) : pw_CI l E my_D_valueOf prog_12_method_2_code 8 (some .int) mr_D_valueOf [.ref x0, .ref x1, .int (iI x2), .int (iI x3), .int (iI x4)] σ out := by
  unfold mf_D_valueOf at h
  refine pw_entryI (by decide) (Nat.le_of_ble_eq_true rfl) (pw_gd_val h) (fun X hX hR hI => ?_)
  change pw_Ok X prog_12_method_2_code "PadeWorkbench$Toeplitz" mr_D_valueOf 8 at hX
  show pw_Sp X 0 0 0 [(0, Value.ref x0), (1, Value.ref x1), (2, Value.int (iI x2)), (3, Value.int (iI x3)), (4, Value.int (iI x4))] [] σ _
  refine sp_aload_n (pc := 0) (k := 0) (i := 0) hX rfl 0 rfl md_D_valueOf_0 ?_
  refine sp_aload_n (pc := 1) (k := 1) (i := 1) hX rfl 1 rfl md_D_valueOf_1 ?_
  refine sp_iload_n (pc := 2) (k := 2) (i := 2) hX rfl 2 rfl md_D_valueOf_2 ?_
  refine sp_iload_n (pc := 3) (k := 3) (i := 3) hX rfl 3 rfl md_D_valueOf_3 ?_
  refine sp_callVV (pc := 4) (y := my_D_fill) (ccy := prog_12_method_3_code) (nLy := 7) (ret := none) (rmy := mr_D_fill) (n := 3) (idx := 16) (As := [.ref x1, .int (iI x2), .int (iI x3)]) (st := []) (o := x0) (cells' := 0) (slots' := 0) hX (fun _ h => mc_D_fill h) mk_D_fill mv_D_fill mcl_8 (fun _ h => pw_gd_of h) mq_622 ⟨(Nat.le_of_ble_eq_true rfl), (Nat.le_of_ble_eq_true rfl)⟩ rfl rfl (Nat.le_of_ble_eq_true rfl) ⟨(Nat.le_of_ble_eq_true rfl), (Nat.le_of_ble_eq_true rfl)⟩ rfl rfl md_D_valueOf_4 (fun s1 => ?_)
  refine sp_iconst (pc := 7) hX md_D_valueOf_7 ?_
  refine sp_istore (pc := 8) (i := 5) (L' := [(5, Value.int (iI (1 : Int))), (0, Value.ref x0), (1, Value.ref x1), (2, Value.int (iI x2)), (3, Value.int (iI x3)), (4, Value.int (iI x4))]) hX (by decide) rfl md_D_valueOf_8 ?_
  refine sp_iconst (pc := 10) hX md_D_valueOf_10 ?_
  refine sp_istore (pc := 11) (i := 6) (L' := [(6, Value.int (iI (0 : Int))), (5, Value.int (iI (1 : Int))), (0, Value.ref x0), (1, Value.ref x1), (2, Value.int (iI x2)), (3, Value.int (iI x3)), (4, Value.int (iI x4))]) hX (by decide) rfl md_D_valueOf_11 ?_
  refine sp_sub [2, 5, 6, 1, 0] (L' := [(0, Value.ref x0), (3, Value.int (iI x3)), (4, Value.int (iI x4)), (5, Value.int (iI (1 : Int))), (6, Value.int (iI (0 : Int)))]) rfl ?_
  exact sl_D_valueOf_13 hX hR 1000 x0 x3 x4 (1 : Int) (0 : Int) s1
/-! PadeWorkbench$Scheme.ratio(III)I -/
theorem md_Q_ratio_0 : decode prog_9_method_6_code 0 = .ok (.iload_n 1, 1) := by decide +kernel
theorem md_Q_ratio_1 : decode prog_9_method_6_code 1 = .ok (.ifCond .le 12, 3) := by decide +kernel
theorem md_Q_ratio_13 : decode prog_9_method_6_code 13 = .ok (.iconst (-1), 1) := by decide +kernel
theorem md_Q_ratio_14 : decode prog_9_method_6_code 14 = .ok (.ireturn, 1) := by decide +kernel
theorem md_Q_ratio_4 : decode prog_9_method_6_code 4 = .ok (.iload_n 0, 1) := by decide +kernel
theorem md_Q_ratio_5 : decode prog_9_method_6_code 5 = .ok (.iload_n 1, 1) := by decide +kernel
theorem md_Q_ratio_6 : decode prog_9_method_6_code 6 = .ok (.iload_n 2, 1) := by decide +kernel
theorem md_Q_ratio_7 : decode prog_9_method_6_code 7 = .ok (.invokestatic 47, 3) := by decide +kernel
theorem md_Q_ratio_10 : decode prog_9_method_6_code 10 = .ok (.goto 4, 3) := by decide +kernel
def mf_Q_ratio (x0 : Int) (x1 : Int) (x2 : Int) (σ : pw_Sto) : Option (Int × pw_Sto) := pw_ck x1 0 (if x1 ≤ 0 then some ((-1 : Int), σ) else pw_bd (mf_K_over x0 x1 x2 σ) (fun v2 s1 => some (v2, s1)))
set_option maxHeartbeats 4000000 in
set_option maxRecDepth 20000 in
theorem mc_Q_ratio {l : Launch} {E : pw_E} {σ : pw_Sto} {x0 : Int} {x1 : Int} {x2 : Int} {out : Int × pw_Sto} (h : mf_Q_ratio x0 x1 x2 σ = some out) : pw_CI l E my_Q_ratio prog_9_method_6_code 3 (some .int) mr_Q_ratio [.int (iI x0), .int (iI x1), .int (iI x2)] σ out := by
  unfold mf_Q_ratio at h
  refine pw_entryI (by decide) (Nat.le_of_ble_eq_true rfl) h (fun X hX hR hI => ?_)
  change pw_Ok X prog_9_method_6_code "PadeWorkbench$Scheme" mr_Q_ratio 3 at hX
  show pw_Sp X 0 0 0 [(0, Value.int (iI x0)), (1, Value.int (iI x1)), (2, Value.int (iI x2))] [] σ _
  refine sp_iload_n (pc := 0) (k := 1) (i := 1) hX rfl 1 rfl md_Q_ratio_0 ?_
  refine sp_if_le (pc := 1) hX 13 (by decide) md_Q_ratio_1 (fun _ => ?_) (fun _ => ?_)
  · refine sp_iconst (pc := 13) hX md_Q_ratio_13 ?_
    exact sp_iret (pc := 14) hX hR rfl (Nat.le_of_ble_eq_true rfl) md_Q_ratio_14
  · refine sp_iload_n (pc := 4) (k := 0) (i := 0) hX rfl 0 rfl md_Q_ratio_4 ?_
    refine sp_iload_n (pc := 5) (k := 1) (i := 1) hX rfl 1 rfl md_Q_ratio_5 ?_
    refine sp_iload_n (pc := 6) (k := 2) (i := 2) hX rfl 2 rfl md_Q_ratio_6 ?_
    refine sp_callSI (pc := 7) (y := my_K_over) (ccy := prog_3_method_6_code) (nLy := 3) (ret := (some .int)) (rmy := mr_K_over) (n := 3) (idx := 47) (As := [.int (iI x0), .int (iI x1), .int (iI x2)]) (st := []) (cells' := 0) (slots' := 0) hX (fun _ h => mc_K_over h) mk_K_over mq_606 mq_662 ⟨(Nat.le_of_ble_eq_true rfl), (Nat.le_of_ble_eq_true rfl)⟩ rfl rfl (Nat.le_of_ble_eq_true rfl) ⟨(Nat.le_of_ble_eq_true rfl), (Nat.le_of_ble_eq_true rfl)⟩ rfl rfl md_Q_ratio_7 (fun v2 s1 => ?_)
    refine sp_goto (pc := 10) hX 14 (by decide) md_Q_ratio_10 ?_
    exact sp_iret (pc := 14) hX hR rfl (Nat.le_of_ble_eq_true rfl) md_Q_ratio_14
/-! PadeWorkbench$Scheme.firstColumns([II)V -/
theorem md_Q_firstColumns_0 : decode prog_9_method_3_code 0 = .ok (.aload_n 0, 1) := by decide +kernel
theorem md_Q_firstColumns_1 : decode prog_9_method_3_code 1 = .ok (.getfield 15, 3) := by decide +kernel
theorem md_Q_firstColumns_4 : decode prog_9_method_3_code 4 = .ok (.iconst 0, 1) := by decide +kernel
theorem md_Q_firstColumns_5 : decode prog_9_method_3_code 5 = .ok (.invokestatic 29, 3) := by decide +kernel
theorem md_Q_firstColumns_8 : decode prog_9_method_3_code 8 = .ok (.iconst 0, 1) := by decide +kernel
theorem md_Q_firstColumns_9 : decode prog_9_method_3_code 9 = .ok (.istore_n 3, 1) := by decide +kernel
theorem md_Q_firstColumns_10 : decode prog_9_method_3_code 10 = .ok (.iload_n 3, 1) := by decide +kernel
theorem md_Q_firstColumns_11 : decode prog_9_method_3_code 11 = .ok (.iconst 1, 1) := by decide +kernel
theorem md_Q_firstColumns_12 : decode prog_9_method_3_code 12 = .ok (.iadd, 1) := by decide +kernel
theorem md_Q_firstColumns_13 : decode prog_9_method_3_code 13 = .ok (.bipush 16, 2) := by decide +kernel
theorem md_Q_firstColumns_15 : decode prog_9_method_3_code 15 = .ok (.if_icmp .ge 27, 3) := by decide +kernel
theorem md_Q_firstColumns_42 : decode prog_9_method_3_code 42 = .ok (.aload_n 0, 1) := by decide +kernel
theorem md_Q_firstColumns_43 : decode prog_9_method_3_code 43 = .ok (.getfield 9, 3) := by decide +kernel
theorem md_Q_firstColumns_46 : decode prog_9_method_3_code 46 = .ok (.bipush 15, 2) := by decide +kernel
theorem md_Q_firstColumns_48 : decode prog_9_method_3_code 48 = .ok (.iconst (-1), 1) := by decide +kernel
theorem md_Q_firstColumns_49 : decode prog_9_method_3_code 49 = .ok (.iastore, 1) := by decide +kernel
theorem md_Q_firstColumns_50 : decode prog_9_method_3_code 50 = .ok (.return_, 1) := by decide +kernel
theorem md_Q_firstColumns_18 : decode prog_9_method_3_code 18 = .ok (.aload_n 0, 1) := by decide +kernel
theorem md_Q_firstColumns_19 : decode prog_9_method_3_code 19 = .ok (.getfield 9, 3) := by decide +kernel
theorem md_Q_firstColumns_22 : decode prog_9_method_3_code 22 = .ok (.iload_n 3, 1) := by decide +kernel
theorem md_Q_firstColumns_23 : decode prog_9_method_3_code 23 = .ok (.aload_n 1, 1) := by decide +kernel
theorem md_Q_firstColumns_24 : decode prog_9_method_3_code 24 = .ok (.iload_n 3, 1) := by decide +kernel
theorem md_Q_firstColumns_25 : decode prog_9_method_3_code 25 = .ok (.iconst 1, 1) := by decide +kernel
theorem md_Q_firstColumns_26 : decode prog_9_method_3_code 26 = .ok (.iadd, 1) := by decide +kernel
theorem md_Q_firstColumns_27 : decode prog_9_method_3_code 27 = .ok (.iaload, 1) := by decide +kernel
theorem md_Q_firstColumns_28 : decode prog_9_method_3_code 28 = .ok (.aload_n 1, 1) := by decide +kernel
theorem md_Q_firstColumns_29 : decode prog_9_method_3_code 29 = .ok (.iload_n 3, 1) := by decide +kernel
theorem md_Q_firstColumns_30 : decode prog_9_method_3_code 30 = .ok (.iaload, 1) := by decide +kernel
theorem md_Q_firstColumns_31 : decode prog_9_method_3_code 31 = .ok (.iload_n 2, 1) := by decide +kernel
theorem md_Q_firstColumns_32 : decode prog_9_method_3_code 32 = .ok (.invokestatic 34, 3) := by decide +kernel
theorem md_Q_firstColumns_35 : decode prog_9_method_3_code 35 = .ok (.iastore, 1) := by decide +kernel
theorem md_Q_firstColumns_36 : decode prog_9_method_3_code 36 = .ok (.iinc 3 1, 3) := by decide +kernel
theorem md_Q_firstColumns_39 : decode prog_9_method_3_code 39 = .ok (.goto (-29), 3) := by decide +kernel
def mb_Q_firstColumns_10 (rc : Nat → Nat → Int → Int → pw_Sto → Option (Unit × pw_Sto)) : Nat → Nat → Int → Int → pw_Sto → Option (Unit × pw_Sto) := fun x0 x1 x2 x3 σ => pw_ck (x3 + (1 : Int)) (16 : Int) (if (16 : Int) ≤ (x3 + (1 : Int)) then (pw_gr 6 x0 0 σ).bind (fun v3 => (pw_si v3 (15 : Int) (-1 : Int) σ).bind (fun s4 => some ((), s4))) else (pw_gr 6 x0 0 σ).bind (fun v5 => (pw_ai x1 (x3 + (1 : Int)) σ).bind (fun v6 => (pw_ai x1 x3 σ).bind (fun v7 => pw_bd (mf_Q_ratio v6 v7 x2 σ) (fun v9 s8 => (pw_si v5 x3 v9 s8).bind (fun s10 => rc x0 x1 x2 (x3 + 1) s10))))))
def ml_Q_firstColumns_10 : Nat → Nat → Nat → Int → Int → pw_Sto → Option (Unit × pw_Sto) := pw_lp (fun _ _ _ _ _ => none) (mb_Q_firstColumns_10)
def mf_Q_firstColumns (x0 : Nat) (x1 : Nat) (x2 : Int) (σ : pw_Sto) : Option (Unit × pw_Sto) := pw_gd 6 x0 σ ((pw_gr 6 x0 1 σ).bind (fun v1 => pw_bd (mf_A_fill v1 (0 : Int) σ) (fun _ s2 => ml_Q_firstColumns_10 1000 x0 x1 x2 (0 : Int) s2)))
set_option maxHeartbeats 4000000 in
set_option maxRecDepth 20000 in
theorem sl_Q_firstColumns_10 {X : pw_X Unit} (hX : pw_Ok X prog_9_method_3_code "PadeWorkbench$Scheme" mr_Q_firstColumns 4) (hR : pw_RV X prog_9_method_3_code) : ∀ (n : Nat) (x0 : Nat) (x1 : Nat) (x2 : Int) (x3 : Int) (σ : pw_Sto), pw_Sp X 0 0 10 [(0, Value.ref x0), (1, Value.ref x1), (2, Value.int (iI x2)), (3, Value.int (iI x3))] [] σ (ml_Q_firstColumns_10 n x0 x1 x2 x3 σ) := by
  intro n
  induction n with
  | zero => intros; exact pw_none
  | succ n ih =>
    intro x0 x1 x2 x3 σ
    show pw_Sp X 0 0 10 _ _ σ (mb_Q_firstColumns_10 (ml_Q_firstColumns_10 n) x0 x1 x2 x3 σ)
    unfold mb_Q_firstColumns_10
    refine sp_iload_n (pc := 10) (k := 3) (i := 3) hX rfl 3 rfl md_Q_firstColumns_10 ?_
    refine sp_iconst (pc := 11) hX md_Q_firstColumns_11 ?_
    refine sp_iadd (pc := 12) hX md_Q_firstColumns_12 ?_
    refine sp_bipush (pc := 13) hX (by decide) md_Q_firstColumns_13 ?_
    refine sp_icmp_ge (pc := 15) hX 42 (by decide) md_Q_firstColumns_15 (fun _ => ?_) (fun _ => ?_)
    · refine sp_aload_n (pc := 42) (k := 0) (i := 0) hX rfl 0 rfl md_Q_firstColumns_42 ?_
      refine sp_getR (pc := 43) (ci := 6) (k := 0) (idx := 9) hX mcl_6 (by decide) mq_256 rfl md_Q_firstColumns_43 (fun v3 => ?_)
      refine sp_bipush (pc := 46) hX (by decide) md_Q_firstColumns_46 ?_
      refine sp_iconst (pc := 48) hX md_Q_firstColumns_48 ?_
      refine sp_iastore (pc := 49) hX md_Q_firstColumns_49 (fun s4 => ?_)
      exact sp_vret (pc := 50) hX hR rfl (Nat.le_of_ble_eq_true rfl) md_Q_firstColumns_50
    · refine sp_aload_n (pc := 18) (k := 0) (i := 0) hX rfl 0 rfl md_Q_firstColumns_18 ?_
      refine sp_getR (pc := 19) (ci := 6) (k := 0) (idx := 9) hX mcl_6 (by decide) mq_256 rfl md_Q_firstColumns_19 (fun v5 => ?_)
      refine sp_iload_n (pc := 22) (k := 3) (i := 3) hX rfl 3 rfl md_Q_firstColumns_22 ?_
      refine sp_aload_n (pc := 23) (k := 1) (i := 1) hX rfl 1 rfl md_Q_firstColumns_23 ?_
      refine sp_iload_n (pc := 24) (k := 3) (i := 3) hX rfl 3 rfl md_Q_firstColumns_24 ?_
      refine sp_iconst (pc := 25) hX md_Q_firstColumns_25 ?_
      refine sp_iadd (pc := 26) hX md_Q_firstColumns_26 ?_
      refine sp_iaload (pc := 27) hX md_Q_firstColumns_27 (fun v6 => ?_)
      refine sp_aload_n (pc := 28) (k := 1) (i := 1) hX rfl 1 rfl md_Q_firstColumns_28 ?_
      refine sp_iload_n (pc := 29) (k := 3) (i := 3) hX rfl 3 rfl md_Q_firstColumns_29 ?_
      refine sp_iaload (pc := 30) hX md_Q_firstColumns_30 (fun v7 => ?_)
      refine sp_iload_n (pc := 31) (k := 2) (i := 2) hX rfl 2 rfl md_Q_firstColumns_31 ?_
      refine sp_callSI (pc := 32) (y := my_Q_ratio) (ccy := prog_9_method_6_code) (nLy := 3) (ret := (some .int)) (rmy := mr_Q_ratio) (n := 3) (idx := 34) (As := [.int (iI v6), .int (iI v7), .int (iI x2)]) (st := [.int (iI x3), .ref v5]) (cells' := 0) (slots' := 0) hX (fun _ h => mc_Q_ratio h) mk_Q_ratio mq_660 mq_659 ⟨(Nat.le_of_ble_eq_true rfl), (Nat.le_of_ble_eq_true rfl)⟩ rfl rfl (Nat.le_of_ble_eq_true rfl) ⟨(Nat.le_of_ble_eq_true rfl), (Nat.le_of_ble_eq_true rfl)⟩ rfl rfl md_Q_firstColumns_32 (fun v9 s8 => ?_)
      refine sp_iastore (pc := 35) hX md_Q_firstColumns_35 (fun s10 => ?_)
      refine sp_iinc (pc := 36) (i := 3) (L' := [(3, Value.int (iI (x3 + 1))), (0, Value.ref x0), (1, Value.ref x1), (2, Value.int (iI x2))]) hX 3 rfl (by decide) rfl md_Q_firstColumns_36 ?_
      refine sp_goto (pc := 39) hX 10 (by decide) md_Q_firstColumns_39 ?_
      refine sp_sub [1, 2, 3, 0] (L' := [(0, Value.ref x0), (1, Value.ref x1), (2, Value.int (iI x2)), (3, Value.int (iI (x3 + 1)))]) rfl ?_
      exact ih x0 x1 x2 (x3 + 1) s10
set_option maxHeartbeats 4000000 in
set_option maxRecDepth 20000 in
theorem mc_Q_firstColumns {l : Launch} {E : pw_E} {σ : pw_Sto} {x0 : Nat} {x1 : Nat} {x2 : Int} {out : Unit × pw_Sto} (h : mf_Q_firstColumns x0 x1 x2 σ = some out) : pw_CV l E my_Q_firstColumns prog_9_method_3_code 4 none mr_Q_firstColumns [.ref x0, .ref x1, .int (iI x2)] σ out := by
  unfold mf_Q_firstColumns at h
  refine pw_entryV (by decide) (Nat.le_of_ble_eq_true rfl) (pw_gd_val h) (fun X hX hR hI => ?_)
  change pw_Ok X prog_9_method_3_code "PadeWorkbench$Scheme" mr_Q_firstColumns 4 at hX
  show pw_Sp X 0 0 0 [(0, Value.ref x0), (1, Value.ref x1), (2, Value.int (iI x2))] [] σ _
  refine sp_aload_n (pc := 0) (k := 0) (i := 0) hX rfl 0 rfl md_Q_firstColumns_0 ?_
  refine sp_getR (pc := 1) (ci := 6) (k := 1) (idx := 15) hX mcl_6 (by decide) mq_257 rfl md_Q_firstColumns_1 (fun v1 => ?_)
  refine sp_iconst (pc := 4) hX md_Q_firstColumns_4 ?_
  refine sp_callSV (pc := 5) (y := my_A_fill) (ccy := prog_16_method_103_code) (nLy := 4) (ret := none) (rmy := mr_A_fill) (n := 2) (idx := 29) (As := [.ref v1, .int (iI (0 : Int))]) (st := []) (cells' := 0) (slots' := 0) hX (fun _ h => mc_A_fill h) mk_A_fill mq_345 mq_658 ⟨(Nat.le_of_ble_eq_true rfl), (Nat.le_of_ble_eq_true rfl)⟩ rfl rfl (Nat.le_of_ble_eq_true rfl) ⟨(Nat.le_of_ble_eq_true rfl), (Nat.le_of_ble_eq_true rfl)⟩ rfl rfl md_Q_firstColumns_5 (fun s2 => ?_)
  refine sp_iconst (pc := 8) hX md_Q_firstColumns_8 ?_
  refine sp_istore_n (pc := 9) (k := 3) (i := 3) (L' := [(3, Value.int (iI (0 : Int))), (0, Value.ref x0), (1, Value.ref x1), (2, Value.int (iI x2))]) hX rfl (by decide) rfl md_Q_firstColumns_9 ?_
  refine sp_sub [1, 2, 3, 0] (L' := [(0, Value.ref x0), (1, Value.ref x1), (2, Value.int (iI x2)), (3, Value.int (iI (0 : Int)))]) rfl ?_
  exact sl_Q_firstColumns_10 hX hR 1000 x0 x1 x2 (0 : Int) s2
/-! PadeWorkbench$Scheme.nextE(I)V -/
theorem md_Q_nextE_0 : decode prog_9_method_4_code 0 = .ok (.iconst 0, 1) := by decide +kernel
theorem md_Q_nextE_1 : decode prog_9_method_4_code 1 = .ok (.istore_n 2, 1) := by decide +kernel
theorem md_Q_nextE_2 : decode prog_9_method_4_code 2 = .ok (.iload_n 2, 1) := by decide +kernel
theorem md_Q_nextE_3 : decode prog_9_method_4_code 3 = .ok (.iconst 1, 1) := by decide +kernel
theorem md_Q_nextE_4 : decode prog_9_method_4_code 4 = .ok (.iadd, 1) := by decide +kernel
theorem md_Q_nextE_5 : decode prog_9_method_4_code 5 = .ok (.bipush 16, 2) := by decide +kernel
theorem md_Q_nextE_7 : decode prog_9_method_4_code 7 = .ok (.if_icmp .ge 90, 3) := by decide +kernel
theorem md_Q_nextE_97 : decode prog_9_method_4_code 97 = .ok (.aload_n 0, 1) := by decide +kernel
theorem md_Q_nextE_98 : decode prog_9_method_4_code 98 = .ok (.getfield 15, 3) := by decide +kernel
theorem md_Q_nextE_101 : decode prog_9_method_4_code 101 = .ok (.bipush 15, 2) := by decide +kernel
theorem md_Q_nextE_103 : decode prog_9_method_4_code 103 = .ok (.iconst (-1), 1) := by decide +kernel
theorem md_Q_nextE_104 : decode prog_9_method_4_code 104 = .ok (.iastore, 1) := by decide +kernel
theorem md_Q_nextE_105 : decode prog_9_method_4_code 105 = .ok (.return_, 1) := by decide +kernel
theorem md_Q_nextE_10 : decode prog_9_method_4_code 10 = .ok (.aload_n 0, 1) := by decide +kernel
theorem md_Q_nextE_11 : decode prog_9_method_4_code 11 = .ok (.getfield 9, 3) := by decide +kernel
theorem md_Q_nextE_14 : decode prog_9_method_4_code 14 = .ok (.iload_n 2, 1) := by decide +kernel
theorem md_Q_nextE_15 : decode prog_9_method_4_code 15 = .ok (.iconst 1, 1) := by decide +kernel
theorem md_Q_nextE_16 : decode prog_9_method_4_code 16 = .ok (.iadd, 1) := by decide +kernel
theorem md_Q_nextE_17 : decode prog_9_method_4_code 17 = .ok (.iaload, 1) := by decide +kernel
theorem md_Q_nextE_18 : decode prog_9_method_4_code 18 = .ok (.ifCond .lt 27, 3) := by decide +kernel
theorem md_Q_nextE_45 : decode prog_9_method_4_code 45 = .ok (.iconst 0, 1) := by decide +kernel
theorem md_Q_nextE_46 : decode prog_9_method_4_code 46 = .ok (.istore_n 3, 1) := by decide +kernel
theorem md_Q_nextE_47 : decode prog_9_method_4_code 47 = .ok (.aload_n 0, 1) := by decide +kernel
theorem md_Q_nextE_48 : decode prog_9_method_4_code 48 = .ok (.getfield 15, 3) := by decide +kernel
theorem md_Q_nextE_51 : decode prog_9_method_4_code 51 = .ok (.iload_n 2, 1) := by decide +kernel
theorem md_Q_nextE_52 : decode prog_9_method_4_code 52 = .ok (.iload_n 3, 1) := by decide +kernel
theorem md_Q_nextE_53 : decode prog_9_method_4_code 53 = .ok (.ifCond .eq 36, 3) := by decide +kernel
theorem md_Q_nextE_89 : decode prog_9_method_4_code 89 = .ok (.iconst (-1), 1) := by decide +kernel
theorem md_Q_nextE_90 : decode prog_9_method_4_code 90 = .ok (.iastore, 1) := by decide +kernel
theorem md_Q_nextE_91 : decode prog_9_method_4_code 91 = .ok (.iinc 2 1, 3) := by decide +kernel
theorem md_Q_nextE_94 : decode prog_9_method_4_code 94 = .ok (.goto (-92), 3) := by decide +kernel
theorem md_Q_nextE_56 : decode prog_9_method_4_code 56 = .ok (.aload_n 0, 1) := by decide +kernel
theorem md_Q_nextE_57 : decode prog_9_method_4_code 57 = .ok (.getfield 9, 3) := by decide +kernel
theorem md_Q_nextE_60 : decode prog_9_method_4_code 60 = .ok (.iload_n 2, 1) := by decide +kernel
theorem md_Q_nextE_61 : decode prog_9_method_4_code 61 = .ok (.iconst 1, 1) := by decide +kernel
theorem md_Q_nextE_62 : decode prog_9_method_4_code 62 = .ok (.iadd, 1) := by decide +kernel
theorem md_Q_nextE_63 : decode prog_9_method_4_code 63 = .ok (.iaload, 1) := by decide +kernel
theorem md_Q_nextE_64 : decode prog_9_method_4_code 64 = .ok (.iload_n 1, 1) := by decide +kernel
theorem md_Q_nextE_65 : decode prog_9_method_4_code 65 = .ok (.iadd, 1) := by decide +kernel
theorem md_Q_nextE_66 : decode prog_9_method_4_code 66 = .ok (.aload_n 0, 1) := by decide +kernel
theorem md_Q_nextE_67 : decode prog_9_method_4_code 67 = .ok (.getfield 9, 3) := by decide +kernel
theorem md_Q_nextE_70 : decode prog_9_method_4_code 70 = .ok (.iload_n 2, 1) := by decide +kernel
theorem md_Q_nextE_71 : decode prog_9_method_4_code 71 = .ok (.iaload, 1) := by decide +kernel
theorem md_Q_nextE_72 : decode prog_9_method_4_code 72 = .ok (.isub, 1) := by decide +kernel
theorem md_Q_nextE_73 : decode prog_9_method_4_code 73 = .ok (.aload_n 0, 1) := by decide +kernel
theorem md_Q_nextE_74 : decode prog_9_method_4_code 74 = .ok (.getfield 15, 3) := by decide +kernel
theorem md_Q_nextE_77 : decode prog_9_method_4_code 77 = .ok (.iload_n 2, 1) := by decide +kernel
theorem md_Q_nextE_78 : decode prog_9_method_4_code 78 = .ok (.iconst 1, 1) := by decide +kernel
theorem md_Q_nextE_79 : decode prog_9_method_4_code 79 = .ok (.iadd, 1) := by decide +kernel
theorem md_Q_nextE_80 : decode prog_9_method_4_code 80 = .ok (.iaload, 1) := by decide +kernel
theorem md_Q_nextE_81 : decode prog_9_method_4_code 81 = .ok (.iadd, 1) := by decide +kernel
theorem md_Q_nextE_82 : decode prog_9_method_4_code 82 = .ok (.iload_n 1, 1) := by decide +kernel
theorem md_Q_nextE_83 : decode prog_9_method_4_code 83 = .ok (.invokestatic 38, 3) := by decide +kernel
theorem md_Q_nextE_86 : decode prog_9_method_4_code 86 = .ok (.goto 4, 3) := by decide +kernel
theorem md_Q_nextE_21 : decode prog_9_method_4_code 21 = .ok (.aload_n 0, 1) := by decide +kernel
theorem md_Q_nextE_22 : decode prog_9_method_4_code 22 = .ok (.getfield 9, 3) := by decide +kernel
theorem md_Q_nextE_25 : decode prog_9_method_4_code 25 = .ok (.iload_n 2, 1) := by decide +kernel
theorem md_Q_nextE_26 : decode prog_9_method_4_code 26 = .ok (.iaload, 1) := by decide +kernel
theorem md_Q_nextE_27 : decode prog_9_method_4_code 27 = .ok (.ifCond .lt 18, 3) := by decide +kernel
theorem md_Q_nextE_30 : decode prog_9_method_4_code 30 = .ok (.aload_n 0, 1) := by decide +kernel
theorem md_Q_nextE_31 : decode prog_9_method_4_code 31 = .ok (.getfield 15, 3) := by decide +kernel
theorem md_Q_nextE_34 : decode prog_9_method_4_code 34 = .ok (.iload_n 2, 1) := by decide +kernel
theorem md_Q_nextE_35 : decode prog_9_method_4_code 35 = .ok (.iconst 1, 1) := by decide +kernel
theorem md_Q_nextE_36 : decode prog_9_method_4_code 36 = .ok (.iadd, 1) := by decide +kernel
theorem md_Q_nextE_37 : decode prog_9_method_4_code 37 = .ok (.iaload, 1) := by decide +kernel
theorem md_Q_nextE_38 : decode prog_9_method_4_code 38 = .ok (.ifCond .lt 7, 3) := by decide +kernel
theorem md_Q_nextE_41 : decode prog_9_method_4_code 41 = .ok (.iconst 1, 1) := by decide +kernel
theorem md_Q_nextE_42 : decode prog_9_method_4_code 42 = .ok (.goto 4, 3) := by decide +kernel
def mj_Q_nextE_46 (r2 : Nat → Int → Int → pw_Sto → Option (Unit × pw_Sto)) (x0 : Nat) (x1 : Int) (x2 : Int) (y0 : Int) (σ : pw_Sto) : Option (Unit × pw_Sto) := (pw_gr 6 x0 1 σ).bind (fun v5 => pw_ck y0 0 (if y0 = 0 then (pw_si v5 x2 (-1 : Int) σ).bind (fun s6 => r2 x0 x1 (x2 + 1) s6) else (pw_gr 6 x0 0 σ).bind (fun v7 => (pw_ai v7 (x2 + (1 : Int)) σ).bind (fun v8 => (pw_gr 6 x0 0 σ).bind (fun v9 => (pw_ai v9 x2 σ).bind (fun v10 => (pw_gr 6 x0 1 σ).bind (fun v11 => (pw_ai v11 (x2 + (1 : Int)) σ).bind (fun v12 => pw_bd (mf_K_reduce (((v8 + x1) - v10) + v12) x1 σ) (fun v14 s13 => (pw_si v5 x2 v14 s13).bind (fun s15 => r2 x0 x1 (x2 + 1) s15))))))))))
def mj_Q_nextE_45 (r2 : Nat → Int → Int → pw_Sto → Option (Unit × pw_Sto)) (x0 : Nat) (x1 : Int) (x2 : Int) (σ : pw_Sto) : Option (Unit × pw_Sto) := mj_Q_nextE_46 r2 x0 x1 x2 (0 : Int) σ
def mb_Q_nextE_2 (rc : Nat → Int → Int → pw_Sto → Option (Unit × pw_Sto)) : Nat → Int → Int → pw_Sto → Option (Unit × pw_Sto) := fun x0 x1 x2 σ => pw_ck (x2 + (1 : Int)) (16 : Int) (if (16 : Int) ≤ (x2 + (1 : Int)) then (pw_gr 6 x0 1 σ).bind (fun v1 => (pw_si v1 (15 : Int) (-1 : Int) σ).bind (fun s2 => some ((), s2))) else (pw_gr 6 x0 0 σ).bind (fun v3 => (pw_ai v3 (x2 + (1 : Int)) σ).bind (fun v4 => pw_ck v4 0 (if v4 < 0 then mj_Q_nextE_45 rc x0 x1 x2 σ else (pw_gr 6 x0 0 σ).bind (fun v16 => (pw_ai v16 x2 σ).bind (fun v17 => pw_ck v17 0 (if v17 < 0 then mj_Q_nextE_45 rc x0 x1 x2 σ else (pw_gr 6 x0 1 σ).bind (fun v18 => (pw_ai v18 (x2 + (1 : Int)) σ).bind (fun v19 => pw_ck v19 0 (if v19 < 0 then mj_Q_nextE_45 rc x0 x1 x2 σ else mj_Q_nextE_46 rc x0 x1 x2 (1 : Int) σ))))))))))
def ml_Q_nextE_2 : Nat → Nat → Int → Int → pw_Sto → Option (Unit × pw_Sto) := pw_lp (fun _ _ _ _ => none) (mb_Q_nextE_2)
def mf_Q_nextE (x0 : Nat) (x1 : Int) (σ : pw_Sto) : Option (Unit × pw_Sto) := pw_gd 6 x0 σ (ml_Q_nextE_2 1000 x0 x1 (0 : Int) σ)
set_option maxHeartbeats 4000000 in
set_option maxRecDepth 20000 in
theorem sj_Q_nextE_46 {X : pw_X Unit} (hX : pw_Ok X prog_9_method_4_code "PadeWorkbench$Scheme" mr_Q_nextE 4) (hR : pw_RV X prog_9_method_4_code) {r2 : Nat → Int → Int → pw_Sto → Option (Unit × pw_Sto)} (h2 : ∀ (z0 : Nat) (z1 : Int) (z2 : Int) (σ : pw_Sto), pw_Sp X 0 0 2 [(0, Value.ref z0), (1, Value.int (iI z1)), (2, Value.int (iI z2))] [] σ (r2 z0 z1 z2 σ)) (x0 : Nat) (x1 : Int) (x2 : Int) (y0 : Int) (σ : pw_Sto) : pw_Sp X 0 0 46 [(0, Value.ref x0), (1, Value.int (iI x1)), (2, Value.int (iI x2))] [Value.int (iI y0)] σ (mj_Q_nextE_46 r2 x0 x1 x2 y0 σ) := by
  unfold mj_Q_nextE_46
  refine sp_istore_n (pc := 46) (k := 3) (i := 3) (L' := [(3, Value.int (iI y0)), (0, Value.ref x0), (1, Value.int (iI x1)), (2, Value.int (iI x2))]) hX rfl (by decide) rfl md_Q_nextE_46 ?_
  refine sp_aload_n (pc := 47) (k := 0) (i := 0) hX rfl 1 rfl md_Q_nextE_47 ?_
  refine sp_getR (pc := 48) (ci := 6) (k := 1) (idx := 15) hX mcl_6 (by decide) mq_257 rfl md_Q_nextE_48 (fun v5 => ?_)
  refine sp_iload_n (pc := 51) (k := 2) (i := 2) hX rfl 3 rfl md_Q_nextE_51 ?_
  refine sp_iload_n (pc := 52) (k := 3) (i := 3) hX rfl 0 rfl md_Q_nextE_52 ?_
  refine sp_if_eq (pc := 53) hX 89 (by decide) md_Q_nextE_53 (fun _ => ?_) (fun _ => ?_)
  · refine sp_iconst (pc := 89) hX md_Q_nextE_89 ?_
    refine sp_iastore (pc := 90) hX md_Q_nextE_90 (fun s6 => ?_)
    refine sp_iinc (pc := 91) (i := 2) (L' := [(2, Value.int (iI (x2 + 1))), (3, Value.int (iI y0)), (0, Value.ref x0), (1, Value.int (iI x1))]) hX 3 rfl (by decide) rfl md_Q_nextE_91 ?_
    refine sp_goto (pc := 94) hX 2 (by decide) md_Q_nextE_94 ?_
    refine sp_sub [2, 3, 0] (L' := [(0, Value.ref x0), (1, Value.int (iI x1)), (2, Value.int (iI (x2 + 1)))]) rfl ?_
    exact h2 x0 x1 (x2 + 1) s6
  · refine sp_aload_n (pc := 56) (k := 0) (i := 0) hX rfl 1 rfl md_Q_nextE_56 ?_
    refine sp_getR (pc := 57) (ci := 6) (k := 0) (idx := 9) hX mcl_6 (by decide) mq_256 rfl md_Q_nextE_57 (fun v7 => ?_)
    refine sp_iload_n (pc := 60) (k := 2) (i := 2) hX rfl 3 rfl md_Q_nextE_60 ?_
    refine sp_iconst (pc := 61) hX md_Q_nextE_61 ?_
    refine sp_iadd (pc := 62) hX md_Q_nextE_62 ?_
    refine sp_iaload (pc := 63) hX md_Q_nextE_63 (fun v8 => ?_)
    refine sp_iload_n (pc := 64) (k := 1) (i := 1) hX rfl 2 rfl md_Q_nextE_64 ?_
    refine sp_iadd (pc := 65) hX md_Q_nextE_65 ?_
    refine sp_aload_n (pc := 66) (k := 0) (i := 0) hX rfl 1 rfl md_Q_nextE_66 ?_
    refine sp_getR (pc := 67) (ci := 6) (k := 0) (idx := 9) hX mcl_6 (by decide) mq_256 rfl md_Q_nextE_67 (fun v9 => ?_)
    refine sp_iload_n (pc := 70) (k := 2) (i := 2) hX rfl 3 rfl md_Q_nextE_70 ?_
    refine sp_iaload (pc := 71) hX md_Q_nextE_71 (fun v10 => ?_)
    refine sp_isub (pc := 72) hX md_Q_nextE_72 ?_
    refine sp_aload_n (pc := 73) (k := 0) (i := 0) hX rfl 1 rfl md_Q_nextE_73 ?_
    refine sp_getR (pc := 74) (ci := 6) (k := 1) (idx := 15) hX mcl_6 (by decide) mq_257 rfl md_Q_nextE_74 (fun v11 => ?_)
    refine sp_iload_n (pc := 77) (k := 2) (i := 2) hX rfl 3 rfl md_Q_nextE_77 ?_
    refine sp_iconst (pc := 78) hX md_Q_nextE_78 ?_
    refine sp_iadd (pc := 79) hX md_Q_nextE_79 ?_
    refine sp_iaload (pc := 80) hX md_Q_nextE_80 (fun v12 => ?_)
    refine sp_iadd (pc := 81) hX md_Q_nextE_81 ?_
    refine sp_iload_n (pc := 82) (k := 1) (i := 1) hX rfl 2 rfl md_Q_nextE_82 ?_
    refine sp_callSI (pc := 83) (y := my_K_reduce) (ccy := prog_3_method_2_code) (nLy := 2) (ret := (some .int)) (rmy := mr_K_reduce) (n := 2) (idx := 38) (As := [.int (iI (((v8 + x1) - v10) + v12)), .int (iI x1)]) (st := [.int (iI x2), .ref v5]) (cells' := 0) (slots' := 0) hX (fun _ h => mc_K_reduce h) mk_K_reduce mq_373 mq_667 ⟨(Nat.le_of_ble_eq_true rfl), (Nat.le_of_ble_eq_true rfl)⟩ rfl rfl (Nat.le_of_ble_eq_true rfl) ⟨(Nat.le_of_ble_eq_true rfl), (Nat.le_of_ble_eq_true rfl)⟩ rfl rfl md_Q_nextE_83 (fun v14 s13 => ?_)
    refine sp_goto (pc := 86) hX 90 (by decide) md_Q_nextE_86 ?_
    refine sp_iastore (pc := 90) hX md_Q_nextE_90 (fun s15 => ?_)
    refine sp_iinc (pc := 91) (i := 2) (L' := [(2, Value.int (iI (x2 + 1))), (3, Value.int (iI y0)), (0, Value.ref x0), (1, Value.int (iI x1))]) hX 3 rfl (by decide) rfl md_Q_nextE_91 ?_
    refine sp_goto (pc := 94) hX 2 (by decide) md_Q_nextE_94 ?_
    refine sp_sub [2, 3, 0] (L' := [(0, Value.ref x0), (1, Value.int (iI x1)), (2, Value.int (iI (x2 + 1)))]) rfl ?_
    exact h2 x0 x1 (x2 + 1) s15
set_option maxHeartbeats 4000000 in
set_option maxRecDepth 20000 in
theorem sj_Q_nextE_45 {X : pw_X Unit} (hX : pw_Ok X prog_9_method_4_code "PadeWorkbench$Scheme" mr_Q_nextE 4) (hR : pw_RV X prog_9_method_4_code) {r2 : Nat → Int → Int → pw_Sto → Option (Unit × pw_Sto)} (h2 : ∀ (z0 : Nat) (z1 : Int) (z2 : Int) (σ : pw_Sto), pw_Sp X 0 0 2 [(0, Value.ref z0), (1, Value.int (iI z1)), (2, Value.int (iI z2))] [] σ (r2 z0 z1 z2 σ)) (x0 : Nat) (x1 : Int) (x2 : Int) (σ : pw_Sto) : pw_Sp X 0 0 45 [(0, Value.ref x0), (1, Value.int (iI x1)), (2, Value.int (iI x2))] [] σ (mj_Q_nextE_45 r2 x0 x1 x2 σ) := by
  unfold mj_Q_nextE_45
  refine sp_iconst (pc := 45) hX md_Q_nextE_45 ?_
  exact sj_Q_nextE_46 hX hR h2 x0 x1 x2 (0 : Int) σ
set_option maxHeartbeats 4000000 in
set_option maxRecDepth 20000 in
theorem sl_Q_nextE_2 {X : pw_X Unit} (hX : pw_Ok X prog_9_method_4_code "PadeWorkbench$Scheme" mr_Q_nextE 4) (hR : pw_RV X prog_9_method_4_code) : ∀ (n : Nat) (x0 : Nat) (x1 : Int) (x2 : Int) (σ : pw_Sto), pw_Sp X 0 0 2 [(0, Value.ref x0), (1, Value.int (iI x1)), (2, Value.int (iI x2))] [] σ (ml_Q_nextE_2 n x0 x1 x2 σ) := by
  intro n
  induction n with
  | zero => intros; exact pw_none
  | succ n ih =>
    intro x0 x1 x2 σ
    show pw_Sp X 0 0 2 _ _ σ (mb_Q_nextE_2 (ml_Q_nextE_2 n) x0 x1 x2 σ)
    unfold mb_Q_nextE_2
    refine sp_iload_n (pc := 2) (k := 2) (i := 2) hX rfl 2 rfl md_Q_nextE_2 ?_
    refine sp_iconst (pc := 3) hX md_Q_nextE_3 ?_
    refine sp_iadd (pc := 4) hX md_Q_nextE_4 ?_
    refine sp_bipush (pc := 5) hX (by decide) md_Q_nextE_5 ?_
    refine sp_icmp_ge (pc := 7) hX 97 (by decide) md_Q_nextE_7 (fun _ => ?_) (fun _ => ?_)
    · refine sp_aload_n (pc := 97) (k := 0) (i := 0) hX rfl 0 rfl md_Q_nextE_97 ?_
      refine sp_getR (pc := 98) (ci := 6) (k := 1) (idx := 15) hX mcl_6 (by decide) mq_257 rfl md_Q_nextE_98 (fun v1 => ?_)
      refine sp_bipush (pc := 101) hX (by decide) md_Q_nextE_101 ?_
      refine sp_iconst (pc := 103) hX md_Q_nextE_103 ?_
      refine sp_iastore (pc := 104) hX md_Q_nextE_104 (fun s2 => ?_)
      exact sp_vret (pc := 105) hX hR rfl (Nat.le_of_ble_eq_true rfl) md_Q_nextE_105
    · refine sp_aload_n (pc := 10) (k := 0) (i := 0) hX rfl 0 rfl md_Q_nextE_10 ?_
      refine sp_getR (pc := 11) (ci := 6) (k := 0) (idx := 9) hX mcl_6 (by decide) mq_256 rfl md_Q_nextE_11 (fun v3 => ?_)
      refine sp_iload_n (pc := 14) (k := 2) (i := 2) hX rfl 2 rfl md_Q_nextE_14 ?_
      refine sp_iconst (pc := 15) hX md_Q_nextE_15 ?_
      refine sp_iadd (pc := 16) hX md_Q_nextE_16 ?_
      refine sp_iaload (pc := 17) hX md_Q_nextE_17 (fun v4 => ?_)
      refine sp_if_lt (pc := 18) hX 45 (by decide) md_Q_nextE_18 (fun _ => ?_) (fun _ => ?_)
      · exact sj_Q_nextE_45 hX hR ih x0 x1 x2 σ
      · refine sp_aload_n (pc := 21) (k := 0) (i := 0) hX rfl 0 rfl md_Q_nextE_21 ?_
        refine sp_getR (pc := 22) (ci := 6) (k := 0) (idx := 9) hX mcl_6 (by decide) mq_256 rfl md_Q_nextE_22 (fun v16 => ?_)
        refine sp_iload_n (pc := 25) (k := 2) (i := 2) hX rfl 2 rfl md_Q_nextE_25 ?_
        refine sp_iaload (pc := 26) hX md_Q_nextE_26 (fun v17 => ?_)
        refine sp_if_lt (pc := 27) hX 45 (by decide) md_Q_nextE_27 (fun _ => ?_) (fun _ => ?_)
        · exact sj_Q_nextE_45 hX hR ih x0 x1 x2 σ
        · refine sp_aload_n (pc := 30) (k := 0) (i := 0) hX rfl 0 rfl md_Q_nextE_30 ?_
          refine sp_getR (pc := 31) (ci := 6) (k := 1) (idx := 15) hX mcl_6 (by decide) mq_257 rfl md_Q_nextE_31 (fun v18 => ?_)
          refine sp_iload_n (pc := 34) (k := 2) (i := 2) hX rfl 2 rfl md_Q_nextE_34 ?_
          refine sp_iconst (pc := 35) hX md_Q_nextE_35 ?_
          refine sp_iadd (pc := 36) hX md_Q_nextE_36 ?_
          refine sp_iaload (pc := 37) hX md_Q_nextE_37 (fun v19 => ?_)
          refine sp_if_lt (pc := 38) hX 45 (by decide) md_Q_nextE_38 (fun _ => ?_) (fun _ => ?_)
          · exact sj_Q_nextE_45 hX hR ih x0 x1 x2 σ
          · refine sp_iconst (pc := 41) hX md_Q_nextE_41 ?_
            refine sp_goto (pc := 42) hX 46 (by decide) md_Q_nextE_42 ?_
            exact sj_Q_nextE_46 hX hR ih x0 x1 x2 (1 : Int) σ
set_option maxHeartbeats 4000000 in
set_option maxRecDepth 20000 in
theorem mc_Q_nextE {l : Launch} {E : pw_E} {σ : pw_Sto} {x0 : Nat} {x1 : Int} {out : Unit × pw_Sto} (h : mf_Q_nextE x0 x1 σ = some out) : pw_CV l E my_Q_nextE prog_9_method_4_code 4 none mr_Q_nextE [.ref x0, .int (iI x1)] σ out := by
  unfold mf_Q_nextE at h
  refine pw_entryV (by decide) (Nat.le_of_ble_eq_true rfl) (pw_gd_val h) (fun X hX hR hI => ?_)
  change pw_Ok X prog_9_method_4_code "PadeWorkbench$Scheme" mr_Q_nextE 4 at hX
  show pw_Sp X 0 0 0 [(0, Value.ref x0), (1, Value.int (iI x1))] [] σ _
  refine sp_iconst (pc := 0) hX md_Q_nextE_0 ?_
  refine sp_istore_n (pc := 1) (k := 2) (i := 2) (L' := [(2, Value.int (iI (0 : Int))), (0, Value.ref x0), (1, Value.int (iI x1))]) hX rfl (by decide) rfl md_Q_nextE_1 ?_
  refine sp_sub [1, 2, 0] (L' := [(0, Value.ref x0), (1, Value.int (iI x1)), (2, Value.int (iI (0 : Int)))]) rfl ?_
  exact sl_Q_nextE_2 hX hR 1000 x0 x1 (0 : Int) σ
/-! PadeWorkbench$Scheme.nextQ(I)V -/
theorem md_Q_nextQ_0 : decode prog_9_method_5_code 0 = .ok (.iconst 0, 1) := by decide +kernel
theorem md_Q_nextQ_1 : decode prog_9_method_5_code 1 = .ok (.istore_n 2, 1) := by decide +kernel
theorem md_Q_nextQ_2 : decode prog_9_method_5_code 2 = .ok (.iload_n 2, 1) := by decide +kernel
theorem md_Q_nextQ_3 : decode prog_9_method_5_code 3 = .ok (.iconst 1, 1) := by decide +kernel
theorem md_Q_nextQ_4 : decode prog_9_method_5_code 4 = .ok (.iadd, 1) := by decide +kernel
theorem md_Q_nextQ_5 : decode prog_9_method_5_code 5 = .ok (.bipush 16, 2) := by decide +kernel
theorem md_Q_nextQ_7 : decode prog_9_method_5_code 7 = .ok (.if_icmp .ge 81, 3) := by decide +kernel
theorem md_Q_nextQ_88 : decode prog_9_method_5_code 88 = .ok (.aload_n 0, 1) := by decide +kernel
theorem md_Q_nextQ_89 : decode prog_9_method_5_code 89 = .ok (.getfield 9, 3) := by decide +kernel
theorem md_Q_nextQ_92 : decode prog_9_method_5_code 92 = .ok (.bipush 15, 2) := by decide +kernel
theorem md_Q_nextQ_94 : decode prog_9_method_5_code 94 = .ok (.iconst (-1), 1) := by decide +kernel
theorem md_Q_nextQ_95 : decode prog_9_method_5_code 95 = .ok (.iastore, 1) := by decide +kernel
theorem md_Q_nextQ_96 : decode prog_9_method_5_code 96 = .ok (.return_, 1) := by decide +kernel
theorem md_Q_nextQ_10 : decode prog_9_method_5_code 10 = .ok (.aload_n 0, 1) := by decide +kernel
theorem md_Q_nextQ_11 : decode prog_9_method_5_code 11 = .ok (.getfield 9, 3) := by decide +kernel
theorem md_Q_nextQ_14 : decode prog_9_method_5_code 14 = .ok (.iload_n 2, 1) := by decide +kernel
theorem md_Q_nextQ_15 : decode prog_9_method_5_code 15 = .ok (.iconst 1, 1) := by decide +kernel
theorem md_Q_nextQ_16 : decode prog_9_method_5_code 16 = .ok (.iadd, 1) := by decide +kernel
theorem md_Q_nextQ_17 : decode prog_9_method_5_code 17 = .ok (.iaload, 1) := by decide +kernel
theorem md_Q_nextQ_18 : decode prog_9_method_5_code 18 = .ok (.ifCond .lt 18, 3) := by decide +kernel
theorem md_Q_nextQ_36 : decode prog_9_method_5_code 36 = .ok (.iconst 0, 1) := by decide +kernel
theorem md_Q_nextQ_37 : decode prog_9_method_5_code 37 = .ok (.istore_n 3, 1) := by decide +kernel
theorem md_Q_nextQ_38 : decode prog_9_method_5_code 38 = .ok (.aload_n 0, 1) := by decide +kernel
theorem md_Q_nextQ_39 : decode prog_9_method_5_code 39 = .ok (.getfield 9, 3) := by decide +kernel
theorem md_Q_nextQ_42 : decode prog_9_method_5_code 42 = .ok (.iload_n 2, 1) := by decide +kernel
theorem md_Q_nextQ_43 : decode prog_9_method_5_code 43 = .ok (.iload_n 3, 1) := by decide +kernel
theorem md_Q_nextQ_44 : decode prog_9_method_5_code 44 = .ok (.ifCond .eq 36, 3) := by decide +kernel
theorem md_Q_nextQ_80 : decode prog_9_method_5_code 80 = .ok (.iconst (-1), 1) := by decide +kernel
theorem md_Q_nextQ_81 : decode prog_9_method_5_code 81 = .ok (.iastore, 1) := by decide +kernel
theorem md_Q_nextQ_82 : decode prog_9_method_5_code 82 = .ok (.iinc 2 1, 3) := by decide +kernel
theorem md_Q_nextQ_85 : decode prog_9_method_5_code 85 = .ok (.goto (-83), 3) := by decide +kernel
theorem md_Q_nextQ_47 : decode prog_9_method_5_code 47 = .ok (.aload_n 0, 1) := by decide +kernel
theorem md_Q_nextQ_48 : decode prog_9_method_5_code 48 = .ok (.getfield 9, 3) := by decide +kernel
theorem md_Q_nextQ_51 : decode prog_9_method_5_code 51 = .ok (.iload_n 2, 1) := by decide +kernel
theorem md_Q_nextQ_52 : decode prog_9_method_5_code 52 = .ok (.iconst 1, 1) := by decide +kernel
theorem md_Q_nextQ_53 : decode prog_9_method_5_code 53 = .ok (.iadd, 1) := by decide +kernel
theorem md_Q_nextQ_54 : decode prog_9_method_5_code 54 = .ok (.iaload, 1) := by decide +kernel
theorem md_Q_nextQ_55 : decode prog_9_method_5_code 55 = .ok (.aload_n 0, 1) := by decide +kernel
theorem md_Q_nextQ_56 : decode prog_9_method_5_code 56 = .ok (.getfield 15, 3) := by decide +kernel
theorem md_Q_nextQ_59 : decode prog_9_method_5_code 59 = .ok (.iload_n 2, 1) := by decide +kernel
theorem md_Q_nextQ_60 : decode prog_9_method_5_code 60 = .ok (.iconst 1, 1) := by decide +kernel
theorem md_Q_nextQ_61 : decode prog_9_method_5_code 61 = .ok (.iadd, 1) := by decide +kernel
theorem md_Q_nextQ_62 : decode prog_9_method_5_code 62 = .ok (.iaload, 1) := by decide +kernel
theorem md_Q_nextQ_63 : decode prog_9_method_5_code 63 = .ok (.iload_n 1, 1) := by decide +kernel
theorem md_Q_nextQ_64 : decode prog_9_method_5_code 64 = .ok (.invokestatic 44, 3) := by decide +kernel
theorem md_Q_nextQ_67 : decode prog_9_method_5_code 67 = .ok (.aload_n 0, 1) := by decide +kernel
theorem md_Q_nextQ_68 : decode prog_9_method_5_code 68 = .ok (.getfield 15, 3) := by decide +kernel
theorem md_Q_nextQ_71 : decode prog_9_method_5_code 71 = .ok (.iload_n 2, 1) := by decide +kernel
theorem md_Q_nextQ_72 : decode prog_9_method_5_code 72 = .ok (.iaload, 1) := by decide +kernel
theorem md_Q_nextQ_73 : decode prog_9_method_5_code 73 = .ok (.iload_n 1, 1) := by decide +kernel
theorem md_Q_nextQ_74 : decode prog_9_method_5_code 74 = .ok (.invokestatic 34, 3) := by decide +kernel
theorem md_Q_nextQ_77 : decode prog_9_method_5_code 77 = .ok (.goto 4, 3) := by decide +kernel
theorem md_Q_nextQ_21 : decode prog_9_method_5_code 21 = .ok (.aload_n 0, 1) := by decide +kernel
theorem md_Q_nextQ_22 : decode prog_9_method_5_code 22 = .ok (.getfield 15, 3) := by decide +kernel
theorem md_Q_nextQ_25 : decode prog_9_method_5_code 25 = .ok (.iload_n 2, 1) := by decide +kernel
theorem md_Q_nextQ_26 : decode prog_9_method_5_code 26 = .ok (.iconst 1, 1) := by decide +kernel
theorem md_Q_nextQ_27 : decode prog_9_method_5_code 27 = .ok (.iadd, 1) := by decide +kernel
theorem md_Q_nextQ_28 : decode prog_9_method_5_code 28 = .ok (.iaload, 1) := by decide +kernel
theorem md_Q_nextQ_29 : decode prog_9_method_5_code 29 = .ok (.ifCond .lt 7, 3) := by decide +kernel
theorem md_Q_nextQ_32 : decode prog_9_method_5_code 32 = .ok (.iconst 1, 1) := by decide +kernel
theorem md_Q_nextQ_33 : decode prog_9_method_5_code 33 = .ok (.goto 4, 3) := by decide +kernel
def mj_Q_nextQ_37 (r2 : Nat → Int → Int → pw_Sto → Option (Unit × pw_Sto)) (x0 : Nat) (x1 : Int) (x2 : Int) (y0 : Int) (σ : pw_Sto) : Option (Unit × pw_Sto) := (pw_gr 6 x0 0 σ).bind (fun v5 => pw_ck y0 0 (if y0 = 0 then (pw_si v5 x2 (-1 : Int) σ).bind (fun s6 => r2 x0 x1 (x2 + 1) s6) else (pw_gr 6 x0 0 σ).bind (fun v7 => (pw_ai v7 (x2 + (1 : Int)) σ).bind (fun v8 => (pw_gr 6 x0 1 σ).bind (fun v9 => (pw_ai v9 (x2 + (1 : Int)) σ).bind (fun v10 => pw_bd (mf_K_times v8 v10 x1 σ) (fun v12 s11 => (pw_gr 6 x0 1 s11).bind (fun v13 => (pw_ai v13 x2 s11).bind (fun v14 => pw_bd (mf_Q_ratio v12 v14 x1 s11) (fun v16 s15 => (pw_si v5 x2 v16 s15).bind (fun s17 => r2 x0 x1 (x2 + 1) s17)))))))))))
def mj_Q_nextQ_36 (r2 : Nat → Int → Int → pw_Sto → Option (Unit × pw_Sto)) (x0 : Nat) (x1 : Int) (x2 : Int) (σ : pw_Sto) : Option (Unit × pw_Sto) := mj_Q_nextQ_37 r2 x0 x1 x2 (0 : Int) σ
def mb_Q_nextQ_2 (rc : Nat → Int → Int → pw_Sto → Option (Unit × pw_Sto)) : Nat → Int → Int → pw_Sto → Option (Unit × pw_Sto) := fun x0 x1 x2 σ => pw_ck (x2 + (1 : Int)) (16 : Int) (if (16 : Int) ≤ (x2 + (1 : Int)) then (pw_gr 6 x0 0 σ).bind (fun v1 => (pw_si v1 (15 : Int) (-1 : Int) σ).bind (fun s2 => some ((), s2))) else (pw_gr 6 x0 0 σ).bind (fun v3 => (pw_ai v3 (x2 + (1 : Int)) σ).bind (fun v4 => pw_ck v4 0 (if v4 < 0 then mj_Q_nextQ_36 rc x0 x1 x2 σ else (pw_gr 6 x0 1 σ).bind (fun v18 => (pw_ai v18 (x2 + (1 : Int)) σ).bind (fun v19 => pw_ck v19 0 (if v19 < 0 then mj_Q_nextQ_36 rc x0 x1 x2 σ else mj_Q_nextQ_37 rc x0 x1 x2 (1 : Int) σ)))))))
def ml_Q_nextQ_2 : Nat → Nat → Int → Int → pw_Sto → Option (Unit × pw_Sto) := pw_lp (fun _ _ _ _ => none) (mb_Q_nextQ_2)
def mf_Q_nextQ (x0 : Nat) (x1 : Int) (σ : pw_Sto) : Option (Unit × pw_Sto) := pw_gd 6 x0 σ (ml_Q_nextQ_2 1000 x0 x1 (0 : Int) σ)
set_option maxHeartbeats 4000000 in
set_option maxRecDepth 20000 in
theorem sj_Q_nextQ_37 {X : pw_X Unit} (hX : pw_Ok X prog_9_method_5_code "PadeWorkbench$Scheme" mr_Q_nextQ 4) (hR : pw_RV X prog_9_method_5_code) {r2 : Nat → Int → Int → pw_Sto → Option (Unit × pw_Sto)} (h2 : ∀ (z0 : Nat) (z1 : Int) (z2 : Int) (σ : pw_Sto), pw_Sp X 0 0 2 [(0, Value.ref z0), (1, Value.int (iI z1)), (2, Value.int (iI z2))] [] σ (r2 z0 z1 z2 σ)) (x0 : Nat) (x1 : Int) (x2 : Int) (y0 : Int) (σ : pw_Sto) : pw_Sp X 0 0 37 [(0, Value.ref x0), (1, Value.int (iI x1)), (2, Value.int (iI x2))] [Value.int (iI y0)] σ (mj_Q_nextQ_37 r2 x0 x1 x2 y0 σ) := by
  unfold mj_Q_nextQ_37
  refine sp_istore_n (pc := 37) (k := 3) (i := 3) (L' := [(3, Value.int (iI y0)), (0, Value.ref x0), (1, Value.int (iI x1)), (2, Value.int (iI x2))]) hX rfl (by decide) rfl md_Q_nextQ_37 ?_
  refine sp_aload_n (pc := 38) (k := 0) (i := 0) hX rfl 1 rfl md_Q_nextQ_38 ?_
  refine sp_getR (pc := 39) (ci := 6) (k := 0) (idx := 9) hX mcl_6 (by decide) mq_256 rfl md_Q_nextQ_39 (fun v5 => ?_)
  refine sp_iload_n (pc := 42) (k := 2) (i := 2) hX rfl 3 rfl md_Q_nextQ_42 ?_
  refine sp_iload_n (pc := 43) (k := 3) (i := 3) hX rfl 0 rfl md_Q_nextQ_43 ?_
  refine sp_if_eq (pc := 44) hX 80 (by decide) md_Q_nextQ_44 (fun _ => ?_) (fun _ => ?_)
  · refine sp_iconst (pc := 80) hX md_Q_nextQ_80 ?_
    refine sp_iastore (pc := 81) hX md_Q_nextQ_81 (fun s6 => ?_)
    refine sp_iinc (pc := 82) (i := 2) (L' := [(2, Value.int (iI (x2 + 1))), (3, Value.int (iI y0)), (0, Value.ref x0), (1, Value.int (iI x1))]) hX 3 rfl (by decide) rfl md_Q_nextQ_82 ?_
    refine sp_goto (pc := 85) hX 2 (by decide) md_Q_nextQ_85 ?_
    refine sp_sub [2, 3, 0] (L' := [(0, Value.ref x0), (1, Value.int (iI x1)), (2, Value.int (iI (x2 + 1)))]) rfl ?_
    exact h2 x0 x1 (x2 + 1) s6
  · refine sp_aload_n (pc := 47) (k := 0) (i := 0) hX rfl 1 rfl md_Q_nextQ_47 ?_
    refine sp_getR (pc := 48) (ci := 6) (k := 0) (idx := 9) hX mcl_6 (by decide) mq_256 rfl md_Q_nextQ_48 (fun v7 => ?_)
    refine sp_iload_n (pc := 51) (k := 2) (i := 2) hX rfl 3 rfl md_Q_nextQ_51 ?_
    refine sp_iconst (pc := 52) hX md_Q_nextQ_52 ?_
    refine sp_iadd (pc := 53) hX md_Q_nextQ_53 ?_
    refine sp_iaload (pc := 54) hX md_Q_nextQ_54 (fun v8 => ?_)
    refine sp_aload_n (pc := 55) (k := 0) (i := 0) hX rfl 1 rfl md_Q_nextQ_55 ?_
    refine sp_getR (pc := 56) (ci := 6) (k := 1) (idx := 15) hX mcl_6 (by decide) mq_257 rfl md_Q_nextQ_56 (fun v9 => ?_)
    refine sp_iload_n (pc := 59) (k := 2) (i := 2) hX rfl 3 rfl md_Q_nextQ_59 ?_
    refine sp_iconst (pc := 60) hX md_Q_nextQ_60 ?_
    refine sp_iadd (pc := 61) hX md_Q_nextQ_61 ?_
    refine sp_iaload (pc := 62) hX md_Q_nextQ_62 (fun v10 => ?_)
    refine sp_iload_n (pc := 63) (k := 1) (i := 1) hX rfl 2 rfl md_Q_nextQ_63 ?_
    refine sp_callSI (pc := 64) (y := my_K_times) (ccy := prog_3_method_4_code) (nLy := 3) (ret := (some .int)) (rmy := mr_K_times) (n := 3) (idx := 44) (As := [.int (iI v8), .int (iI v10), .int (iI x1)]) (st := [.int (iI x2), .ref v5]) (cells' := 0) (slots' := 0) hX (fun _ h => mc_K_times h) mk_K_times mq_402 mq_672 ⟨(Nat.le_of_ble_eq_true rfl), (Nat.le_of_ble_eq_true rfl)⟩ rfl rfl (Nat.le_of_ble_eq_true rfl) ⟨(Nat.le_of_ble_eq_true rfl), (Nat.le_of_ble_eq_true rfl)⟩ rfl rfl md_Q_nextQ_64 (fun v12 s11 => ?_)
    refine sp_aload_n (pc := 67) (k := 0) (i := 0) hX rfl 1 rfl md_Q_nextQ_67 ?_
    refine sp_getR (pc := 68) (ci := 6) (k := 1) (idx := 15) hX mcl_6 (by decide) mq_257 rfl md_Q_nextQ_68 (fun v13 => ?_)
    refine sp_iload_n (pc := 71) (k := 2) (i := 2) hX rfl 3 rfl md_Q_nextQ_71 ?_
    refine sp_iaload (pc := 72) hX md_Q_nextQ_72 (fun v14 => ?_)
    refine sp_iload_n (pc := 73) (k := 1) (i := 1) hX rfl 2 rfl md_Q_nextQ_73 ?_
    refine sp_callSI (pc := 74) (y := my_Q_ratio) (ccy := prog_9_method_6_code) (nLy := 3) (ret := (some .int)) (rmy := mr_Q_ratio) (n := 3) (idx := 34) (As := [.int (iI v12), .int (iI v14), .int (iI x1)]) (st := [.int (iI x2), .ref v5]) (cells' := 0) (slots' := 0) hX (fun _ h => mc_Q_ratio h) mk_Q_ratio mq_660 mq_659 ⟨(Nat.le_of_ble_eq_true rfl), (Nat.le_of_ble_eq_true rfl)⟩ rfl rfl (Nat.le_of_ble_eq_true rfl) ⟨(Nat.le_of_ble_eq_true rfl), (Nat.le_of_ble_eq_true rfl)⟩ rfl rfl md_Q_nextQ_74 (fun v16 s15 => ?_)
    refine sp_goto (pc := 77) hX 81 (by decide) md_Q_nextQ_77 ?_
    refine sp_iastore (pc := 81) hX md_Q_nextQ_81 (fun s17 => ?_)
    refine sp_iinc (pc := 82) (i := 2) (L' := [(2, Value.int (iI (x2 + 1))), (3, Value.int (iI y0)), (0, Value.ref x0), (1, Value.int (iI x1))]) hX 3 rfl (by decide) rfl md_Q_nextQ_82 ?_
    refine sp_goto (pc := 85) hX 2 (by decide) md_Q_nextQ_85 ?_
    refine sp_sub [2, 3, 0] (L' := [(0, Value.ref x0), (1, Value.int (iI x1)), (2, Value.int (iI (x2 + 1)))]) rfl ?_
    exact h2 x0 x1 (x2 + 1) s17
set_option maxHeartbeats 4000000 in
set_option maxRecDepth 20000 in
theorem sj_Q_nextQ_36 {X : pw_X Unit} (hX : pw_Ok X prog_9_method_5_code "PadeWorkbench$Scheme" mr_Q_nextQ 4) (hR : pw_RV X prog_9_method_5_code) {r2 : Nat → Int → Int → pw_Sto → Option (Unit × pw_Sto)} (h2 : ∀ (z0 : Nat) (z1 : Int) (z2 : Int) (σ : pw_Sto), pw_Sp X 0 0 2 [(0, Value.ref z0), (1, Value.int (iI z1)), (2, Value.int (iI z2))] [] σ (r2 z0 z1 z2 σ)) (x0 : Nat) (x1 : Int) (x2 : Int) (σ : pw_Sto) : pw_Sp X 0 0 36 [(0, Value.ref x0), (1, Value.int (iI x1)), (2, Value.int (iI x2))] [] σ (mj_Q_nextQ_36 r2 x0 x1 x2 σ) := by
  unfold mj_Q_nextQ_36
  refine sp_iconst (pc := 36) hX md_Q_nextQ_36 ?_
  exact sj_Q_nextQ_37 hX hR h2 x0 x1 x2 (0 : Int) σ
set_option maxHeartbeats 4000000 in
set_option maxRecDepth 20000 in
theorem sl_Q_nextQ_2 {X : pw_X Unit} (hX : pw_Ok X prog_9_method_5_code "PadeWorkbench$Scheme" mr_Q_nextQ 4) (hR : pw_RV X prog_9_method_5_code) : ∀ (n : Nat) (x0 : Nat) (x1 : Int) (x2 : Int) (σ : pw_Sto), pw_Sp X 0 0 2 [(0, Value.ref x0), (1, Value.int (iI x1)), (2, Value.int (iI x2))] [] σ (ml_Q_nextQ_2 n x0 x1 x2 σ) := by
  intro n
  induction n with
  | zero => intros; exact pw_none
  | succ n ih =>
    intro x0 x1 x2 σ
    show pw_Sp X 0 0 2 _ _ σ (mb_Q_nextQ_2 (ml_Q_nextQ_2 n) x0 x1 x2 σ)
    unfold mb_Q_nextQ_2
    refine sp_iload_n (pc := 2) (k := 2) (i := 2) hX rfl 2 rfl md_Q_nextQ_2 ?_
    refine sp_iconst (pc := 3) hX md_Q_nextQ_3 ?_
    refine sp_iadd (pc := 4) hX md_Q_nextQ_4 ?_
    refine sp_bipush (pc := 5) hX (by decide) md_Q_nextQ_5 ?_
    refine sp_icmp_ge (pc := 7) hX 88 (by decide) md_Q_nextQ_7 (fun _ => ?_) (fun _ => ?_)
    · refine sp_aload_n (pc := 88) (k := 0) (i := 0) hX rfl 0 rfl md_Q_nextQ_88 ?_
      refine sp_getR (pc := 89) (ci := 6) (k := 0) (idx := 9) hX mcl_6 (by decide) mq_256 rfl md_Q_nextQ_89 (fun v1 => ?_)
      refine sp_bipush (pc := 92) hX (by decide) md_Q_nextQ_92 ?_
      refine sp_iconst (pc := 94) hX md_Q_nextQ_94 ?_
      refine sp_iastore (pc := 95) hX md_Q_nextQ_95 (fun s2 => ?_)
      exact sp_vret (pc := 96) hX hR rfl (Nat.le_of_ble_eq_true rfl) md_Q_nextQ_96
    · refine sp_aload_n (pc := 10) (k := 0) (i := 0) hX rfl 0 rfl md_Q_nextQ_10 ?_
      refine sp_getR (pc := 11) (ci := 6) (k := 0) (idx := 9) hX mcl_6 (by decide) mq_256 rfl md_Q_nextQ_11 (fun v3 => ?_)
      refine sp_iload_n (pc := 14) (k := 2) (i := 2) hX rfl 2 rfl md_Q_nextQ_14 ?_
      refine sp_iconst (pc := 15) hX md_Q_nextQ_15 ?_
      refine sp_iadd (pc := 16) hX md_Q_nextQ_16 ?_
      refine sp_iaload (pc := 17) hX md_Q_nextQ_17 (fun v4 => ?_)
      refine sp_if_lt (pc := 18) hX 36 (by decide) md_Q_nextQ_18 (fun _ => ?_) (fun _ => ?_)
      · exact sj_Q_nextQ_36 hX hR ih x0 x1 x2 σ
      · refine sp_aload_n (pc := 21) (k := 0) (i := 0) hX rfl 0 rfl md_Q_nextQ_21 ?_
        refine sp_getR (pc := 22) (ci := 6) (k := 1) (idx := 15) hX mcl_6 (by decide) mq_257 rfl md_Q_nextQ_22 (fun v18 => ?_)
        refine sp_iload_n (pc := 25) (k := 2) (i := 2) hX rfl 2 rfl md_Q_nextQ_25 ?_
        refine sp_iconst (pc := 26) hX md_Q_nextQ_26 ?_
        refine sp_iadd (pc := 27) hX md_Q_nextQ_27 ?_
        refine sp_iaload (pc := 28) hX md_Q_nextQ_28 (fun v19 => ?_)
        refine sp_if_lt (pc := 29) hX 36 (by decide) md_Q_nextQ_29 (fun _ => ?_) (fun _ => ?_)
        · exact sj_Q_nextQ_36 hX hR ih x0 x1 x2 σ
        · refine sp_iconst (pc := 32) hX md_Q_nextQ_32 ?_
          refine sp_goto (pc := 33) hX 37 (by decide) md_Q_nextQ_33 ?_
          exact sj_Q_nextQ_37 hX hR ih x0 x1 x2 (1 : Int) σ
set_option maxHeartbeats 4000000 in
set_option maxRecDepth 20000 in
theorem mc_Q_nextQ {l : Launch} {E : pw_E} {σ : pw_Sto} {x0 : Nat} {x1 : Int} {out : Unit × pw_Sto} (h : mf_Q_nextQ x0 x1 σ = some out) : pw_CV l E my_Q_nextQ prog_9_method_5_code 4 none mr_Q_nextQ [.ref x0, .int (iI x1)] σ out := by
  unfold mf_Q_nextQ at h
  refine pw_entryV (by decide) (Nat.le_of_ble_eq_true rfl) (pw_gd_val h) (fun X hX hR hI => ?_)
  change pw_Ok X prog_9_method_5_code "PadeWorkbench$Scheme" mr_Q_nextQ 4 at hX
  show pw_Sp X 0 0 0 [(0, Value.ref x0), (1, Value.int (iI x1))] [] σ _
  refine sp_iconst (pc := 0) hX md_Q_nextQ_0 ?_
  refine sp_istore_n (pc := 1) (k := 2) (i := 2) (L' := [(2, Value.int (iI (0 : Int))), (0, Value.ref x0), (1, Value.int (iI x1))]) hX rfl (by decide) rfl md_Q_nextQ_1 ?_
  refine sp_sub [1, 2, 0] (L' := [(0, Value.ref x0), (1, Value.int (iI x1)), (2, Value.int (iI (0 : Int)))]) rfl ?_
  exact sl_Q_nextQ_2 hX hR 1000 x0 x1 (0 : Int) σ
/-! PadeWorkbench$Scheme.number([IIIII)I -/
theorem md_Q_number_0 : decode prog_9_method_2_code 0 = .ok (.aload_n 0, 1) := by decide +kernel
theorem md_Q_number_1 : decode prog_9_method_2_code 1 = .ok (.aload_n 1, 1) := by decide +kernel
theorem md_Q_number_2 : decode prog_9_method_2_code 2 = .ok (.iload 5, 2) := by decide +kernel
theorem md_Q_number_4 : decode prog_9_method_2_code 4 = .ok (.invokevirtual 18, 3) := by decide +kernel
theorem md_Q_number_7 : decode prog_9_method_2_code 7 = .ok (.iconst 1, 1) := by decide +kernel
theorem md_Q_number_8 : decode prog_9_method_2_code 8 = .ok (.istore 6, 2) := by decide +kernel
theorem md_Q_number_10 : decode prog_9_method_2_code 10 = .ok (.iload 6, 2) := by decide +kernel
theorem md_Q_number_12 : decode prog_9_method_2_code 12 = .ok (.iload_n 3, 1) := by decide +kernel
theorem md_Q_number_13 : decode prog_9_method_2_code 13 = .ok (.if_icmp .ge 28, 3) := by decide +kernel
theorem md_Q_number_41 : decode prog_9_method_2_code 41 = .ok (.iload_n 2, 1) := by decide +kernel
theorem md_Q_number_42 : decode prog_9_method_2_code 42 = .ok (.ifCond .ne 11, 3) := by decide +kernel
theorem md_Q_number_53 : decode prog_9_method_2_code 53 = .ok (.aload_n 0, 1) := by decide +kernel
theorem md_Q_number_54 : decode prog_9_method_2_code 54 = .ok (.iload 5, 2) := by decide +kernel
theorem md_Q_number_56 : decode prog_9_method_2_code 56 = .ok (.invokevirtual 22, 3) := by decide +kernel
theorem md_Q_number_59 : decode prog_9_method_2_code 59 = .ok (.aload_n 0, 1) := by decide +kernel
theorem md_Q_number_60 : decode prog_9_method_2_code 60 = .ok (.getfield 15, 3) := by decide +kernel
theorem md_Q_number_63 : decode prog_9_method_2_code 63 = .ok (.iload 4, 2) := by decide +kernel
theorem md_Q_number_65 : decode prog_9_method_2_code 65 = .ok (.iaload, 1) := by decide +kernel
theorem md_Q_number_66 : decode prog_9_method_2_code 66 = .ok (.ireturn, 1) := by decide +kernel
theorem md_Q_number_45 : decode prog_9_method_2_code 45 = .ok (.aload_n 0, 1) := by decide +kernel
theorem md_Q_number_46 : decode prog_9_method_2_code 46 = .ok (.getfield 9, 3) := by decide +kernel
theorem md_Q_number_49 : decode prog_9_method_2_code 49 = .ok (.iload 4, 2) := by decide +kernel
theorem md_Q_number_51 : decode prog_9_method_2_code 51 = .ok (.iaload, 1) := by decide +kernel
theorem md_Q_number_52 : decode prog_9_method_2_code 52 = .ok (.ireturn, 1) := by decide +kernel
theorem md_Q_number_16 : decode prog_9_method_2_code 16 = .ok (.iload 6, 2) := by decide +kernel
theorem md_Q_number_18 : decode prog_9_method_2_code 18 = .ok (.bipush 16, 2) := by decide +kernel
theorem md_Q_number_20 : decode prog_9_method_2_code 20 = .ok (.if_icmp .ge 21, 3) := by decide +kernel
theorem md_Q_number_23 : decode prog_9_method_2_code 23 = .ok (.aload_n 0, 1) := by decide +kernel
theorem md_Q_number_24 : decode prog_9_method_2_code 24 = .ok (.iload 5, 2) := by decide +kernel
theorem md_Q_number_26 : decode prog_9_method_2_code 26 = .ok (.invokevirtual 22, 3) := by decide +kernel
theorem md_Q_number_29 : decode prog_9_method_2_code 29 = .ok (.aload_n 0, 1) := by decide +kernel
theorem md_Q_number_30 : decode prog_9_method_2_code 30 = .ok (.iload 5, 2) := by decide +kernel
theorem md_Q_number_32 : decode prog_9_method_2_code 32 = .ok (.invokevirtual 26, 3) := by decide +kernel
theorem md_Q_number_35 : decode prog_9_method_2_code 35 = .ok (.iinc 6 1, 3) := by decide +kernel
theorem md_Q_number_38 : decode prog_9_method_2_code 38 = .ok (.goto (-28), 3) := by decide +kernel
def mj_Q_number_41 (x0 : Nat) (x2 : Int) (x4 : Int) (x5 : Int) (σ : pw_Sto) : Option (Int × pw_Sto) := pw_ck x2 0 (if x2 = 0 then (pw_gr 6 x0 0 σ).bind (fun v5 => (pw_ai v5 x4 σ).bind (fun v6 => some (v6, σ))) else pw_bd (mf_Q_nextE x0 x5 σ) (fun _ s2 => (pw_gr 6 x0 1 s2).bind (fun v3 => (pw_ai v3 x4 s2).bind (fun v4 => some (v4, s2)))))
def mb_Q_number_10 (rc : Nat → Int → Int → Int → Int → Int → pw_Sto → Option (Int × pw_Sto)) : Nat → Int → Int → Int → Int → Int → pw_Sto → Option (Int × pw_Sto) := fun x0 x2 x3 x4 x5 x6 σ => pw_ck x6 x3 (if x3 ≤ x6 then mj_Q_number_41 x0 x2 x4 x5 σ else pw_ck x6 (16 : Int) (if (16 : Int) ≤ x6 then mj_Q_number_41 x0 x2 x4 x5 σ else pw_bd (mf_Q_nextE x0 x5 σ) (fun _ s7 => pw_bd (mf_Q_nextQ x0 x5 s7) (fun _ s8 => rc x0 x2 x3 x4 x5 (x6 + 1) s8))))
def ml_Q_number_10 : Nat → Nat → Int → Int → Int → Int → Int → pw_Sto → Option (Int × pw_Sto) := pw_lp (fun _ _ _ _ _ _ _ => none) (mb_Q_number_10)
def mf_Q_number (x0 : Nat) (x1 : Nat) (x2 : Int) (x3 : Int) (x4 : Int) (x5 : Int) (σ : pw_Sto) : Option (Int × pw_Sto) := pw_gd 6 x0 σ (pw_bd (mf_Q_firstColumns x0 x1 x5 σ) (fun _ s1 => ml_Q_number_10 1000 x0 x2 x3 x4 x5 (1 : Int) s1))
set_option maxHeartbeats 4000000 in
set_option maxRecDepth 20000 in
theorem sj_Q_number_41 {X : pw_X Int} (hX : pw_Ok X prog_9_method_2_code "PadeWorkbench$Scheme" mr_Q_number 7) (hR : pw_RI X prog_9_method_2_code) (x0 : Nat) (x2 : Int) (x4 : Int) (x5 : Int) (σ : pw_Sto) : pw_Sp X 0 0 41 [(0, Value.ref x0), (2, Value.int (iI x2)), (4, Value.int (iI x4)), (5, Value.int (iI x5))] [] σ (mj_Q_number_41 x0 x2 x4 x5 σ) := by
  unfold mj_Q_number_41
  refine sp_iload_n (pc := 41) (k := 2) (i := 2) hX rfl 1 rfl md_Q_number_41 ?_
  refine sp_if_ne (pc := 42) hX 53 (by decide) md_Q_number_42 (fun _ => ?_) (fun _ => ?_)
  · refine sp_aload_n (pc := 45) (k := 0) (i := 0) hX rfl 0 rfl md_Q_number_45 ?_
    refine sp_getR (pc := 46) (ci := 6) (k := 0) (idx := 9) hX mcl_6 (by decide) mq_256 rfl md_Q_number_46 (fun v5 => ?_)
    refine sp_iload (pc := 49) (i := 4) hX 2 rfl md_Q_number_49 ?_
    refine sp_iaload (pc := 51) hX md_Q_number_51 (fun v6 => ?_)
    exact sp_iret (pc := 52) hX hR rfl (Nat.le_of_ble_eq_true rfl) md_Q_number_52
  · refine sp_aload_n (pc := 53) (k := 0) (i := 0) hX rfl 0 rfl md_Q_number_53 ?_
    refine sp_iload (pc := 54) (i := 5) hX 3 rfl md_Q_number_54 ?_
    refine sp_callVV (pc := 56) (y := my_Q_nextE) (ccy := prog_9_method_4_code) (nLy := 4) (ret := none) (rmy := mr_Q_nextE) (n := 1) (idx := 22) (As := [.int (iI x5)]) (st := []) (o := x0) (cells' := 0) (slots' := 0) hX (fun _ h => mc_Q_nextE h) mk_Q_nextE mv_Q_nextE mcl_6 (fun _ h => pw_gd_of h) mq_663 ⟨(Nat.le_of_ble_eq_true rfl), (Nat.le_of_ble_eq_true rfl)⟩ rfl rfl (Nat.le_of_ble_eq_true rfl) ⟨(Nat.le_of_ble_eq_true rfl), (Nat.le_of_ble_eq_true rfl)⟩ rfl rfl md_Q_number_56 (fun s2 => ?_)
    refine sp_aload_n (pc := 59) (k := 0) (i := 0) hX rfl 0 rfl md_Q_number_59 ?_
    refine sp_getR (pc := 60) (ci := 6) (k := 1) (idx := 15) hX mcl_6 (by decide) mq_257 rfl md_Q_number_60 (fun v3 => ?_)
    refine sp_iload (pc := 63) (i := 4) hX 2 rfl md_Q_number_63 ?_
    refine sp_iaload (pc := 65) hX md_Q_number_65 (fun v4 => ?_)
    exact sp_iret (pc := 66) hX hR rfl (Nat.le_of_ble_eq_true rfl) md_Q_number_66
set_option maxHeartbeats 4000000 in
set_option maxRecDepth 20000 in
theorem sl_Q_number_10 {X : pw_X Int} (hX : pw_Ok X prog_9_method_2_code "PadeWorkbench$Scheme" mr_Q_number 7) (hR : pw_RI X prog_9_method_2_code) : ∀ (n : Nat) (x0 : Nat) (x2 : Int) (x3 : Int) (x4 : Int) (x5 : Int) (x6 : Int) (σ : pw_Sto), pw_Sp X 0 0 10 [(0, Value.ref x0), (2, Value.int (iI x2)), (3, Value.int (iI x3)), (4, Value.int (iI x4)), (5, Value.int (iI x5)), (6, Value.int (iI x6))] [] σ (ml_Q_number_10 n x0 x2 x3 x4 x5 x6 σ) := by
  intro n
  induction n with
  | zero => intros; exact pw_none
  | succ n ih =>
    intro x0 x2 x3 x4 x5 x6 σ
    show pw_Sp X 0 0 10 _ _ σ (mb_Q_number_10 (ml_Q_number_10 n) x0 x2 x3 x4 x5 x6 σ)
    unfold mb_Q_number_10
    refine sp_iload (pc := 10) (i := 6) hX 5 rfl md_Q_number_10 ?_
    refine sp_iload_n (pc := 12) (k := 3) (i := 3) hX rfl 2 rfl md_Q_number_12 ?_
    refine sp_icmp_ge (pc := 13) hX 41 (by decide) md_Q_number_13 (fun _ => ?_) (fun _ => ?_)
    · refine sp_sub [0, 1, 3, 4] (L' := [(0, Value.ref x0), (2, Value.int (iI x2)), (4, Value.int (iI x4)), (5, Value.int (iI x5))]) rfl ?_
      exact sj_Q_number_41 hX hR x0 x2 x4 x5 σ
    · refine sp_iload (pc := 16) (i := 6) hX 5 rfl md_Q_number_16 ?_
      refine sp_bipush (pc := 18) hX (by decide) md_Q_number_18 ?_
      refine sp_icmp_ge (pc := 20) hX 41 (by decide) md_Q_number_20 (fun _ => ?_) (fun _ => ?_)
      · refine sp_sub [0, 1, 3, 4] (L' := [(0, Value.ref x0), (2, Value.int (iI x2)), (4, Value.int (iI x4)), (5, Value.int (iI x5))]) rfl ?_
        exact sj_Q_number_41 hX hR x0 x2 x4 x5 σ
      · refine sp_aload_n (pc := 23) (k := 0) (i := 0) hX rfl 0 rfl md_Q_number_23 ?_
        refine sp_iload (pc := 24) (i := 5) hX 4 rfl md_Q_number_24 ?_
        refine sp_callVV (pc := 26) (y := my_Q_nextE) (ccy := prog_9_method_4_code) (nLy := 4) (ret := none) (rmy := mr_Q_nextE) (n := 1) (idx := 22) (As := [.int (iI x5)]) (st := []) (o := x0) (cells' := 0) (slots' := 0) hX (fun _ h => mc_Q_nextE h) mk_Q_nextE mv_Q_nextE mcl_6 (fun _ h => pw_gd_of h) mq_663 ⟨(Nat.le_of_ble_eq_true rfl), (Nat.le_of_ble_eq_true rfl)⟩ rfl rfl (Nat.le_of_ble_eq_true rfl) ⟨(Nat.le_of_ble_eq_true rfl), (Nat.le_of_ble_eq_true rfl)⟩ rfl rfl md_Q_number_26 (fun s7 => ?_)
        refine sp_aload_n (pc := 29) (k := 0) (i := 0) hX rfl 0 rfl md_Q_number_29 ?_
        refine sp_iload (pc := 30) (i := 5) hX 4 rfl md_Q_number_30 ?_
        refine sp_callVV (pc := 32) (y := my_Q_nextQ) (ccy := prog_9_method_5_code) (nLy := 4) (ret := none) (rmy := mr_Q_nextQ) (n := 1) (idx := 26) (As := [.int (iI x5)]) (st := []) (o := x0) (cells' := 0) (slots' := 0) hX (fun _ h => mc_Q_nextQ h) mk_Q_nextQ mv_Q_nextQ mcl_6 (fun _ h => pw_gd_of h) mq_668 ⟨(Nat.le_of_ble_eq_true rfl), (Nat.le_of_ble_eq_true rfl)⟩ rfl rfl (Nat.le_of_ble_eq_true rfl) ⟨(Nat.le_of_ble_eq_true rfl), (Nat.le_of_ble_eq_true rfl)⟩ rfl rfl md_Q_number_32 (fun s8 => ?_)
        refine sp_iinc (pc := 35) (i := 6) (L' := [(6, Value.int (iI (x6 + 1))), (0, Value.ref x0), (2, Value.int (iI x2)), (3, Value.int (iI x3)), (4, Value.int (iI x4)), (5, Value.int (iI x5))]) hX 5 rfl (by decide) rfl md_Q_number_35 ?_
        refine sp_goto (pc := 38) hX 10 (by decide) md_Q_number_38 ?_
        refine sp_sub [1, 2, 3, 4, 5, 0] (L' := [(0, Value.ref x0), (2, Value.int (iI x2)), (3, Value.int (iI x3)), (4, Value.int (iI x4)), (5, Value.int (iI x5)), (6, Value.int (iI (x6 + 1)))]) rfl ?_
        exact ih x0 x2 x3 x4 x5 (x6 + 1) s8
set_option maxHeartbeats 4000000 in
set_option maxRecDepth 20000 in
theorem mc_Q_number {l : Launch} {E : pw_E} {σ : pw_Sto} {x0 : Nat} {x1 : Nat} {x2 : Int} {x3 : Int} {x4 : Int} {x5 : Int} {out : Int × pw_Sto} (h : mf_Q_number x0 x1 x2 x3 x4 x5 σ = some out) : pw_CI l E my_Q_number prog_9_method_2_code 7 (some .int) mr_Q_number [.ref x0, .ref x1, .int (iI x2), .int (iI x3), .int (iI x4), .int (iI x5)] σ out := by
  unfold mf_Q_number at h
  refine pw_entryI (by decide) (Nat.le_of_ble_eq_true rfl) (pw_gd_val h) (fun X hX hR hI => ?_)
  change pw_Ok X prog_9_method_2_code "PadeWorkbench$Scheme" mr_Q_number 7 at hX
  show pw_Sp X 0 0 0 [(0, Value.ref x0), (1, Value.ref x1), (2, Value.int (iI x2)), (3, Value.int (iI x3)), (4, Value.int (iI x4)), (5, Value.int (iI x5))] [] σ _
  refine sp_aload_n (pc := 0) (k := 0) (i := 0) hX rfl 0 rfl md_Q_number_0 ?_
  refine sp_aload_n (pc := 1) (k := 1) (i := 1) hX rfl 1 rfl md_Q_number_1 ?_
  refine sp_iload (pc := 2) (i := 5) hX 5 rfl md_Q_number_2 ?_
  refine sp_callVV (pc := 4) (y := my_Q_firstColumns) (ccy := prog_9_method_3_code) (nLy := 4) (ret := none) (rmy := mr_Q_firstColumns) (n := 2) (idx := 18) (As := [.ref x1, .int (iI x5)]) (st := []) (o := x0) (cells' := 0) (slots' := 0) hX (fun _ h => mc_Q_firstColumns h) mk_Q_firstColumns mv_Q_firstColumns mcl_6 (fun _ h => pw_gd_of h) mq_654 ⟨(Nat.le_of_ble_eq_true rfl), (Nat.le_of_ble_eq_true rfl)⟩ rfl rfl (Nat.le_of_ble_eq_true rfl) ⟨(Nat.le_of_ble_eq_true rfl), (Nat.le_of_ble_eq_true rfl)⟩ rfl rfl md_Q_number_4 (fun s1 => ?_)
  refine sp_iconst (pc := 7) hX md_Q_number_7 ?_
  refine sp_istore (pc := 8) (i := 6) (L' := [(6, Value.int (iI (1 : Int))), (0, Value.ref x0), (1, Value.ref x1), (2, Value.int (iI x2)), (3, Value.int (iI x3)), (4, Value.int (iI x4)), (5, Value.int (iI x5))]) hX (by decide) rfl md_Q_number_8 ?_
  refine sp_sub [1, 3, 4, 5, 6, 0] (L' := [(0, Value.ref x0), (2, Value.int (iI x2)), (3, Value.int (iI x3)), (4, Value.int (iI x4)), (5, Value.int (iI x5)), (6, Value.int (iI (1 : Int)))]) rfl ?_
  exact sl_Q_number_10 hX hR 1000 x0 x2 x3 x4 x5 (1 : Int) s1
/-! PadeWorkbench$Register.gapAt([III)I -/
theorem md_B_gapAt_0 : decode prog_8_method_3_code 0 = .ok (.iconst 0, 1) := by decide +kernel
theorem md_B_gapAt_1 : decode prog_8_method_3_code 1 = .ok (.istore 4, 2) := by decide +kernel
theorem md_B_gapAt_3 : decode prog_8_method_3_code 3 = .ok (.iconst 0, 1) := by decide +kernel
theorem md_B_gapAt_4 : decode prog_8_method_3_code 4 = .ok (.istore 5, 2) := by decide +kernel
theorem md_B_gapAt_6 : decode prog_8_method_3_code 6 = .ok (.iload 5, 2) := by decide +kernel
theorem md_B_gapAt_8 : decode prog_8_method_3_code 8 = .ok (.aload_n 0, 1) := by decide +kernel
theorem md_B_gapAt_9 : decode prog_8_method_3_code 9 = .ok (.getfield 27, 3) := by decide +kernel
theorem md_B_gapAt_12 : decode prog_8_method_3_code 12 = .ok (.if_icmp .gt 34, 3) := by decide +kernel
theorem md_B_gapAt_46 : decode prog_8_method_3_code 46 = .ok (.iload 4, 2) := by decide +kernel
theorem md_B_gapAt_48 : decode prog_8_method_3_code 48 = .ok (.iload_n 3, 1) := by decide +kernel
theorem md_B_gapAt_49 : decode prog_8_method_3_code 49 = .ok (.invokestatic 48, 3) := by decide +kernel
theorem md_B_gapAt_52 : decode prog_8_method_3_code 52 = .ok (.ireturn, 1) := by decide +kernel
theorem md_B_gapAt_15 : decode prog_8_method_3_code 15 = .ok (.iload 5, 2) := by decide +kernel
theorem md_B_gapAt_17 : decode prog_8_method_3_code 17 = .ok (.iload_n 2, 1) := by decide +kernel
theorem md_B_gapAt_18 : decode prog_8_method_3_code 18 = .ok (.if_icmp .gt 28, 3) := by decide +kernel
theorem md_B_gapAt_21 : decode prog_8_method_3_code 21 = .ok (.iload 4, 2) := by decide +kernel
theorem md_B_gapAt_23 : decode prog_8_method_3_code 23 = .ok (.aload_n 0, 1) := by decide +kernel
theorem md_B_gapAt_24 : decode prog_8_method_3_code 24 = .ok (.getfield 9, 3) := by decide +kernel
theorem md_B_gapAt_27 : decode prog_8_method_3_code 27 = .ok (.iload 5, 2) := by decide +kernel
theorem md_B_gapAt_29 : decode prog_8_method_3_code 29 = .ok (.iaload, 1) := by decide +kernel
theorem md_B_gapAt_30 : decode prog_8_method_3_code 30 = .ok (.aload_n 1, 1) := by decide +kernel
theorem md_B_gapAt_31 : decode prog_8_method_3_code 31 = .ok (.iload_n 2, 1) := by decide +kernel
theorem md_B_gapAt_32 : decode prog_8_method_3_code 32 = .ok (.iload 5, 2) := by decide +kernel
theorem md_B_gapAt_34 : decode prog_8_method_3_code 34 = .ok (.isub, 1) := by decide +kernel
theorem md_B_gapAt_35 : decode prog_8_method_3_code 35 = .ok (.iaload, 1) := by decide +kernel
theorem md_B_gapAt_36 : decode prog_8_method_3_code 36 = .ok (.imul, 1) := by decide +kernel
theorem md_B_gapAt_37 : decode prog_8_method_3_code 37 = .ok (.iadd, 1) := by decide +kernel
theorem md_B_gapAt_38 : decode prog_8_method_3_code 38 = .ok (.istore 4, 2) := by decide +kernel
theorem md_B_gapAt_40 : decode prog_8_method_3_code 40 = .ok (.iinc 5 1, 3) := by decide +kernel
theorem md_B_gapAt_43 : decode prog_8_method_3_code 43 = .ok (.goto (-37), 3) := by decide +kernel
def mj_B_gapAt_46 (x3 : Int) (x4 : Int) (σ : pw_Sto) : Option (Int × pw_Sto) := pw_bd (mf_K_reduce x4 x3 σ) (fun v3 s2 => some (v3, s2))
def mb_B_gapAt_6 (rc : Nat → Nat → Int → Int → Int → Int → pw_Sto → Option (Int × pw_Sto)) : Nat → Nat → Int → Int → Int → Int → pw_Sto → Option (Int × pw_Sto) := fun x0 x1 x2 x3 x4 x5 σ => (pw_gi 5 x0 3 σ).bind (fun v1 => pw_ck x5 v1 (if v1 < x5 then mj_B_gapAt_46 x3 x4 σ else pw_ck x5 x2 (if x2 < x5 then mj_B_gapAt_46 x3 x4 σ else (pw_gr 5 x0 0 σ).bind (fun v4 => (pw_ai v4 x5 σ).bind (fun v5 => (pw_ai x1 (x2 - x5) σ).bind (fun v6 => rc x0 x1 x2 x3 (x4 + (v5 * v6)) (x5 + 1) σ))))))
def ml_B_gapAt_6 : Nat → Nat → Nat → Int → Int → Int → Int → pw_Sto → Option (Int × pw_Sto) := pw_lp (fun _ _ _ _ _ _ _ => none) (mb_B_gapAt_6)
def mf_B_gapAt (x0 : Nat) (x1 : Nat) (x2 : Int) (x3 : Int) (σ : pw_Sto) : Option (Int × pw_Sto) := pw_gd 5 x0 σ (ml_B_gapAt_6 1000 x0 x1 x2 x3 (0 : Int) (0 : Int) σ)
set_option maxHeartbeats 4000000 in
set_option maxRecDepth 20000 in
theorem sj_B_gapAt_46 {X : pw_X Int} (hX : pw_Ok X prog_8_method_3_code "PadeWorkbench$Register" mr_B_gapAt 6) (hR : pw_RI X prog_8_method_3_code) (x3 : Int) (x4 : Int) (σ : pw_Sto) : pw_Sp X 0 0 46 [(3, Value.int (iI x3)), (4, Value.int (iI x4))] [] σ (mj_B_gapAt_46 x3 x4 σ) := by
  unfold mj_B_gapAt_46
  refine sp_iload (pc := 46) (i := 4) hX 1 rfl md_B_gapAt_46 ?_
  refine sp_iload_n (pc := 48) (k := 3) (i := 3) hX rfl 0 rfl md_B_gapAt_48 ?_
  refine sp_callSI (pc := 49) (y := my_K_reduce) (ccy := prog_3_method_2_code) (nLy := 2) (ret := (some .int)) (rmy := mr_K_reduce) (n := 2) (idx := 48) (As := [.int (iI x4), .int (iI x3)]) (st := []) (cells' := 0) (slots' := 0) hX (fun _ h => mc_K_reduce h) mk_K_reduce mq_373 mq_695 ⟨(Nat.le_of_ble_eq_true rfl), (Nat.le_of_ble_eq_true rfl)⟩ rfl rfl (Nat.le_of_ble_eq_true rfl) ⟨(Nat.le_of_ble_eq_true rfl), (Nat.le_of_ble_eq_true rfl)⟩ rfl rfl md_B_gapAt_49 (fun v3 s2 => ?_)
  exact sp_iret (pc := 52) hX hR rfl (Nat.le_of_ble_eq_true rfl) md_B_gapAt_52
set_option maxHeartbeats 4000000 in
set_option maxRecDepth 20000 in
theorem sl_B_gapAt_6 {X : pw_X Int} (hX : pw_Ok X prog_8_method_3_code "PadeWorkbench$Register" mr_B_gapAt 6) (hR : pw_RI X prog_8_method_3_code) : ∀ (n : Nat) (x0 : Nat) (x1 : Nat) (x2 : Int) (x3 : Int) (x4 : Int) (x5 : Int) (σ : pw_Sto), pw_Sp X 0 0 6 [(0, Value.ref x0), (1, Value.ref x1), (2, Value.int (iI x2)), (3, Value.int (iI x3)), (4, Value.int (iI x4)), (5, Value.int (iI x5))] [] σ (ml_B_gapAt_6 n x0 x1 x2 x3 x4 x5 σ) := by
  intro n
  induction n with
  | zero => intros; exact pw_none
  | succ n ih =>
    intro x0 x1 x2 x3 x4 x5 σ
    show pw_Sp X 0 0 6 _ _ σ (mb_B_gapAt_6 (ml_B_gapAt_6 n) x0 x1 x2 x3 x4 x5 σ)
    unfold mb_B_gapAt_6
    refine sp_iload (pc := 6) (i := 5) hX 5 rfl md_B_gapAt_6 ?_
    refine sp_aload_n (pc := 8) (k := 0) (i := 0) hX rfl 0 rfl md_B_gapAt_8 ?_
    refine sp_getI (pc := 9) (ci := 5) (k := 3) (idx := 27) hX mcl_5 (by decide) mq_273 rfl md_B_gapAt_9 (fun v1 => ?_)
    refine sp_icmp_gt (pc := 12) hX 46 (by decide) md_B_gapAt_12 (fun _ => ?_) (fun _ => ?_)
    · refine sp_sub [3, 4] (L' := [(3, Value.int (iI x3)), (4, Value.int (iI x4))]) rfl ?_
      exact sj_B_gapAt_46 hX hR x3 x4 σ
    · refine sp_iload (pc := 15) (i := 5) hX 5 rfl md_B_gapAt_15 ?_
      refine sp_iload_n (pc := 17) (k := 2) (i := 2) hX rfl 2 rfl md_B_gapAt_17 ?_
      refine sp_icmp_gt (pc := 18) hX 46 (by decide) md_B_gapAt_18 (fun _ => ?_) (fun _ => ?_)
      · refine sp_sub [3, 4] (L' := [(3, Value.int (iI x3)), (4, Value.int (iI x4))]) rfl ?_
        exact sj_B_gapAt_46 hX hR x3 x4 σ
      · refine sp_iload (pc := 21) (i := 4) hX 4 rfl md_B_gapAt_21 ?_
        refine sp_aload_n (pc := 23) (k := 0) (i := 0) hX rfl 0 rfl md_B_gapAt_23 ?_
        refine sp_getR (pc := 24) (ci := 5) (k := 0) (idx := 9) hX mcl_5 (by decide) mq_269 rfl md_B_gapAt_24 (fun v4 => ?_)
        refine sp_iload (pc := 27) (i := 5) hX 5 rfl md_B_gapAt_27 ?_
        refine sp_iaload (pc := 29) hX md_B_gapAt_29 (fun v5 => ?_)
        refine sp_aload_n (pc := 30) (k := 1) (i := 1) hX rfl 1 rfl md_B_gapAt_30 ?_
        refine sp_iload_n (pc := 31) (k := 2) (i := 2) hX rfl 2 rfl md_B_gapAt_31 ?_
        refine sp_iload (pc := 32) (i := 5) hX 5 rfl md_B_gapAt_32 ?_
        refine sp_isub (pc := 34) hX md_B_gapAt_34 ?_
        refine sp_iaload (pc := 35) hX md_B_gapAt_35 (fun v6 => ?_)
        refine sp_imul (pc := 36) hX md_B_gapAt_36 ?_
        refine sp_iadd (pc := 37) hX md_B_gapAt_37 ?_
        refine sp_istore (pc := 38) (i := 4) (L' := [(4, Value.int (iI (x4 + (v5 * v6)))), (0, Value.ref x0), (1, Value.ref x1), (2, Value.int (iI x2)), (3, Value.int (iI x3)), (5, Value.int (iI x5))]) hX (by decide) rfl md_B_gapAt_38 ?_
        refine sp_iinc (pc := 40) (i := 5) (L' := [(5, Value.int (iI (x5 + 1))), (4, Value.int (iI (x4 + (v5 * v6)))), (0, Value.ref x0), (1, Value.ref x1), (2, Value.int (iI x2)), (3, Value.int (iI x3))]) hX 5 rfl (by decide) rfl md_B_gapAt_40 ?_
        refine sp_goto (pc := 43) hX 6 (by decide) md_B_gapAt_43 ?_
        refine sp_sub [2, 3, 4, 5, 1, 0] (L' := [(0, Value.ref x0), (1, Value.ref x1), (2, Value.int (iI x2)), (3, Value.int (iI x3)), (4, Value.int (iI (x4 + (v5 * v6)))), (5, Value.int (iI (x5 + 1)))]) rfl ?_
        exact ih x0 x1 x2 x3 (x4 + (v5 * v6)) (x5 + 1) σ
set_option maxHeartbeats 4000000 in
set_option maxRecDepth 20000 in
theorem mc_B_gapAt {l : Launch} {E : pw_E} {σ : pw_Sto} {x0 : Nat} {x1 : Nat} {x2 : Int} {x3 : Int} {out : Int × pw_Sto} (h : mf_B_gapAt x0 x1 x2 x3 σ = some out) : pw_CI l E my_B_gapAt prog_8_method_3_code 6 (some .int) mr_B_gapAt [.ref x0, .ref x1, .int (iI x2), .int (iI x3)] σ out := by
  unfold mf_B_gapAt at h
  refine pw_entryI (by decide) (Nat.le_of_ble_eq_true rfl) (pw_gd_val h) (fun X hX hR hI => ?_)
  change pw_Ok X prog_8_method_3_code "PadeWorkbench$Register" mr_B_gapAt 6 at hX
  show pw_Sp X 0 0 0 [(0, Value.ref x0), (1, Value.ref x1), (2, Value.int (iI x2)), (3, Value.int (iI x3))] [] σ _
  refine sp_iconst (pc := 0) hX md_B_gapAt_0 ?_
  refine sp_istore (pc := 1) (i := 4) (L' := [(4, Value.int (iI (0 : Int))), (0, Value.ref x0), (1, Value.ref x1), (2, Value.int (iI x2)), (3, Value.int (iI x3))]) hX (by decide) rfl md_B_gapAt_1 ?_
  refine sp_iconst (pc := 3) hX md_B_gapAt_3 ?_
  refine sp_istore (pc := 4) (i := 5) (L' := [(5, Value.int (iI (0 : Int))), (4, Value.int (iI (0 : Int))), (0, Value.ref x0), (1, Value.ref x1), (2, Value.int (iI x2)), (3, Value.int (iI x3))]) hX (by decide) rfl md_B_gapAt_4 ?_
  refine sp_sub [2, 3, 4, 5, 1, 0] (L' := [(0, Value.ref x0), (1, Value.ref x1), (2, Value.int (iI x2)), (3, Value.int (iI x3)), (4, Value.int (iI (0 : Int))), (5, Value.int (iI (0 : Int)))]) rfl ?_
  exact sl_B_gapAt_6 hX hR 1000 x0 x1 x2 x3 (0 : Int) (0 : Int) σ
/-! PadeWorkbench$Register.correct(III)V -/
theorem md_B_correct_0 : decode prog_8_method_4_code 0 = .ok (.aload_n 0, 1) := by decide +kernel
theorem md_B_correct_1 : decode prog_8_method_4_code 1 = .ok (.getfield 9, 3) := by decide +kernel
theorem md_B_correct_4 : decode prog_8_method_4_code 4 = .ok (.iconst 0, 1) := by decide +kernel
theorem md_B_correct_5 : decode prog_8_method_4_code 5 = .ok (.aload_n 0, 1) := by decide +kernel
theorem md_B_correct_6 : decode prog_8_method_4_code 6 = .ok (.getfield 18, 3) := by decide +kernel
theorem md_B_correct_9 : decode prog_8_method_4_code 9 = .ok (.iconst 0, 1) := by decide +kernel
theorem md_B_correct_10 : decode prog_8_method_4_code 10 = .ok (.bipush 17, 2) := by decide +kernel
theorem md_B_correct_12 : decode prog_8_method_4_code 12 = .ok (.invokestatic 52, 3) := by decide +kernel
theorem md_B_correct_15 : decode prog_8_method_4_code 15 = .ok (.iconst 0, 1) := by decide +kernel
theorem md_B_correct_16 : decode prog_8_method_4_code 16 = .ok (.istore 4, 2) := by decide +kernel
theorem md_B_correct_18 : decode prog_8_method_4_code 18 = .ok (.iload 4, 2) := by decide +kernel
theorem md_B_correct_20 : decode prog_8_method_4_code 20 = .ok (.iload_n 2, 1) := by decide +kernel
theorem md_B_correct_21 : decode prog_8_method_4_code 21 = .ok (.iadd, 1) := by decide +kernel
theorem md_B_correct_22 : decode prog_8_method_4_code 22 = .ok (.bipush 17, 2) := by decide +kernel
theorem md_B_correct_24 : decode prog_8_method_4_code 24 = .ok (.if_icmp .ge 47, 3) := by decide +kernel
theorem md_B_correct_71 : decode prog_8_method_4_code 71 = .ok (.return_, 1) := by decide +kernel
theorem md_B_correct_27 : decode prog_8_method_4_code 27 = .ok (.aload_n 0, 1) := by decide +kernel
theorem md_B_correct_28 : decode prog_8_method_4_code 28 = .ok (.getfield 9, 3) := by decide +kernel
theorem md_B_correct_31 : decode prog_8_method_4_code 31 = .ok (.iload 4, 2) := by decide +kernel
theorem md_B_correct_33 : decode prog_8_method_4_code 33 = .ok (.iload_n 2, 1) := by decide +kernel
theorem md_B_correct_34 : decode prog_8_method_4_code 34 = .ok (.iadd, 1) := by decide +kernel
theorem md_B_correct_35 : decode prog_8_method_4_code 35 = .ok (.iaload, 1) := by decide +kernel
theorem md_B_correct_36 : decode prog_8_method_4_code 36 = .ok (.iload_n 3, 1) := by decide +kernel
theorem md_B_correct_37 : decode prog_8_method_4_code 37 = .ok (.iload_n 1, 1) := by decide +kernel
theorem md_B_correct_38 : decode prog_8_method_4_code 38 = .ok (.isub, 1) := by decide +kernel
theorem md_B_correct_39 : decode prog_8_method_4_code 39 = .ok (.aload_n 0, 1) := by decide +kernel
theorem md_B_correct_40 : decode prog_8_method_4_code 40 = .ok (.getfield 15, 3) := by decide +kernel
theorem md_B_correct_43 : decode prog_8_method_4_code 43 = .ok (.iload 4, 2) := by decide +kernel
theorem md_B_correct_45 : decode prog_8_method_4_code 45 = .ok (.iaload, 1) := by decide +kernel
theorem md_B_correct_46 : decode prog_8_method_4_code 46 = .ok (.imul, 1) := by decide +kernel
theorem md_B_correct_47 : decode prog_8_method_4_code 47 = .ok (.iadd, 1) := by decide +kernel
theorem md_B_correct_48 : decode prog_8_method_4_code 48 = .ok (.istore 5, 2) := by decide +kernel
theorem md_B_correct_50 : decode prog_8_method_4_code 50 = .ok (.aload_n 0, 1) := by decide +kernel
theorem md_B_correct_51 : decode prog_8_method_4_code 51 = .ok (.getfield 9, 3) := by decide +kernel
theorem md_B_correct_54 : decode prog_8_method_4_code 54 = .ok (.iload 4, 2) := by decide +kernel
theorem md_B_correct_56 : decode prog_8_method_4_code 56 = .ok (.iload_n 2, 1) := by decide +kernel
theorem md_B_correct_57 : decode prog_8_method_4_code 57 = .ok (.iadd, 1) := by decide +kernel
theorem md_B_correct_58 : decode prog_8_method_4_code 58 = .ok (.iload 5, 2) := by decide +kernel
theorem md_B_correct_60 : decode prog_8_method_4_code 60 = .ok (.iload_n 3, 1) := by decide +kernel
theorem md_B_correct_61 : decode prog_8_method_4_code 61 = .ok (.invokestatic 48, 3) := by decide +kernel
theorem md_B_correct_64 : decode prog_8_method_4_code 64 = .ok (.iastore, 1) := by decide +kernel
theorem md_B_correct_65 : decode prog_8_method_4_code 65 = .ok (.iinc 4 1, 3) := by decide +kernel
theorem md_B_correct_68 : decode prog_8_method_4_code 68 = .ok (.goto (-50), 3) := by decide +kernel
def mb_B_correct_18 (rc : Nat → Int → Int → Int → Int → pw_Sto → Option (Unit × pw_Sto)) : Nat → Int → Int → Int → Int → pw_Sto → Option (Unit × pw_Sto) := fun x0 x1 x2 x3 x4 σ => pw_ck (x4 + x2) (17 : Int) (if (17 : Int) ≤ (x4 + x2) then some ((), σ) else (pw_gr 5 x0 0 σ).bind (fun v4 => (pw_ai v4 (x4 + x2) σ).bind (fun v5 => (pw_gr 5 x0 1 σ).bind (fun v6 => (pw_ai v6 x4 σ).bind (fun v7 => (pw_gr 5 x0 0 σ).bind (fun v8 => pw_bd (mf_K_reduce (v5 + ((x3 - x1) * v7)) x3 σ) (fun v10 s9 => (pw_si v8 (x4 + x2) v10 s9).bind (fun s11 => rc x0 x1 x2 x3 (x4 + 1) s11))))))))
def ml_B_correct_18 : Nat → Nat → Int → Int → Int → Int → pw_Sto → Option (Unit × pw_Sto) := pw_lp (fun _ _ _ _ _ _ => none) (mb_B_correct_18)
def mf_B_correct (x0 : Nat) (x1 : Int) (x2 : Int) (x3 : Int) (σ : pw_Sto) : Option (Unit × pw_Sto) := pw_gd 5 x0 σ ((pw_gr 5 x0 0 σ).bind (fun v1 => (pw_gr 5 x0 2 σ).bind (fun v2 => (pw_cp v1 (0 : Int) v2 (0 : Int) (17 : Int) σ).bind (fun s3 => ml_B_correct_18 1000 x0 x1 x2 x3 (0 : Int) s3))))
set_option maxHeartbeats 4000000 in
set_option maxRecDepth 20000 in
theorem sl_B_correct_18 {X : pw_X Unit} (hX : pw_Ok X prog_8_method_4_code "PadeWorkbench$Register" mr_B_correct 6) (hR : pw_RV X prog_8_method_4_code) : ∀ (n : Nat) (x0 : Nat) (x1 : Int) (x2 : Int) (x3 : Int) (x4 : Int) (σ : pw_Sto), pw_Sp X 0 0 18 [(0, Value.ref x0), (1, Value.int (iI x1)), (2, Value.int (iI x2)), (3, Value.int (iI x3)), (4, Value.int (iI x4))] [] σ (ml_B_correct_18 n x0 x1 x2 x3 x4 σ) := by
  intro n
  induction n with
  | zero => intros; exact pw_none
  | succ n ih =>
    intro x0 x1 x2 x3 x4 σ
    show pw_Sp X 0 0 18 _ _ σ (mb_B_correct_18 (ml_B_correct_18 n) x0 x1 x2 x3 x4 σ)
    unfold mb_B_correct_18
    refine sp_iload (pc := 18) (i := 4) hX 4 rfl md_B_correct_18 ?_
    refine sp_iload_n (pc := 20) (k := 2) (i := 2) hX rfl 2 rfl md_B_correct_20 ?_
    refine sp_iadd (pc := 21) hX md_B_correct_21 ?_
    refine sp_bipush (pc := 22) hX (by decide) md_B_correct_22 ?_
    refine sp_icmp_ge (pc := 24) hX 71 (by decide) md_B_correct_24 (fun _ => ?_) (fun _ => ?_)
    · exact sp_vret (pc := 71) hX hR rfl (Nat.le_of_ble_eq_true rfl) md_B_correct_71
    · refine sp_aload_n (pc := 27) (k := 0) (i := 0) hX rfl 0 rfl md_B_correct_27 ?_
      refine sp_getR (pc := 28) (ci := 5) (k := 0) (idx := 9) hX mcl_5 (by decide) mq_269 rfl md_B_correct_28 (fun v4 => ?_)
      refine sp_iload (pc := 31) (i := 4) hX 4 rfl md_B_correct_31 ?_
      refine sp_iload_n (pc := 33) (k := 2) (i := 2) hX rfl 2 rfl md_B_correct_33 ?_
      refine sp_iadd (pc := 34) hX md_B_correct_34 ?_
      refine sp_iaload (pc := 35) hX md_B_correct_35 (fun v5 => ?_)
      refine sp_iload_n (pc := 36) (k := 3) (i := 3) hX rfl 3 rfl md_B_correct_36 ?_
      refine sp_iload_n (pc := 37) (k := 1) (i := 1) hX rfl 1 rfl md_B_correct_37 ?_
      refine sp_isub (pc := 38) hX md_B_correct_38 ?_
      refine sp_aload_n (pc := 39) (k := 0) (i := 0) hX rfl 0 rfl md_B_correct_39 ?_
      refine sp_getR (pc := 40) (ci := 5) (k := 1) (idx := 15) hX mcl_5 (by decide) mq_271 rfl md_B_correct_40 (fun v6 => ?_)
      refine sp_iload (pc := 43) (i := 4) hX 4 rfl md_B_correct_43 ?_
      refine sp_iaload (pc := 45) hX md_B_correct_45 (fun v7 => ?_)
      refine sp_imul (pc := 46) hX md_B_correct_46 ?_
      refine sp_iadd (pc := 47) hX md_B_correct_47 ?_
      refine sp_istore (pc := 48) (i := 5) (L' := [(5, Value.int (iI (v5 + ((x3 - x1) * v7)))), (0, Value.ref x0), (1, Value.int (iI x1)), (2, Value.int (iI x2)), (3, Value.int (iI x3)), (4, Value.int (iI x4))]) hX (by decide) rfl md_B_correct_48 ?_
      refine sp_aload_n (pc := 50) (k := 0) (i := 0) hX rfl 1 rfl md_B_correct_50 ?_
      refine sp_getR (pc := 51) (ci := 5) (k := 0) (idx := 9) hX mcl_5 (by decide) mq_269 rfl md_B_correct_51 (fun v8 => ?_)
      refine sp_iload (pc := 54) (i := 4) hX 5 rfl md_B_correct_54 ?_
      refine sp_iload_n (pc := 56) (k := 2) (i := 2) hX rfl 3 rfl md_B_correct_56 ?_
      refine sp_iadd (pc := 57) hX md_B_correct_57 ?_
      refine sp_iload (pc := 58) (i := 5) hX 0 rfl md_B_correct_58 ?_
      refine sp_iload_n (pc := 60) (k := 3) (i := 3) hX rfl 4 rfl md_B_correct_60 ?_
      refine sp_callSI (pc := 61) (y := my_K_reduce) (ccy := prog_3_method_2_code) (nLy := 2) (ret := (some .int)) (rmy := mr_K_reduce) (n := 2) (idx := 48) (As := [.int (iI (v5 + ((x3 - x1) * v7))), .int (iI x3)]) (st := [.int (iI (x4 + x2)), .ref v8]) (cells' := 0) (slots' := 0) hX (fun _ h => mc_K_reduce h) mk_K_reduce mq_373 mq_695 ⟨(Nat.le_of_ble_eq_true rfl), (Nat.le_of_ble_eq_true rfl)⟩ rfl rfl (Nat.le_of_ble_eq_true rfl) ⟨(Nat.le_of_ble_eq_true rfl), (Nat.le_of_ble_eq_true rfl)⟩ rfl rfl md_B_correct_61 (fun v10 s9 => ?_)
      refine sp_iastore (pc := 64) hX md_B_correct_64 (fun s11 => ?_)
      refine sp_iinc (pc := 65) (i := 4) (L' := [(4, Value.int (iI (x4 + 1))), (5, Value.int (iI (v5 + ((x3 - x1) * v7)))), (0, Value.ref x0), (1, Value.int (iI x1)), (2, Value.int (iI x2)), (3, Value.int (iI x3))]) hX 5 rfl (by decide) rfl md_B_correct_65 ?_
      refine sp_goto (pc := 68) hX 18 (by decide) md_B_correct_68 ?_
      refine sp_sub [2, 3, 4, 5, 0] (L' := [(0, Value.ref x0), (1, Value.int (iI x1)), (2, Value.int (iI x2)), (3, Value.int (iI x3)), (4, Value.int (iI (x4 + 1)))]) rfl ?_
      exact ih x0 x1 x2 x3 (x4 + 1) s11
set_option maxHeartbeats 4000000 in
set_option maxRecDepth 20000 in
theorem mc_B_correct {l : Launch} {E : pw_E} {σ : pw_Sto} {x0 : Nat} {x1 : Int} {x2 : Int} {x3 : Int} {out : Unit × pw_Sto} (h : mf_B_correct x0 x1 x2 x3 σ = some out) : pw_CV l E my_B_correct prog_8_method_4_code 6 none mr_B_correct [.ref x0, .int (iI x1), .int (iI x2), .int (iI x3)] σ out := by
  unfold mf_B_correct at h
  refine pw_entryV (by decide) (Nat.le_of_ble_eq_true rfl) (pw_gd_val h) (fun X hX hR hI => ?_)
  change pw_Ok X prog_8_method_4_code "PadeWorkbench$Register" mr_B_correct 6 at hX
  show pw_Sp X 0 0 0 [(0, Value.ref x0), (1, Value.int (iI x1)), (2, Value.int (iI x2)), (3, Value.int (iI x3))] [] σ _
  refine sp_aload_n (pc := 0) (k := 0) (i := 0) hX rfl 0 rfl md_B_correct_0 ?_
  refine sp_getR (pc := 1) (ci := 5) (k := 0) (idx := 9) hX mcl_5 (by decide) mq_269 rfl md_B_correct_1 (fun v1 => ?_)
  refine sp_iconst (pc := 4) hX md_B_correct_4 ?_
  refine sp_aload_n (pc := 5) (k := 0) (i := 0) hX rfl 0 rfl md_B_correct_5 ?_
  refine sp_getR (pc := 6) (ci := 5) (k := 2) (idx := 18) hX mcl_5 (by decide) mq_272 rfl md_B_correct_6 (fun v2 => ?_)
  refine sp_iconst (pc := 9) hX md_B_correct_9 ?_
  refine sp_bipush (pc := 10) hX (by decide) md_B_correct_10 ?_
  refine sp_copy (pc := 12) (idx := 52) hX mq_701 mq_339 mq_338 mq_80 (Nat.le_of_ble_eq_true rfl) (Nat.le_of_ble_eq_true rfl) md_B_correct_12 (fun s3 => ?_)
  refine sp_iconst (pc := 15) hX md_B_correct_15 ?_
  refine sp_istore (pc := 16) (i := 4) (L' := [(4, Value.int (iI (0 : Int))), (0, Value.ref x0), (1, Value.int (iI x1)), (2, Value.int (iI x2)), (3, Value.int (iI x3))]) hX (by decide) rfl md_B_correct_16 ?_
  refine sp_sub [1, 2, 3, 4, 0] (L' := [(0, Value.ref x0), (1, Value.int (iI x1)), (2, Value.int (iI x2)), (3, Value.int (iI x3)), (4, Value.int (iI (0 : Int)))]) rfl ?_
  exact sl_B_correct_18 hX hR 1000 x0 x1 x2 x3 (0 : Int) s3
/-! PadeWorkbench$Register.keepOlder()V -/
theorem md_B_keepOlder_0 : decode prog_8_method_5_code 0 = .ok (.aload_n 0, 1) := by decide +kernel
theorem md_B_keepOlder_1 : decode prog_8_method_5_code 1 = .ok (.getfield 15, 3) := by decide +kernel
theorem md_B_keepOlder_4 : decode prog_8_method_5_code 4 = .ok (.astore_n 1, 1) := by decide +kernel
theorem md_B_keepOlder_5 : decode prog_8_method_5_code 5 = .ok (.aload_n 0, 1) := by decide +kernel
theorem md_B_keepOlder_6 : decode prog_8_method_5_code 6 = .ok (.aload_n 0, 1) := by decide +kernel
theorem md_B_keepOlder_7 : decode prog_8_method_5_code 7 = .ok (.getfield 18, 3) := by decide +kernel
theorem md_B_keepOlder_10 : decode prog_8_method_5_code 10 = .ok (.putfield 15, 3) := by decide +kernel
theorem md_B_keepOlder_13 : decode prog_8_method_5_code 13 = .ok (.aload_n 0, 1) := by decide +kernel
theorem md_B_keepOlder_14 : decode prog_8_method_5_code 14 = .ok (.aload_n 1, 1) := by decide +kernel
theorem md_B_keepOlder_15 : decode prog_8_method_5_code 15 = .ok (.putfield 18, 3) := by decide +kernel
theorem md_B_keepOlder_18 : decode prog_8_method_5_code 18 = .ok (.return_, 1) := by decide +kernel
def mf_B_keepOlder (x0 : Nat) (σ : pw_Sto) : Option (Unit × pw_Sto) := pw_gd 5 x0 σ ((pw_gr 5 x0 1 σ).bind (fun v1 => (pw_gr 5 x0 2 σ).bind (fun v2 => (pw_pr 5 x0 1 v2 σ).bind (fun s3 => (pw_pr 5 x0 2 v1 s3).bind (fun s4 => some ((), s4))))))
set_option maxHeartbeats 4000000 in
set_option maxRecDepth 20000 in
theorem mc_B_keepOlder {l : Launch} {E : pw_E} {σ : pw_Sto} {x0 : Nat} {out : Unit × pw_Sto} (h : mf_B_keepOlder x0 σ = some out) : pw_CV l E my_B_keepOlder prog_8_method_5_code 2 none mr_B_keepOlder [.ref x0] σ out := by
  unfold mf_B_keepOlder at h
  refine pw_entryV (by decide) (Nat.le_of_ble_eq_true rfl) (pw_gd_val h) (fun X hX hR hI => ?_)
  change pw_Ok X prog_8_method_5_code "PadeWorkbench$Register" mr_B_keepOlder 2 at hX
  show pw_Sp X 0 0 0 [(0, Value.ref x0)] [] σ _
  refine sp_aload_n (pc := 0) (k := 0) (i := 0) hX rfl 0 rfl md_B_keepOlder_0 ?_
  refine sp_getR (pc := 1) (ci := 5) (k := 1) (idx := 15) hX mcl_5 (by decide) mq_271 rfl md_B_keepOlder_1 (fun v1 => ?_)
  refine sp_astore_n (pc := 4) (k := 1) (i := 1) (L' := [(1, Value.ref v1), (0, Value.ref x0)]) hX rfl (by decide) rfl md_B_keepOlder_4 ?_
  refine sp_aload_n (pc := 5) (k := 0) (i := 0) hX rfl 1 rfl md_B_keepOlder_5 ?_
  refine sp_aload_n (pc := 6) (k := 0) (i := 0) hX rfl 1 rfl md_B_keepOlder_6 ?_
  refine sp_getR (pc := 7) (ci := 5) (k := 2) (idx := 18) hX mcl_5 (by decide) mq_272 rfl md_B_keepOlder_7 (fun v2 => ?_)
  refine sp_putR (pc := 10) (ci := 5) (k := 1) (idx := 15) hX mcl_5 (by decide) mq_271 rfl rfl mty_5_1 md_B_keepOlder_10 (fun s3 => ?_)
  refine sp_aload_n (pc := 13) (k := 0) (i := 0) hX rfl 1 rfl md_B_keepOlder_13 ?_
  refine sp_aload_n (pc := 14) (k := 1) (i := 1) hX rfl 0 rfl md_B_keepOlder_14 ?_
  refine sp_putR (pc := 15) (ci := 5) (k := 2) (idx := 18) hX mcl_5 (by decide) mq_272 rfl rfl mty_5_2 md_B_keepOlder_15 (fun s4 => ?_)
  exact sp_vret (pc := 18) hX hR rfl (Nat.le_of_ble_eq_true rfl) md_B_keepOlder_18
/-! PadeWorkbench$Register.fit([III)V -/
theorem md_B_fit_0 : decode prog_8_method_2_code 0 = .ok (.aload_n 0, 1) := by decide +kernel
theorem md_B_fit_1 : decode prog_8_method_2_code 1 = .ok (.getfield 9, 3) := by decide +kernel
theorem md_B_fit_4 : decode prog_8_method_2_code 4 = .ok (.iconst 0, 1) := by decide +kernel
theorem md_B_fit_5 : decode prog_8_method_2_code 5 = .ok (.invokestatic 21, 3) := by decide +kernel
theorem md_B_fit_8 : decode prog_8_method_2_code 8 = .ok (.aload_n 0, 1) := by decide +kernel
theorem md_B_fit_9 : decode prog_8_method_2_code 9 = .ok (.getfield 15, 3) := by decide +kernel
theorem md_B_fit_12 : decode prog_8_method_2_code 12 = .ok (.iconst 0, 1) := by decide +kernel
theorem md_B_fit_13 : decode prog_8_method_2_code 13 = .ok (.invokestatic 21, 3) := by decide +kernel
theorem md_B_fit_16 : decode prog_8_method_2_code 16 = .ok (.aload_n 0, 1) := by decide +kernel
theorem md_B_fit_17 : decode prog_8_method_2_code 17 = .ok (.getfield 9, 3) := by decide +kernel
theorem md_B_fit_20 : decode prog_8_method_2_code 20 = .ok (.iconst 0, 1) := by decide +kernel
theorem md_B_fit_21 : decode prog_8_method_2_code 21 = .ok (.iconst 1, 1) := by decide +kernel
theorem md_B_fit_22 : decode prog_8_method_2_code 22 = .ok (.iastore, 1) := by decide +kernel
theorem md_B_fit_23 : decode prog_8_method_2_code 23 = .ok (.aload_n 0, 1) := by decide +kernel
theorem md_B_fit_24 : decode prog_8_method_2_code 24 = .ok (.getfield 15, 3) := by decide +kernel
theorem md_B_fit_27 : decode prog_8_method_2_code 27 = .ok (.iconst 0, 1) := by decide +kernel
theorem md_B_fit_28 : decode prog_8_method_2_code 28 = .ok (.iconst 1, 1) := by decide +kernel
theorem md_B_fit_29 : decode prog_8_method_2_code 29 = .ok (.iastore, 1) := by decide +kernel
theorem md_B_fit_30 : decode prog_8_method_2_code 30 = .ok (.aload_n 0, 1) := by decide +kernel
theorem md_B_fit_31 : decode prog_8_method_2_code 31 = .ok (.iconst 0, 1) := by decide +kernel
theorem md_B_fit_32 : decode prog_8_method_2_code 32 = .ok (.putfield 27, 3) := by decide +kernel
theorem md_B_fit_35 : decode prog_8_method_2_code 35 = .ok (.iconst 1, 1) := by decide +kernel
theorem md_B_fit_36 : decode prog_8_method_2_code 36 = .ok (.istore 4, 2) := by decide +kernel
theorem md_B_fit_38 : decode prog_8_method_2_code 38 = .ok (.iconst 1, 1) := by decide +kernel
theorem md_B_fit_39 : decode prog_8_method_2_code 39 = .ok (.istore 5, 2) := by decide +kernel
theorem md_B_fit_41 : decode prog_8_method_2_code 41 = .ok (.iconst 0, 1) := by decide +kernel
theorem md_B_fit_42 : decode prog_8_method_2_code 42 = .ok (.istore 6, 2) := by decide +kernel
theorem md_B_fit_44 : decode prog_8_method_2_code 44 = .ok (.iload 6, 2) := by decide +kernel
theorem md_B_fit_46 : decode prog_8_method_2_code 46 = .ok (.iload_n 2, 1) := by decide +kernel
theorem md_B_fit_47 : decode prog_8_method_2_code 47 = .ok (.if_icmp .ge 93, 3) := by decide +kernel
theorem md_B_fit_140 : decode prog_8_method_2_code 140 = .ok (.return_, 1) := by decide +kernel
theorem md_B_fit_50 : decode prog_8_method_2_code 50 = .ok (.iload 6, 2) := by decide +kernel
theorem md_B_fit_52 : decode prog_8_method_2_code 52 = .ok (.bipush 16, 2) := by decide +kernel
theorem md_B_fit_54 : decode prog_8_method_2_code 54 = .ok (.if_icmp .ge 86, 3) := by decide +kernel
theorem md_B_fit_57 : decode prog_8_method_2_code 57 = .ok (.aload_n 0, 1) := by decide +kernel
theorem md_B_fit_58 : decode prog_8_method_2_code 58 = .ok (.aload_n 1, 1) := by decide +kernel
theorem md_B_fit_59 : decode prog_8_method_2_code 59 = .ok (.iload 6, 2) := by decide +kernel
theorem md_B_fit_61 : decode prog_8_method_2_code 61 = .ok (.iload_n 3, 1) := by decide +kernel
theorem md_B_fit_62 : decode prog_8_method_2_code 62 = .ok (.invokevirtual 31, 3) := by decide +kernel
theorem md_B_fit_65 : decode prog_8_method_2_code 65 = .ok (.istore 7, 2) := by decide +kernel
theorem md_B_fit_67 : decode prog_8_method_2_code 67 = .ok (.iload 7, 2) := by decide +kernel
theorem md_B_fit_69 : decode prog_8_method_2_code 69 = .ok (.ifCond .ne 9, 3) := by decide +kernel
theorem md_B_fit_78 : decode prog_8_method_2_code 78 = .ok (.aload_n 0, 1) := by decide +kernel
theorem md_B_fit_79 : decode prog_8_method_2_code 79 = .ok (.iload 7, 2) := by decide +kernel
theorem md_B_fit_81 : decode prog_8_method_2_code 81 = .ok (.iload 4, 2) := by decide +kernel
theorem md_B_fit_83 : decode prog_8_method_2_code 83 = .ok (.iload_n 3, 1) := by decide +kernel
theorem md_B_fit_84 : decode prog_8_method_2_code 84 = .ok (.invokestatic 35, 3) := by decide +kernel
theorem md_B_fit_87 : decode prog_8_method_2_code 87 = .ok (.iload 5, 2) := by decide +kernel
theorem md_B_fit_89 : decode prog_8_method_2_code 89 = .ok (.iload_n 3, 1) := by decide +kernel
theorem md_B_fit_90 : decode prog_8_method_2_code 90 = .ok (.invokevirtual 41, 3) := by decide +kernel
theorem md_B_fit_93 : decode prog_8_method_2_code 93 = .ok (.iconst 2, 1) := by decide +kernel
theorem md_B_fit_94 : decode prog_8_method_2_code 94 = .ok (.aload_n 0, 1) := by decide +kernel
theorem md_B_fit_95 : decode prog_8_method_2_code 95 = .ok (.getfield 27, 3) := by decide +kernel
theorem md_B_fit_98 : decode prog_8_method_2_code 98 = .ok (.imul, 1) := by decide +kernel
theorem md_B_fit_99 : decode prog_8_method_2_code 99 = .ok (.iload 6, 2) := by decide +kernel
theorem md_B_fit_101 : decode prog_8_method_2_code 101 = .ok (.if_icmp .gt 30, 3) := by decide +kernel
theorem md_B_fit_131 : decode prog_8_method_2_code 131 = .ok (.iinc 5 1, 3) := by decide +kernel
theorem md_B_fit_134 : decode prog_8_method_2_code 134 = .ok (.iinc 6 1, 3) := by decide +kernel
theorem md_B_fit_137 : decode prog_8_method_2_code 137 = .ok (.goto (-93), 3) := by decide +kernel
theorem md_B_fit_104 : decode prog_8_method_2_code 104 = .ok (.aload_n 0, 1) := by decide +kernel
theorem md_B_fit_105 : decode prog_8_method_2_code 105 = .ok (.iload 6, 2) := by decide +kernel
theorem md_B_fit_107 : decode prog_8_method_2_code 107 = .ok (.iconst 1, 1) := by decide +kernel
theorem md_B_fit_108 : decode prog_8_method_2_code 108 = .ok (.iadd, 1) := by decide +kernel
theorem md_B_fit_109 : decode prog_8_method_2_code 109 = .ok (.aload_n 0, 1) := by decide +kernel
theorem md_B_fit_110 : decode prog_8_method_2_code 110 = .ok (.getfield 27, 3) := by decide +kernel
theorem md_B_fit_113 : decode prog_8_method_2_code 113 = .ok (.isub, 1) := by decide +kernel
theorem md_B_fit_114 : decode prog_8_method_2_code 114 = .ok (.putfield 27, 3) := by decide +kernel
theorem md_B_fit_117 : decode prog_8_method_2_code 117 = .ok (.aload_n 0, 1) := by decide +kernel
theorem md_B_fit_118 : decode prog_8_method_2_code 118 = .ok (.invokevirtual 45, 3) := by decide +kernel
theorem md_B_fit_121 : decode prog_8_method_2_code 121 = .ok (.iload 7, 2) := by decide +kernel
theorem md_B_fit_123 : decode prog_8_method_2_code 123 = .ok (.istore 4, 2) := by decide +kernel
theorem md_B_fit_125 : decode prog_8_method_2_code 125 = .ok (.iconst 1, 1) := by decide +kernel
theorem md_B_fit_126 : decode prog_8_method_2_code 126 = .ok (.istore 5, 2) := by decide +kernel
theorem md_B_fit_128 : decode prog_8_method_2_code 128 = .ok (.goto 6, 3) := by decide +kernel
theorem md_B_fit_72 : decode prog_8_method_2_code 72 = .ok (.iinc 5 1, 3) := by decide +kernel
theorem md_B_fit_75 : decode prog_8_method_2_code 75 = .ok (.goto 59, 3) := by decide +kernel
def mb_B_fit_44 (rc : Nat → Nat → Int → Int → Int → Int → Int → pw_Sto → Option (Unit × pw_Sto)) : Nat → Nat → Int → Int → Int → Int → Int → pw_Sto → Option (Unit × pw_Sto) := fun x0 x1 x2 x3 x4 x5 x6 σ => pw_ck x6 x2 (if x2 ≤ x6 then some ((), σ) else pw_ck x6 (16 : Int) (if (16 : Int) ≤ x6 then some ((), σ) else pw_bd (mf_B_gapAt x0 x1 x6 x3 σ) (fun v11 s10 => pw_ck v11 0 (if v11 = 0 then rc x0 x1 x2 x3 x4 (x5 + 1) (x6 + 1) s10 else pw_bd (mf_K_over v11 x4 x3 s10) (fun v13 s12 => pw_bd (mf_B_correct x0 v13 x5 x3 s12) (fun _ s14 => (pw_gi 5 x0 3 s14).bind (fun v15 => pw_ck ((2 : Int) * v15) x6 (if x6 < ((2 : Int) * v15) then rc x0 x1 x2 x3 x4 (x5 + 1) (x6 + 1) s14 else (pw_gi 5 x0 3 s14).bind (fun v16 => (pw_pi 5 x0 3 ((x6 + (1 : Int)) - v16) s14).bind (fun s17 => pw_bd (mf_B_keepOlder x0 s17) (fun _ s18 => rc x0 x1 x2 x3 v11 (1 : Int) (x6 + 1) s18)))))))))))
def ml_B_fit_44 : Nat → Nat → Nat → Int → Int → Int → Int → Int → pw_Sto → Option (Unit × pw_Sto) := pw_lp (fun _ _ _ _ _ _ _ _ => none) (mb_B_fit_44)
def mf_B_fit (x0 : Nat) (x1 : Nat) (x2 : Int) (x3 : Int) (σ : pw_Sto) : Option (Unit × pw_Sto) := pw_gd 5 x0 σ ((pw_gr 5 x0 0 σ).bind (fun v1 => pw_bd (mf_A_fill v1 (0 : Int) σ) (fun _ s2 => (pw_gr 5 x0 1 s2).bind (fun v3 => pw_bd (mf_A_fill v3 (0 : Int) s2) (fun _ s4 => (pw_gr 5 x0 0 s4).bind (fun v5 => (pw_si v5 (0 : Int) (1 : Int) s4).bind (fun s6 => (pw_gr 5 x0 1 s6).bind (fun v7 => (pw_si v7 (0 : Int) (1 : Int) s6).bind (fun s8 => (pw_pi 5 x0 3 (0 : Int) s8).bind (fun s9 => ml_B_fit_44 1000 x0 x1 x2 x3 (1 : Int) (1 : Int) (0 : Int) s9))))))))))
set_option maxHeartbeats 4000000 in
set_option maxRecDepth 20000 in
theorem sl_B_fit_44 {X : pw_X Unit} (hX : pw_Ok X prog_8_method_2_code "PadeWorkbench$Register" mr_B_fit 8) (hR : pw_RV X prog_8_method_2_code) : ∀ (n : Nat) (x0 : Nat) (x1 : Nat) (x2 : Int) (x3 : Int) (x4 : Int) (x5 : Int) (x6 : Int) (σ : pw_Sto), pw_Sp X 0 0 44 [(0, Value.ref x0), (1, Value.ref x1), (2, Value.int (iI x2)), (3, Value.int (iI x3)), (4, Value.int (iI x4)), (5, Value.int (iI x5)), (6, Value.int (iI x6))] [] σ (ml_B_fit_44 n x0 x1 x2 x3 x4 x5 x6 σ) := by
  intro n
  induction n with
  | zero => intros; exact pw_none
  | succ n ih =>
    intro x0 x1 x2 x3 x4 x5 x6 σ
    show pw_Sp X 0 0 44 _ _ σ (mb_B_fit_44 (ml_B_fit_44 n) x0 x1 x2 x3 x4 x5 x6 σ)
    unfold mb_B_fit_44
    refine sp_iload (pc := 44) (i := 6) hX 6 rfl md_B_fit_44 ?_
    refine sp_iload_n (pc := 46) (k := 2) (i := 2) hX rfl 2 rfl md_B_fit_46 ?_
    refine sp_icmp_ge (pc := 47) hX 140 (by decide) md_B_fit_47 (fun _ => ?_) (fun _ => ?_)
    · exact sp_vret (pc := 140) hX hR rfl (Nat.le_of_ble_eq_true rfl) md_B_fit_140
    · refine sp_iload (pc := 50) (i := 6) hX 6 rfl md_B_fit_50 ?_
      refine sp_bipush (pc := 52) hX (by decide) md_B_fit_52 ?_
      refine sp_icmp_ge (pc := 54) hX 140 (by decide) md_B_fit_54 (fun _ => ?_) (fun _ => ?_)
      · exact sp_vret (pc := 140) hX hR rfl (Nat.le_of_ble_eq_true rfl) md_B_fit_140
      · refine sp_aload_n (pc := 57) (k := 0) (i := 0) hX rfl 0 rfl md_B_fit_57 ?_
        refine sp_aload_n (pc := 58) (k := 1) (i := 1) hX rfl 1 rfl md_B_fit_58 ?_
        refine sp_iload (pc := 59) (i := 6) hX 6 rfl md_B_fit_59 ?_
        refine sp_iload_n (pc := 61) (k := 3) (i := 3) hX rfl 3 rfl md_B_fit_61 ?_
        refine sp_callVI (pc := 62) (y := my_B_gapAt) (ccy := prog_8_method_3_code) (nLy := 6) (ret := (some .int)) (rmy := mr_B_gapAt) (n := 3) (idx := 31) (As := [.ref x1, .int (iI x6), .int (iI x3)]) (st := []) (o := x0) (cells' := 0) (slots' := 0) hX (fun _ h => mc_B_gapAt h) mk_B_gapAt mv_B_gapAt mcl_5 (fun _ h => pw_gd_of h) mq_691 ⟨(Nat.le_of_ble_eq_true rfl), (Nat.le_of_ble_eq_true rfl)⟩ rfl rfl (Nat.le_of_ble_eq_true rfl) ⟨(Nat.le_of_ble_eq_true rfl), (Nat.le_of_ble_eq_true rfl)⟩ rfl rfl md_B_fit_62 (fun v11 s10 => ?_)
        refine sp_istore (pc := 65) (i := 7) (L' := [(7, Value.int (iI v11)), (0, Value.ref x0), (1, Value.ref x1), (2, Value.int (iI x2)), (3, Value.int (iI x3)), (4, Value.int (iI x4)), (5, Value.int (iI x5)), (6, Value.int (iI x6))]) hX (by decide) rfl md_B_fit_65 ?_
        refine sp_iload (pc := 67) (i := 7) hX 0 rfl md_B_fit_67 ?_
        refine sp_if_ne (pc := 69) hX 78 (by decide) md_B_fit_69 (fun _ => ?_) (fun _ => ?_)
        · refine sp_iinc (pc := 72) (i := 5) (L' := [(5, Value.int (iI (x5 + 1))), (7, Value.int (iI v11)), (0, Value.ref x0), (1, Value.ref x1), (2, Value.int (iI x2)), (3, Value.int (iI x3)), (4, Value.int (iI x4)), (6, Value.int (iI x6))]) hX 6 rfl (by decide) rfl md_B_fit_72 ?_
          refine sp_goto (pc := 75) hX 134 (by decide) md_B_fit_75 ?_
          refine sp_iinc (pc := 134) (i := 6) (L' := [(6, Value.int (iI (x6 + 1))), (5, Value.int (iI (x5 + 1))), (7, Value.int (iI v11)), (0, Value.ref x0), (1, Value.ref x1), (2, Value.int (iI x2)), (3, Value.int (iI x3)), (4, Value.int (iI x4))]) hX 7 rfl (by decide) rfl md_B_fit_134 ?_
          refine sp_goto (pc := 137) hX 44 (by decide) md_B_fit_137 ?_
          refine sp_sub [3, 4, 5, 6, 7, 1, 0] (L' := [(0, Value.ref x0), (1, Value.ref x1), (2, Value.int (iI x2)), (3, Value.int (iI x3)), (4, Value.int (iI x4)), (5, Value.int (iI (x5 + 1))), (6, Value.int (iI (x6 + 1)))]) rfl ?_
          exact ih x0 x1 x2 x3 x4 (x5 + 1) (x6 + 1) s10
        · refine sp_aload_n (pc := 78) (k := 0) (i := 0) hX rfl 1 rfl md_B_fit_78 ?_
          refine sp_iload (pc := 79) (i := 7) hX 0 rfl md_B_fit_79 ?_
          refine sp_iload (pc := 81) (i := 4) hX 5 rfl md_B_fit_81 ?_
          refine sp_iload_n (pc := 83) (k := 3) (i := 3) hX rfl 4 rfl md_B_fit_83 ?_
          refine sp_callSI (pc := 84) (y := my_K_over) (ccy := prog_3_method_6_code) (nLy := 3) (ret := (some .int)) (rmy := mr_K_over) (n := 3) (idx := 35) (As := [.int (iI v11), .int (iI x4), .int (iI x3)]) (st := [.ref x0]) (cells' := 0) (slots' := 0) hX (fun _ h => mc_K_over h) mk_K_over mq_606 mq_696 ⟨(Nat.le_of_ble_eq_true rfl), (Nat.le_of_ble_eq_true rfl)⟩ rfl rfl (Nat.le_of_ble_eq_true rfl) ⟨(Nat.le_of_ble_eq_true rfl), (Nat.le_of_ble_eq_true rfl)⟩ rfl rfl md_B_fit_84 (fun v13 s12 => ?_)
          refine sp_iload (pc := 87) (i := 5) hX 6 rfl md_B_fit_87 ?_
          refine sp_iload_n (pc := 89) (k := 3) (i := 3) hX rfl 4 rfl md_B_fit_89 ?_
          refine sp_callVV (pc := 90) (y := my_B_correct) (ccy := prog_8_method_4_code) (nLy := 6) (ret := none) (rmy := mr_B_correct) (n := 3) (idx := 41) (As := [.int (iI v13), .int (iI x5), .int (iI x3)]) (st := []) (o := x0) (cells' := 0) (slots' := 0) hX (fun _ h => mc_B_correct h) mk_B_correct mv_B_correct mcl_5 (fun _ h => pw_gd_of h) mq_697 ⟨(Nat.le_of_ble_eq_true rfl), (Nat.le_of_ble_eq_true rfl)⟩ rfl rfl (Nat.le_of_ble_eq_true rfl) ⟨(Nat.le_of_ble_eq_true rfl), (Nat.le_of_ble_eq_true rfl)⟩ rfl rfl md_B_fit_90 (fun s14 => ?_)
          refine sp_iconst (pc := 93) hX md_B_fit_93 ?_
          refine sp_aload_n (pc := 94) (k := 0) (i := 0) hX rfl 1 rfl md_B_fit_94 ?_
          refine sp_getI (pc := 95) (ci := 5) (k := 3) (idx := 27) hX mcl_5 (by decide) mq_273 rfl md_B_fit_95 (fun v15 => ?_)
          refine sp_imul (pc := 98) hX md_B_fit_98 ?_
          refine sp_iload (pc := 99) (i := 6) hX 7 rfl md_B_fit_99 ?_
          refine sp_icmp_gt (pc := 101) hX 131 (by decide) md_B_fit_101 (fun _ => ?_) (fun _ => ?_)
          · refine sp_iinc (pc := 131) (i := 5) (L' := [(5, Value.int (iI (x5 + 1))), (7, Value.int (iI v11)), (0, Value.ref x0), (1, Value.ref x1), (2, Value.int (iI x2)), (3, Value.int (iI x3)), (4, Value.int (iI x4)), (6, Value.int (iI x6))]) hX 6 rfl (by decide) rfl md_B_fit_131 ?_
            refine sp_iinc (pc := 134) (i := 6) (L' := [(6, Value.int (iI (x6 + 1))), (5, Value.int (iI (x5 + 1))), (7, Value.int (iI v11)), (0, Value.ref x0), (1, Value.ref x1), (2, Value.int (iI x2)), (3, Value.int (iI x3)), (4, Value.int (iI x4))]) hX 7 rfl (by decide) rfl md_B_fit_134 ?_
            refine sp_goto (pc := 137) hX 44 (by decide) md_B_fit_137 ?_
            refine sp_sub [3, 4, 5, 6, 7, 1, 0] (L' := [(0, Value.ref x0), (1, Value.ref x1), (2, Value.int (iI x2)), (3, Value.int (iI x3)), (4, Value.int (iI x4)), (5, Value.int (iI (x5 + 1))), (6, Value.int (iI (x6 + 1)))]) rfl ?_
            exact ih x0 x1 x2 x3 x4 (x5 + 1) (x6 + 1) s14
          · refine sp_aload_n (pc := 104) (k := 0) (i := 0) hX rfl 1 rfl md_B_fit_104 ?_
            refine sp_iload (pc := 105) (i := 6) hX 7 rfl md_B_fit_105 ?_
            refine sp_iconst (pc := 107) hX md_B_fit_107 ?_
            refine sp_iadd (pc := 108) hX md_B_fit_108 ?_
            refine sp_aload_n (pc := 109) (k := 0) (i := 0) hX rfl 1 rfl md_B_fit_109 ?_
            refine sp_getI (pc := 110) (ci := 5) (k := 3) (idx := 27) hX mcl_5 (by decide) mq_273 rfl md_B_fit_110 (fun v16 => ?_)
            refine sp_isub (pc := 113) hX md_B_fit_113 ?_
            refine sp_putI (pc := 114) (ci := 5) (k := 3) (idx := 27) hX mcl_5 (by decide) mq_273 rfl rfl rfl md_B_fit_114 (fun s17 => ?_)
            refine sp_aload_n (pc := 117) (k := 0) (i := 0) hX rfl 1 rfl md_B_fit_117 ?_
            refine sp_callVV (pc := 118) (y := my_B_keepOlder) (ccy := prog_8_method_5_code) (nLy := 2) (ret := none) (rmy := mr_B_keepOlder) (n := 0) (idx := 45) (As := []) (st := []) (o := x0) (cells' := 0) (slots' := 0) hX (fun _ h => mc_B_keepOlder h) mk_B_keepOlder mv_B_keepOlder mcl_5 (fun _ h => pw_gd_of h) mq_702 ⟨(Nat.le_of_ble_eq_true rfl), (Nat.le_of_ble_eq_true rfl)⟩ rfl rfl (Nat.le_of_ble_eq_true rfl) ⟨(Nat.le_of_ble_eq_true rfl), (Nat.le_of_ble_eq_true rfl)⟩ rfl rfl md_B_fit_118 (fun s18 => ?_)
            refine sp_iload (pc := 121) (i := 7) hX 0 rfl md_B_fit_121 ?_
            refine sp_istore (pc := 123) (i := 4) (L' := [(4, Value.int (iI v11)), (7, Value.int (iI v11)), (0, Value.ref x0), (1, Value.ref x1), (2, Value.int (iI x2)), (3, Value.int (iI x3)), (5, Value.int (iI x5)), (6, Value.int (iI x6))]) hX (by decide) rfl md_B_fit_123 ?_
            refine sp_iconst (pc := 125) hX md_B_fit_125 ?_
            refine sp_istore (pc := 126) (i := 5) (L' := [(5, Value.int (iI (1 : Int))), (4, Value.int (iI v11)), (7, Value.int (iI v11)), (0, Value.ref x0), (1, Value.ref x1), (2, Value.int (iI x2)), (3, Value.int (iI x3)), (6, Value.int (iI x6))]) hX (by decide) rfl md_B_fit_126 ?_
            refine sp_goto (pc := 128) hX 134 (by decide) md_B_fit_128 ?_
            refine sp_iinc (pc := 134) (i := 6) (L' := [(6, Value.int (iI (x6 + 1))), (5, Value.int (iI (1 : Int))), (4, Value.int (iI v11)), (7, Value.int (iI v11)), (0, Value.ref x0), (1, Value.ref x1), (2, Value.int (iI x2)), (3, Value.int (iI x3))]) hX 7 rfl (by decide) rfl md_B_fit_134 ?_
            refine sp_goto (pc := 137) hX 44 (by decide) md_B_fit_137 ?_
            refine sp_sub [4, 5, 6, 7, 2, 1, 0] (L' := [(0, Value.ref x0), (1, Value.ref x1), (2, Value.int (iI x2)), (3, Value.int (iI x3)), (4, Value.int (iI v11)), (5, Value.int (iI (1 : Int))), (6, Value.int (iI (x6 + 1)))]) rfl ?_
            exact ih x0 x1 x2 x3 v11 (1 : Int) (x6 + 1) s18
set_option maxHeartbeats 4000000 in
set_option maxRecDepth 20000 in
theorem mc_B_fit {l : Launch} {E : pw_E} {σ : pw_Sto} {x0 : Nat} {x1 : Nat} {x2 : Int} {x3 : Int} {out : Unit × pw_Sto} (h : mf_B_fit x0 x1 x2 x3 σ = some out) : pw_CV l E my_B_fit prog_8_method_2_code 8 none mr_B_fit [.ref x0, .ref x1, .int (iI x2), .int (iI x3)] σ out := by
  unfold mf_B_fit at h
  refine pw_entryV (by decide) (Nat.le_of_ble_eq_true rfl) (pw_gd_val h) (fun X hX hR hI => ?_)
  change pw_Ok X prog_8_method_2_code "PadeWorkbench$Register" mr_B_fit 8 at hX
  show pw_Sp X 0 0 0 [(0, Value.ref x0), (1, Value.ref x1), (2, Value.int (iI x2)), (3, Value.int (iI x3))] [] σ _
  refine sp_aload_n (pc := 0) (k := 0) (i := 0) hX rfl 0 rfl md_B_fit_0 ?_
  refine sp_getR (pc := 1) (ci := 5) (k := 0) (idx := 9) hX mcl_5 (by decide) mq_269 rfl md_B_fit_1 (fun v1 => ?_)
  refine sp_iconst (pc := 4) hX md_B_fit_4 ?_
  refine sp_callSV (pc := 5) (y := my_A_fill) (ccy := prog_16_method_103_code) (nLy := 4) (ret := none) (rmy := mr_A_fill) (n := 2) (idx := 21) (As := [.ref v1, .int (iI (0 : Int))]) (st := []) (cells' := 0) (slots' := 0) hX (fun _ h => mc_A_fill h) mk_A_fill mq_345 mq_690 ⟨(Nat.le_of_ble_eq_true rfl), (Nat.le_of_ble_eq_true rfl)⟩ rfl rfl (Nat.le_of_ble_eq_true rfl) ⟨(Nat.le_of_ble_eq_true rfl), (Nat.le_of_ble_eq_true rfl)⟩ rfl rfl md_B_fit_5 (fun s2 => ?_)
  refine sp_aload_n (pc := 8) (k := 0) (i := 0) hX rfl 0 rfl md_B_fit_8 ?_
  refine sp_getR (pc := 9) (ci := 5) (k := 1) (idx := 15) hX mcl_5 (by decide) mq_271 rfl md_B_fit_9 (fun v3 => ?_)
  refine sp_iconst (pc := 12) hX md_B_fit_12 ?_
  refine sp_callSV (pc := 13) (y := my_A_fill) (ccy := prog_16_method_103_code) (nLy := 4) (ret := none) (rmy := mr_A_fill) (n := 2) (idx := 21) (As := [.ref v3, .int (iI (0 : Int))]) (st := []) (cells' := 0) (slots' := 0) hX (fun _ h => mc_A_fill h) mk_A_fill mq_345 mq_690 ⟨(Nat.le_of_ble_eq_true rfl), (Nat.le_of_ble_eq_true rfl)⟩ rfl rfl (Nat.le_of_ble_eq_true rfl) ⟨(Nat.le_of_ble_eq_true rfl), (Nat.le_of_ble_eq_true rfl)⟩ rfl rfl md_B_fit_13 (fun s4 => ?_)
  refine sp_aload_n (pc := 16) (k := 0) (i := 0) hX rfl 0 rfl md_B_fit_16 ?_
  refine sp_getR (pc := 17) (ci := 5) (k := 0) (idx := 9) hX mcl_5 (by decide) mq_269 rfl md_B_fit_17 (fun v5 => ?_)
  refine sp_iconst (pc := 20) hX md_B_fit_20 ?_
  refine sp_iconst (pc := 21) hX md_B_fit_21 ?_
  refine sp_iastore (pc := 22) hX md_B_fit_22 (fun s6 => ?_)
  refine sp_aload_n (pc := 23) (k := 0) (i := 0) hX rfl 0 rfl md_B_fit_23 ?_
  refine sp_getR (pc := 24) (ci := 5) (k := 1) (idx := 15) hX mcl_5 (by decide) mq_271 rfl md_B_fit_24 (fun v7 => ?_)
  refine sp_iconst (pc := 27) hX md_B_fit_27 ?_
  refine sp_iconst (pc := 28) hX md_B_fit_28 ?_
  refine sp_iastore (pc := 29) hX md_B_fit_29 (fun s8 => ?_)
  refine sp_aload_n (pc := 30) (k := 0) (i := 0) hX rfl 0 rfl md_B_fit_30 ?_
  refine sp_iconst (pc := 31) hX md_B_fit_31 ?_
  refine sp_putI (pc := 32) (ci := 5) (k := 3) (idx := 27) hX mcl_5 (by decide) mq_273 rfl rfl rfl md_B_fit_32 (fun s9 => ?_)
  refine sp_iconst (pc := 35) hX md_B_fit_35 ?_
  refine sp_istore (pc := 36) (i := 4) (L' := [(4, Value.int (iI (1 : Int))), (0, Value.ref x0), (1, Value.ref x1), (2, Value.int (iI x2)), (3, Value.int (iI x3))]) hX (by decide) rfl md_B_fit_36 ?_
  refine sp_iconst (pc := 38) hX md_B_fit_38 ?_
  refine sp_istore (pc := 39) (i := 5) (L' := [(5, Value.int (iI (1 : Int))), (4, Value.int (iI (1 : Int))), (0, Value.ref x0), (1, Value.ref x1), (2, Value.int (iI x2)), (3, Value.int (iI x3))]) hX (by decide) rfl md_B_fit_39 ?_
  refine sp_iconst (pc := 41) hX md_B_fit_41 ?_
  refine sp_istore (pc := 42) (i := 6) (L' := [(6, Value.int (iI (0 : Int))), (5, Value.int (iI (1 : Int))), (4, Value.int (iI (1 : Int))), (0, Value.ref x0), (1, Value.ref x1), (2, Value.int (iI x2)), (3, Value.int (iI x3))]) hX (by decide) rfl md_B_fit_42 ?_
  refine sp_sub [3, 4, 5, 6, 2, 1, 0] (L' := [(0, Value.ref x0), (1, Value.ref x1), (2, Value.int (iI x2)), (3, Value.int (iI x3)), (4, Value.int (iI (1 : Int))), (5, Value.int (iI (1 : Int))), (6, Value.int (iI (0 : Int)))]) rfl ?_
  exact sl_B_fit_44 hX hR 1000 x0 x1 x2 x3 (1 : Int) (1 : Int) (0 : Int) s9
